/-! different -/
def dt_sm (f : Nat → Nat) : Nat → Nat
  | 0 => 0
  | n + 1 => dt_sm f n + f n
theorem dt_cn_c {P : Nat → Prop} {c : Nat} : ∀ n, c ≤ n → dt_cn (fun k => k < c ∧ P k) n = dt_cn P c := by
  intro n
  induction n with
  | zero => intro h; rw [show c = 0 by omega]; rfl
  | succ n ih =>
    intro h
    by_cases e : c = n + 1
    · subst e
      exact dt_cnc _ (fun i hi => ⟨fun z => z.2, fun z => ⟨hi, z⟩⟩)
    · rw [dt_cn, ih (by omega), dt_1z (c := n < c ∧ P n) (fun z => by omega), Nat.add_zero]
section
variable (va : Nat → Int32) (cf : Nat → Nat) (a : Nat)
def dt_HB (x : Nat) (v : Int32) : Prop := ∃ y, 0 ≤ y ∧ y < x ∧ dt_pl va (y * 6 + a) (cf y) v ≠ none
def dt_Fr (x k : Nat) : Prop := ¬ dt_HB va cf a x (va ((x * 6 + a) * 4 + k))
theorem dt_M4 (hc : ∀ y, y < 24 → cf y ≤ 4) : ∀ x, x ≤ 24 → dt_cn (fun p => p % 4 < cf (p / 4) ∧ dt_Fr va cf a (p / 4) (p % 4)) (4 * x) = dt_sm (fun y => dt_cn (dt_Fr va cf a y) (cf y)) x := by
  intro x
  induction x with
  | zero => intro _; rfl
  | succ x ih =>
    intro hx
    have h1 := ih (by omega)
    have key : ∀ j, j ≤ 4 → dt_cn (fun p => p % 4 < cf (p / 4) ∧ dt_Fr va cf a (p / 4) (p % 4)) (4 * x + j) = dt_cn (fun p => p % 4 < cf (p / 4) ∧ dt_Fr va cf a (p / 4) (p % 4)) (4 * x) + dt_cn (fun k => k < cf x ∧ dt_Fr va cf a x k) j := by
      intro j
      induction j with
      | zero => intro _; rfl
      | succ j ihj =>
        intro hj
        have := ihj (by omega)
        show dt_cn _ (4 * x + j) + dt_1 ((4 * x + j) % 4 < cf ((4 * x + j) / 4) ∧ dt_Fr va cf a ((4 * x + j) / 4) ((4 * x + j) % 4)) = _
        rw [this, show (4 * x + j) % 4 = j by omega, show (4 * x + j) / 4 = x by omega]
        rw [dt_cn]
        omega
    rw [show 4 * (x + 1) = 4 * x + 4 by omega, key 4 (by omega), h1, dt_cn_c 4 (hc x (by omega)), dt_sm]
end
section
variable {ec tc fc : Int32} {tk pa na cl od al vc va tK tA tV tF : Nat → Int32} {co pt oy wt : Nat → Int32}
variable {cf : Nat → Nat} {a : Nat}
theorem xhb_l {post : Int32 → Prop} {x : Nat} {v : Int32} (hx : x < 24) (ha : a < 6) (hc : ∀ y, y < 24 → cf y ≤ 4 ∧ vc (y * 6 + a) = nI (cf y)) : ∀ d y : Nat, y + d = x → post (dt_b (∃ z, y ≤ z ∧ z < x ∧ dt_pl va (z * 6 + a) (cf z) v ≠ none)) → wX_isHeldBefore_3 post (nI x) (nI a) v ec tc fc tk pa na cl od al vc va tK tA tV tF (d + 1) (nI y) := by
  intro d
  induction d with
  | zero =>
    intro y hy hp
    rw [dt_b0 (fun ⟨z, z1, z2, _⟩ => by omega)] at hp
    exact br_t (nI_le (by omega) (by omega)) hp
  | succ d ih =>
    intro y hy hp
    obtain ⟨c4, cv⟩ := hc y (by omega)
    rw [wX_isHeldBefore_3]; dsimp only
    refine br_f (nI_ge (by omega) (by omega)) ?_
    unfold wpX_setOf
    rw [dt_6x]; dsimp only
    refine xp_v (by omega) cv c4 ?_
    rcases hq : dt_pl va (y * 6 + a) (cf y) v with _ | q
    · refine br_t rfl (nm_r (nI_1 y) (ih (y + 1) (by omega) ?_))
      rw [dt_bc (d := ∃ z, y + 1 ≤ z ∧ z < x ∧ dt_pl va (z * 6 + a) (cf z) v ≠ none) ⟨fun ⟨z, z1, z2, z3⟩ => ⟨z, by
        by_cases e : z = y
        · subst e; exact absurd hq z3
        · omega, z2, z3⟩, fun ⟨z, z1, z2, z3⟩ => ⟨z, by omega, z2, z3⟩⟩] at hp
      exact hp
    · obtain ⟨q1, q2, _⟩ := dt_fds (cf y) 0 hq
      rw [dt_b1 ⟨y, by omega, by omega, by rw [hq]; exact fun z => nomatch z⟩] at hp
      exact br_f (dt_m1 (by omega)) hp
theorem xdf_i {post : Int32 → Prop} {J14 : Int32 → Int32 → Prop} {x n0 : Nat} (hx : x < 24) (ha : a < 6) (hc : ∀ y, y < 24 → cf y ≤ 4 ∧ vc (y * 6 + a) = nI (cf y)) (H : J14 (nI (n0 + dt_cn (dt_Fr va cf a x) (cf x))) (nI (x + 1))) : ∀ d k : Nat, k + d = cf x → wX_different_30 post J14 (nI a) (nI x) (nI (x * 6 + a)) ec tc fc tk pa na cl od al vc va tK tA tV tF (d + 1) (nI (n0 + dt_cn (dt_Fr va cf a x) k)) (nI k) := by
  obtain ⟨c4, cv⟩ := hc x hx
  have hv : vp_in (nI (x * 6 + a)) 144 := vp_in_nI (by omega) (by decide)
  intro d
  induction d with
  | zero =>
    intro k hk
    rw [wX_different_30]; dsimp only
    rw [nI_clamp (by omega), cv, show k = cf x by omega]
    exact ⟨hv, br_t (nI_le (by omega) (by omega)) (nm_r (nI_1 x) H)⟩
  | succ d ih =>
    intro k hk
    have h1 := ih (k + 1) (by omega)
    rw [wX_different_30]; dsimp only
    rw [nI_clamp (show x * 6 + a < 2 ^ 31 by omega), cv, dt_4x, nI_clamp (by omega)]
    refine ⟨hv, br_f (nI_ge (by omega) (by omega)) ⟨vp_in_nI (by omega) (by decide), ⟨x + 1, xhb_l hx ha hc x 0 (by omega) ?_⟩⟩⟩
    rw [dt_cn] at h1
    by_cases hB : ∃ z, 0 ≤ z ∧ z < x ∧ dt_pl va (z * 6 + a) (cf z) (va ((x * 6 + a) * 4 + k)) ≠ none
    · rw [dt_1z (c := dt_Fr va cf a x k) (fun z => z hB)] at h1
      exact dt_tru hB (nm_r (nI_1 k) h1)
    · rw [dt_11 (c := dt_Fr va cf a x k) hB] at h1
      exact dt_fls hB (nm_r (nI_1 _) (nm_r (nI_1 k) h1))
theorem xdf_o {post : Int32 → Prop} (ha : a < 6) (hc : ∀ y, y < 24 → cf y ≤ 4 ∧ vc (y * 6 + a) = nI (cf y)) (hp : post (nI (dt_sm (fun y => dt_cn (dt_Fr va cf a y) (cf y)) 24))) : ∀ d x : Nat, x + d = 24 → wX_different_14 post (nI a) ec tc fc tk pa na cl od al vc va tK tA tV tF (d + 1) (nI (dt_sm (fun y => dt_cn (dt_Fr va cf a y) (cf y)) x)) (nI x) := by
  intro d
  induction d with
  | zero =>
    intro x hx
    have e : x = 24 := by omega
    subst e
    exact br_t (nI_le (a := 24) (b := 24) (by omega) (by decide)) hp
  | succ d ih =>
    intro x hx
    have h1 := ih (x + 1) (by omega)
    rw [wX_different_14]; dsimp only
    refine br_f (nI_ge (b := 24) (by omega) (by decide)) ?_
    unfold wpX_setOf
    rw [dt_6x]
    exact ⟨cf x + 1, xdf_i (by omega) ha hc h1 (cf x) 0 (by omega)⟩
theorem ydf_8 {post : Int32 → Prop} {J15 : Int32 → Int32 → Prop} {F : Prop} {n p : Nat} {x1 : Int32} (H : J15 (nI (n + dt_1 F)) (nI (p + 1))) : wY_different_128 post J15 x1 (nI n) (nI p) (dt_b F) tc fc tk pa na cl al co va tK tA tV pt oy wt := by
  unfold wY_different_128
  by_cases f : F
  · rw [dt_11 f] at H
    exact dt_tru f (nm_r (nI_1 n) (nm_r (nI_1 p) H))
  · rw [dt_1z f] at H
    exact dt_fls f (nm_r (nI_1 p) H)
theorem ydf_l {post : Int32 → Prop} {J15 : Int32 → Int32 → Prop} {n p : Nat} {v : Int32} (hp : p < 96) (ha : a < 6) (hc : ∀ y, y < 24 → cf y ≤ 4 ∧ (tk y ≠ 0 → co (y * 6 + a) = nI (cf y)) ∧ (tk y = 0 → cf y = 0)) : ∀ (d y : Nat) (g : Prop), y + d = p / 4 → J15 (nI (n + dt_1 (g ∧ ∀ z, y ≤ z → z < p / 4 → dt_pl va (z * 6 + a) (cf z) v = none))) (nI (p + 1)) → wY_different_80 post J15 (nI a) (nI n) (nI p) v tc fc tk pa na cl al co va tK tA tV pt oy wt (d + 1) (dt_b g) (nI y) := by
  have e4 : nI p / 4 = nI (p / 4) := pk_div (d := 4) (by omega) (by decide) (by decide)
  intro d
  induction d with
  | zero =>
    intro y g hy H
    rw [wY_different_80]; dsimp only
    rw [e4]
    refine ⟨by decide, br_t (nI_le (by omega) (by omega)) (ydf_8 ?_)⟩
    rw [dt_1c (d := g) ⟨fun z => z.1, fun z => ⟨z, fun i h1 h2 => by omega⟩⟩] at H
    exact H
  | succ d ih =>
    intro y g hy H
    obtain ⟨c4, c5, c6⟩ := hc y (by omega)
    rw [wY_different_80]; dsimp only
    rw [e4, nI_clamp (by omega)]
    refine ⟨by decide, br_f (nI_ge (by omega) (by omega)) ?_⟩
    by_cases hg : g
    · refine dt_tru hg ⟨vp_in_nI (by omega) (by decide), ?_⟩
      have go : dt_pl va (y * 6 + a) (cf y) v = none → wY_different_80 post J15 (nI a) (nI n) (nI p) v tc fc tk pa na cl al co va tK tA tV pt oy wt (d + 1) 1 (nI (y + 1)) := fun hn => by
        have := ih (y + 1) True (by omega) (by
          rw [dt_1c (d := g ∧ ∀ z, y ≤ z → z < p / 4 → dt_pl va (z * 6 + a) (cf z) v = none) ⟨fun q => ⟨hg, fun z h1 h2 => if e : z = y then by rw [e]; exact hn else q.2 z (by omega) h2⟩, fun q => ⟨trivial, fun z h1 h2 => q.2 z (by omega) h2⟩⟩]
          exact H)
        rw [dt_b1 trivial] at this
        exact this
      by_cases ht : tk y = 0
      · exact br_t ht (nm_r (nI_1 y) (go (by rw [c6 ht]; rfl)))
      · refine br_f ht (yp_v (by omega) ha (c5 ht) c4 ?_)
        rcases hq : dt_pl va (y * 6 + a) (cf y) v with _ | q
        · exact br_f (show ¬ (0 : Int32) ≤ -1 by decide) (nm_r (nI_1 y) (go hq))
        · obtain ⟨q1, q2, _⟩ := dt_fds (cf y) 0 hq
          refine br_t (nI_pos' (by omega)) (nm_r (nI_1 y) ?_)
          have := ih (y + 1) False (by omega) (by
            rw [dt_1c (d := g ∧ ∀ z, y ≤ z → z < p / 4 → dt_pl va (z * 6 + a) (cf z) v = none) ⟨fun q => q.1.elim, fun q => by
              have := q.2 y (by omega) (by omega)
              rw [hq] at this
              exact nomatch this⟩]
            exact H)
          rw [dt_b0 (fun z => z)] at this
          exact this
    · refine dt_fls hg (ydf_8 ?_)
      rw [dt_1c (d := g) ⟨fun z => z.1, fun z => absurd z hg⟩] at H
      exact H
theorem ydf_o {post : Int32 → Prop} (ha : a < 6) (hc : ∀ y, y < 24 → cf y ≤ 4 ∧ (tk y ≠ 0 → co (y * 6 + a) = nI (cf y)) ∧ (tk y = 0 → cf y = 0)) (hp : post (nI (dt_cn (fun p => p % 4 < cf (p / 4) ∧ dt_Fr va cf a (p / 4) (p % 4)) 96))) : ∀ d p : Nat, p + d = 96 → wY_different_15 post (nI a) tc fc tk pa na cl al co va tK tA tV pt oy wt (d + 1) (nI (dt_cn (fun p => p % 4 < cf (p / 4) ∧ dt_Fr va cf a (p / 4) (p % 4)) p)) (nI p) := by
  intro d
  induction d with
  | zero =>
    intro p hp2
    have e : p = 96 := by omega
    subst e
    exact br_t (nI_le (a := 96) (b := 96) (by omega) (by decide)) hp
  | succ d ih =>
    intro p hp2
    have h1 := ih (p + 1) (by omega)
    obtain ⟨c4, c5, c6⟩ := hc (p / 4) (by omega)
    have e4 : nI p / 4 = nI (p / 4) := pk_div (d := 4) (by omega) (by decide) (by decide)
    have e5 : nI p - nI p / 4 * 4 = nI (p % 4) := pk_rem (d := 4) (by omega) (by decide) (by decide)
    rw [dt_cn] at h1
    have go : ∀ g : Prop, (g ↔ (tk (p / 4) ≠ 0 ∧ p % 4 < cf (p / 4))) → wY_different_60 post (wY_different_15 post (nI a) tc fc tk pa na cl al co va tK tA tV pt oy wt (d + 1)) (nI a) (nI (dt_cn (fun p => p % 4 < cf (p / 4) ∧ dt_Fr va cf a (p / 4) (p % 4)) p)) (nI p) (nI (p / 4 * 6 + a)) (dt_b g) tc fc tk pa na cl al co va tK tA tV pt oy wt := by
      intro g hg
      unfold wY_different_60
      rw [e5, dt_4y, nI_clamp (by omega)]
      refine ⟨by decide, vp_in_nI (by omega) (by decide), nm_e ⟨p / 4 + 1, ydf_l (by omega) ha hc (p / 4) 0 g (by omega) ?_⟩⟩
      rw [dt_1c (d := p % 4 < cf (p / 4) ∧ dt_Fr va cf a (p / 4) (p % 4)) ⟨fun z => ⟨(hg.mp z.1).2, fun ⟨y, y1, y2, y3⟩ => y3 (z.2 y y1 y2)⟩, fun z => ⟨hg.mpr ⟨fun q => by have := c6 q; omega, z.1⟩, fun y y1 y2 => Classical.byContradiction fun q => z.2 ⟨y, y1, y2, q⟩⟩⟩]
      exact h1
    rw [wY_different_15]; dsimp only
    rw [e5, e4, nI_clamp (show p / 4 < 2 ^ 31 by omega)]
    refine br_f (nI_ge (b := 96) (by omega) (by decide)) ⟨by decide, nm_r (dt_6y _ _) ⟨by decide, vp_in_nI (by omega) (by decide), ?_⟩⟩
    by_cases ht : tk (p / 4) = 0
    · have := go False ⟨False.elim, fun z => absurd ht z.1⟩
      rw [dt_b0 (fun z => z)] at this
      exact br_t ht this
    · refine br_f ht ⟨by decide, vp_in_nI (by omega) (by decide), ?_⟩
      rw [nI_clamp (by omega), c5 ht]
      by_cases hl : p % 4 < cf (p / 4)
      · have := go True ⟨fun _ => ⟨ht, hl⟩, fun _ => trivial⟩
        rw [dt_b1 trivial] at this
        exact br_f (nI_ge (by omega) (by omega)) this
      · have := go False ⟨False.elim, fun z => absurd z.2 hl⟩
        rw [dt_b0 (fun z => z)] at this
        exact br_t (nI_le (by omega) (by omega)) this
end
theorem i_vc_different {k : Nat} {u : SX} {v : SY} (I : i_Rel k u v) (hk : k + 4 ≤ 2048) (v1 : Int32) : wpX_different (fun r => wpY_different (fun r' => r' = r ∧ i_Rel (k + 4) u v) v v1) u v1 := by
  have I0 := I
  obtain ⟨tcn, fcn, tk, pa, na, cl, od, al, vc, va, tK, tA, tV, tF, co, pt, oy, wt, rfl, rfl, R⟩ := I
  obtain ⟨T, C, O, V, K⟩ := R
  unfold wpX_different wpY_different; dsimp only
  by_cases hA : dt_L 6 v1
  · obtain ⟨a, ha, rfl⟩ := hA
    have hc : ∀ y, y < 24 → (vc (y * 6 + a)).toNatClampNeg ≤ 4 ∧ vc (y * 6 + a) = nI (vc (y * 6 + a)).toNatClampNeg ∧ (tk y ≠ 0 → co (y * 6 + a) = nI (vc (y * 6 + a)).toNatClampNeg) ∧ (tk y = 0 → (vc (y * 6 + a)).toNatClampNeg = 0) := by
      intro y hy
      obtain ⟨c, c4, cx, cy, cz, _⟩ := V y hy a ha
      rw [cx, nI_clamp (by omega)]
      exact ⟨c4, rfl, cy, cz⟩
    refine xa_t ha (br_f dt_10 ⟨25, xdf_o (cf := fun y => (vc (y * 6 + a)).toNatClampNeg) ha (fun y hy => ⟨(hc y hy).1, (hc y hy).2.1⟩) ?_ 24 0 rfl⟩)
    refine ya_t ha (br_f dt_10 ⟨97, ydf_o (cf := fun y => (vc (y * 6 + a)).toNatClampNeg) ha (fun y hy => ⟨(hc y hy).1, (hc y hy).2.2⟩) ?_ 96 0 rfl⟩)
    refine ⟨?_, I0⟩
    rw [← dt_M4 va (fun y => (vc (y * 6 + a)).toNatClampNeg) a (fun y hy => (hc y hy).1) 24 (Nat.le_refl _)]
  · exact xa_f hA (br_t rfl (ya_f hA (br_t rfl ⟨rfl, I0⟩)))
