/-! matches, what a kind allows, places of values -/
theorem dt_ltb {n k : Nat} (hn : n < 2 ^ 31) : dt_lt n k < 2 ^ 31 := by
  unfold dt_lt
  by_cases h0 : k = 0
  · rw [if_pos h0]; omega
  · rw [if_neg h0]
    by_cases h1 : k = 1
    · rw [if_pos h1]; omega
    · rw [if_neg h1]; omega
theorem dt_SA_iff {w v p : Nat} : dt_SA w v p = true ↔ (p + dt_ln v ≤ dt_ln w ∧ ∀ k, k < dt_ln v → dt_lt w (p + k) = dt_lt v k) := by
  simp [dt_SA]
section
variable {tn hh : Int32} {th pp nn kk aw co vb sk sa sw pt oy wt : Nat → Int32}
theorem y_sl {post : Int32 → Prop} {w v p : Nat} (hw : w < 216) (hv : v < 216) (hp3 : p < 3) : ∀ (d k : Nat) (g : Prop), k + d = dt_ln v → post (dt_b (g ∧ ∀ i, k ≤ i → i < dt_ln v → dt_lt w (p + i) = dt_lt v i)) → wY_standsAt_27 post (nI w) (nI v) (nI p) (nI (dt_ln v)) tn hh th pp nn kk aw co vb sk sa sw pt oy wt (d + 1) (dt_b g) (nI k) := by
  have hl3 := dt_ln3 v
  intro d
  induction d with
  | zero =>
    intro k g hk hp
    rw [dt_bc (d := g) ⟨fun z => z.1, fun z => ⟨z, fun i h1 h2 => by omega⟩⟩] at hp
    exact br_t (nI_le (by omega) (by omega)) ⟨dt_bn _, hp⟩
  | succ d ih =>
    intro k g hk hp
    rw [wY_standsAt_27]; dsimp only
    refine br_f (nI_ge (by omega) (by omega)) ?_
    by_cases hg : g
    · refine dt_tru hg ?_
      rw [nI_add]
      refine y_let (by omega) (by omega) (y_let (by omega) (by omega) ?_)
      by_cases h : dt_lt w (p + k) = dt_lt v k
      · refine br_t (by rw [h]) (nm_r (nI_1 k) ?_)
        have := ih (k + 1) True (by omega) (by
          rw [dt_bc (d := g ∧ ∀ i, k ≤ i → i < dt_ln v → dt_lt w (p + i) = dt_lt v i) ⟨fun z => ⟨hg, fun i h1 h2 => if e : i = k then by rw [e]; exact h else z.2 i (by omega) h2⟩, fun z => ⟨trivial, fun i h1 h2 => z.2 i (by omega) h2⟩⟩]
          exact hp)
        rw [dt_b1 trivial] at this
        exact this
      · refine br_f (fun z => h ((nI_eq (dt_ltb (by omega)) (dt_ltb (by omega))).mp z)) (nm_r (nI_1 k) ?_)
        have := ih (k + 1) False (by omega) (by
          rw [dt_bc (d := g ∧ ∀ i, k ≤ i → i < dt_ln v → dt_lt w (p + i) = dt_lt v i) ⟨fun z => z.1.elim, fun z => absurd (z.2 k (by omega) (by omega)) h⟩]
          exact hp)
        rw [dt_b0 (fun z => z)] at this
        exact this
    · refine dt_fls hg (nm_r (nI_1 k) ?_)
      have := ih (k + 1) False (by omega) (by
        rw [dt_bc (d := g ∧ ∀ i, k ≤ i → i < dt_ln v → dt_lt w (p + i) = dt_lt v i) ⟨fun z => z.1.elim, fun z => absurd z.1 hg⟩]
        exact hp)
      rw [dt_b0 (fun z => z)] at this
      exact this
theorem y_sv {post : Int32 → Prop} {w v p : Nat} (hw : w < 216) (hv : v < 216) (hp3 : p < 3) (hp : post (dt_b (dt_SA w v p = true))) : wpY_standsAt post (tn, hh, th, pp, nn, kk, aw, co, vb, sk, sa, sw, pt, oy, wt) (nI w) (nI v) (nI p) := by
  unfold wpY_standsAt; dsimp only
  refine y_len (by omega) (y_len (by omega) ?_)
  have l1 := dt_ln3 v
  have l2 := dt_ln3 w
  rw [nI_add]
  by_cases h : p + dt_ln v ≤ dt_ln w
  · refine br_t (nI_le h (by omega)) ?_
    have := y_sl (tn := tn) (hh := hh) (th := th) (pp := pp) (nn := nn) (kk := kk) (aw := aw) (co := co) (vb := vb) (sk := sk) (sa := sa) (sw := sw) (pt := pt) (oy := oy) (wt := wt) (post := post) hw hv hp3 (dt_ln v) 0 True (by omega) (by
      rw [dt_bc (d := dt_SA w v p = true) ⟨fun z => dt_SA_iff.mpr ⟨h, fun k hk => z.2 k (by omega) hk⟩, fun z => ⟨trivial, fun i _ hi => (dt_SA_iff.mp z).2 i hi⟩⟩]
      exact hp)
    rw [dt_b1 trivial] at this
    exact ⟨_, this⟩
  · rw [dt_b0 (fun z => h (dt_SA_iff.mp z).1)] at hp
    exact br_f (nI_ge (by omega) (by omega)) hp
theorem y_ml {post : Int32 → Prop} {w v : Nat} (hw : w < 216) (hv : v < 216) : ∀ (d k : Nat) (g : Prop), k + d = 3 → post (dt_b (g ∨ ∃ i, k ≤ i ∧ i < 3 ∧ dt_SA w v i = true)) → wY_meets_63 post 4 (nI w) (nI v) tn hh th pp nn kk aw co vb sk sa sw pt oy wt (d + 1) (dt_b g) (nI k) := by
  intro d
  induction d with
  | zero =>
    intro k g hk hp
    rw [dt_bc (d := g) ⟨fun z => z.elim id (fun ⟨i, a, b, _⟩ => by omega), Or.inl⟩] at hp
    exact br_t (nI_le (a := 3) (by omega) (by omega)) ⟨dt_bn _, hp⟩
  | succ d ih =>
    intro k g hk hp
    rw [wY_meets_63]; dsimp only
    refine br_f (nI_ge (b := 3) (by omega) (by decide)) (br_t rfl ?_)
    by_cases hg : g
    · refine dt_tru hg (nm_r (nI_1 k) ?_)
      have := ih (k + 1) True (by omega) (by
        rw [dt_bc (d := g ∨ ∃ i, k ≤ i ∧ i < 3 ∧ dt_SA w v i = true) ⟨fun _ => Or.inl hg, fun _ => Or.inl trivial⟩]
        exact hp)
      rw [dt_b1 trivial] at this
      exact this
    · refine dt_fls hg (y_sv hw hv (by omega) ?_)
      by_cases h : dt_SA w v k = true
      · refine dt_tru h (nm_r (nI_1 k) ?_)
        have := ih (k + 1) True (by omega) (by
          rw [dt_bc (d := g ∨ ∃ i, k ≤ i ∧ i < 3 ∧ dt_SA w v i = true) ⟨fun _ => Or.inr ⟨k, by omega, by omega, h⟩, fun _ => Or.inl trivial⟩]
          exact hp)
        rw [dt_b1 trivial] at this
        exact this
      · refine dt_fls h (nm_r (nI_1 k) ?_)
        have := ih (k + 1) False (by omega) (by
          rw [dt_bc (d := g ∨ ∃ i, k ≤ i ∧ i < 3 ∧ dt_SA w v i = true) ⟨fun z => z.elim False.elim (fun ⟨i, a, b, c⟩ => Or.inr ⟨i, by omega, b, c⟩), fun z => z.elim (fun q => absurd q hg) (fun ⟨i, a, b, c⟩ => Or.inr ⟨i, by
            by_cases e : i = k
            · subst e; exact absurd c h
            · omega, b, c⟩)⟩]
          exact hp)
        rw [dt_b0 (fun z => z)] at this
        exact this
/-- one truth for both sides' matches -/
theorem m_v {j : Nat} (hj : j < 5) {a val v : Int32} (hw : 2 < j → dt_Wi val ∧ dt_Wi v) : ∃ c : Prop, (∀ post : Int32 → Prop, post (dt_b c) → wpX_isMatch post (nI j) a val v) ∧ (∀ (post : Int32 → Prop) (tn hh : Int32) (th pp nn kk aw co vb sk sa sw pt oy wt : Nat → Int32), post (dt_b c) → wpY_meets post (tn, hh, th, pp, nn, kk, aw, co, vb, sk, sa, sw, pt, oy, wt) (nI j) a val v) := by
  have hj5 : j = 0 ∨ j = 1 ∨ j = 2 ∨ j = 3 ∨ j = 4 := by omega
  rcases hj5 with rfl | rfl | rfl | rfl | rfl
  · refine ⟨True, fun post hp => ?_, fun post tn hh th pp nn kk aw co vb sk sa sw pt oy wt hp => ?_⟩
    · rw [dt_b1 trivial] at hp
      exact br_f (by decide) (br_f (by decide) (br_t rfl hp))
    · rw [dt_b1 trivial] at hp
      exact br_t rfl hp
  · refine ⟨val = v, fun post hp => ?_, fun post tn hh th pp nn kk aw co vb sk sa sw pt oy wt hp => ?_⟩
    · refine br_f (by decide) (br_f (by decide) (br_f (by decide) (br_t rfl ?_)))
      by_cases h : val = v
      · rw [dt_b1 h] at hp; exact br_t h hp
      · rw [dt_b0 h] at hp; exact br_f h hp
    · refine br_f (by decide) (br_t rfl ?_)
      by_cases h : val = v
      · rw [dt_b1 h] at hp; exact br_t h hp
      · rw [dt_b0 h] at hp; exact br_f h hp
  · refine ⟨¬ dt_rk a val < dt_rk a v, fun post hp => ?_, fun post tn hh th pp nn kk aw co vb sk sa sw pt oy wt hp => ?_⟩
    · refine br_f (by decide) (br_f (by decide) (br_f (by decide) (br_f (by decide) (br_t rfl (xr_v (xr_v ?_))))))
      by_cases h : dt_rk a val < dt_rk a v
      · rw [dt_b0 (fun z => z h)] at hp; exact br_t h hp
      · rw [dt_b1 h] at hp; exact br_f h hp
    · refine br_f (by decide) (br_f (by decide) (br_t rfl (yr_v (yr_v ?_))))
      by_cases h : dt_rk a val < dt_rk a v
      · rw [dt_b0 (fun z => z h)] at hp; exact br_t h hp
      · rw [dt_b1 h] at hp; exact br_f h hp
  · obtain ⟨⟨n, rfl, hn⟩, ⟨m, rfl, hm⟩⟩ := hw (by omega)
    have n216 := hn.1
    have m216 := hm.1
    refine ⟨dt_BW n m = true, fun post hp => ?_, fun post tn hh th pp nn kk aw co vb sk sa sw pt oy wt hp => ?_⟩
    · exact br_f (by decide) (br_f (by decide) (br_f (by decide) (br_f (by decide) (br_f (by decide) (br_t rfl (xg_v (by omega) (by omega) ⟨dt_bn _, hp⟩))))))
    · refine br_f (by decide) (br_f (by decide) (br_f (by decide) (y_sv (p := 0) n216 m216 (by decide) ⟨1, ?_⟩)))
      rw [(dt_ck2 hn hm).1]
      exact br_f (by decide) (br_f (by decide) ⟨dt_bn _, hp⟩)
  · obtain ⟨⟨n, rfl, hn⟩, ⟨m, rfl, hm⟩⟩ := hw (by omega)
    have n216 := hn.1
    have m216 := hm.1
    refine ⟨(dt_BW n m || dt_BW (n / 6) m || dt_BW (n / 36) m) = true, fun post hp => ?_, fun post tn hh th pp nn kk aw co vb sk sa sw pt oy wt hp => ?_⟩
    · refine br_f (by decide) (br_t (by decide) (xg_v (by omega) (by omega) ?_))
      by_cases h1 : dt_BW n m = true
      · rw [dt_b1 (by rw [h1]; rfl)] at hp
        exact dt_tru h1 hp
      · refine dt_fls h1 ⟨by decide, ?_⟩
        rw [show nI n / 6 = nI (n / 6) from pk_div (d := 6) (by omega) (by decide) (by decide)]
        refine xg_v (by omega) (by omega) ?_
        by_cases h2 : dt_BW (n / 6) m = true
        · rw [dt_b1 (by rw [h2]; simp)] at hp
          exact dt_tru h2 hp
        · refine dt_fls h2 ⟨by decide, ?_⟩
          rw [show nI n / 36 = nI (n / 36) from pk_div (d := 36) (by omega) (by decide) (by decide)]
          refine xg_v (by omega) (by omega) ?_
          by_cases h3 : dt_BW (n / 36) m = true
          · rw [dt_b1 (by rw [h3]; simp)] at hp
            exact dt_tru h3 hp
          · rw [dt_b0 (by simp [h1, h2, h3])] at hp
            exact dt_fls h3 hp
    · rw [← (dt_ck2 hn hm).2] at hp
      refine br_f (by decide) (br_f (by decide) (br_f (by decide) (y_sv (p := 0) n216 m216 (by decide) ⟨3, ?_⟩)))
      exact y_ml n216 m216 2 1 (dt_SA n m 0 = true) rfl (by
        rw [dt_bc (d := (dt_SA n m 0 || dt_SA n m 1 || dt_SA n m 2) = true) ⟨fun z => by
          rcases z with z | ⟨i, a1, a2, a3⟩
          · simp [z]
          · rcases (show i = 1 ∨ i = 2 by omega) with rfl | rfl <;> simp [a3], fun z => by
          simp only [Bool.or_eq_true] at z
          rcases z with (z | z) | z
          · exact Or.inl z
          · exact Or.inr ⟨1, by omega, by omega, z⟩
          · exact Or.inr ⟨2, by omega, by omega, z⟩⟩]
        exact hp)
end
section
variable {ec tc fc : Int32} {tk pa na cl od al vc va tK tA tV tF : Nat → Int32}
variable {tn hh : Int32} {th pp nn kk aw co vb sk sa sw pt oy wt : Nat → Int32}
def dt_al (al cl : Nat → Int32) (e : Nat) (a : Int32) : Prop := ((al (cl e).toNatClampNeg) >>> (a &&& 31)) &&& 1 = 1
theorem xl_v {post : Int32 → Prop} {e : Nat} {a : Int32} (he : e < 24) (hc : dt_L 4 (cl e)) (hp : post (dt_b (dt_al al cl e a))) : wpX_isAllowed post (ec, tc, fc, tk, pa, na, cl, od, al, vc, va, tK, tA, tV, tF) (nI e) a := by
  unfold wpX_isAllowed; dsimp only
  rw [nI_clamp (by omega)]
  obtain ⟨c, hc4, ec⟩ := hc
  refine ⟨vp_in_nI he (by decide), by rw [ec]; exact vp_in_nI hc4 (by decide), ?_⟩
  by_cases h : dt_al al cl e a
  · rw [dt_b1 h] at hp; exact br_t h hp
  · rw [dt_b0 h] at hp; exact br_f h hp
theorem yl_v {post : Int32 → Prop} {e : Nat} {a : Int32} (he : e < 24) (hc : dt_L 4 (kk e)) (hp : post (dt_b (dt_al aw kk e a))) : wpY_allows post (tn, hh, th, pp, nn, kk, aw, co, vb, sk, sa, sw, pt, oy, wt) (nI e) a := by
  unfold wpY_allows; dsimp only
  rw [nI_clamp (by omega)]
  obtain ⟨c, hc4, ec⟩ := hc
  refine ⟨vp_in_nI he (by decide), by rw [ec]; exact vp_in_nI hc4 (by decide), ?_⟩
  by_cases h : dt_al aw kk e a
  · rw [dt_b1 h] at hp; exact br_t h hp
  · rw [dt_b0 h] at hp; exact br_f h hp
noncomputable def dt_pl (va : Nat → Int32) (s c : Nat) (v : Int32) : Option Nat := dt_fd (fun k => va (s * 4 + k) = v) c 0
theorem xp_l {post : Int32 → Prop} {s c : Nat} {v : Int32} (hs : s < 144) (hc : vc s = nI c) (hc4 : c ≤ 4) : ∀ d k : Nat, k + d = c → post (dt_o (-1) (dt_fd (fun k => va (s * 4 + k) = v) d k)) → wX_placeOf_2 post (nI s) v ec tc fc tk pa na cl od al vc va tK tA tV tF (d + 1) (nI k) := by
  intro d
  induction d with
  | zero =>
    intro k hk hp
    rw [wX_placeOf_2]; dsimp only
    rw [nI_clamp (by omega), hc]
    exact ⟨vp_in_nI hs (by decide), br_t (nI_le (by omega) (by omega)) hp⟩
  | succ d ih =>
    intro k hk hp
    have e1 : nI s * 4 + nI k = nI (s * 4 + k) := by rw [show nI s * 4 = nI (s * 4) from pk_mul s 4, nI_add]
    rw [wX_placeOf_2]; dsimp only
    rw [nI_clamp (by omega), hc, e1, nI_clamp (by omega)]
    refine ⟨vp_in_nI hs (by decide), br_f (nI_ge (by omega) (by omega)) ⟨vp_in_nI (by omega) (by decide), ?_⟩⟩
    by_cases h : va (s * 4 + k) = v
    · rw [dt_fdy h] at hp; exact br_t h hp
    · rw [dt_fdn h] at hp; exact br_f h (nm_r (nI_1 k) (ih (k + 1) (by omega) hp))
theorem xp_v {post : Int32 → Prop} {s c : Nat} {v : Int32} (hs : s < 144) (hc : vc s = nI c) (hc4 : c ≤ 4) (hp : post (dt_o (-1) (dt_pl va s c v))) : wpX_placeOf post (ec, tc, fc, tk, pa, na, cl, od, al, vc, va, tK, tA, tV, tF) (nI s) v := ⟨c + 1, xp_l hs hc hc4 c 0 (by omega) hp⟩
theorem yp_l {post : Int32 → Prop} {s c : Nat} {v : Int32} (hs : s < 144) (hc : co s = nI c) (hc4 : c ≤ 4) : ∀ d k : Nat, k + d = c → post (dt_o (-1) (dt_fd (fun k => vb (s * 4 + k) = v) d k)) → wY_placeOf_11 post v (nI s) tn hh th pp nn kk aw co vb sk sa sw pt oy wt (d + 1) (nI k) := by
  intro d
  induction d with
  | zero =>
    intro k hk hp
    rw [wY_placeOf_11]; dsimp only
    rw [nI_clamp (by omega), hc]
    exact ⟨vp_in_nI hs (by decide), br_t (nI_le (by omega) (by omega)) hp⟩
  | succ d ih =>
    intro k hk hp
    have e1 : 4 * nI s + nI k = nI (s * 4 + k) := by rw [Int32.mul_comm, show nI s * 4 = nI (s * 4) from pk_mul s 4, nI_add]
    rw [wY_placeOf_11]; dsimp only
    rw [nI_clamp (by omega), hc, e1, nI_clamp (by omega)]
    refine ⟨vp_in_nI hs (by decide), br_f (nI_ge (by omega) (by omega)) ⟨vp_in_nI (by omega) (by decide), ?_⟩⟩
    by_cases h : vb (s * 4 + k) = v
    · rw [dt_fdy h] at hp; exact br_t h hp
    · rw [dt_fdn h] at hp; exact br_f h (nm_r (nI_1 k) (ih (k + 1) (by omega) hp))
theorem dt_6x (e a : Nat) : nI e * 6 + nI a = nI (e * 6 + a) := by rw [show nI e * 6 = nI (e * 6) from pk_mul e 6, nI_add]
theorem dt_6y (e a : Nat) : 6 * nI e + nI a = nI (e * 6 + a) := by rw [Int32.mul_comm, dt_6x]
theorem dt_4x (e a : Nat) : nI e * 4 + nI a = nI (e * 4 + a) := by rw [show nI e * 4 = nI (e * 4) from pk_mul e 4, nI_add]
theorem dt_4y (e a : Nat) : 4 * nI e + nI a = nI (e * 4 + a) := by rw [Int32.mul_comm, dt_4x]
theorem yp_v {post : Int32 → Prop} {e a c : Nat} {v : Int32} (he : e < 24) (ha : a < 6) (hc : co (e * 6 + a) = nI c) (hc4 : c ≤ 4) (hp : post (dt_o (-1) (dt_pl vb (e * 6 + a) c v))) : wpY_placeOf post (tn, hh, th, pp, nn, kk, aw, co, vb, sk, sa, sw, pt, oy, wt) (nI e) (nI a) v := by
  unfold wpY_placeOf; dsimp only
  exact nm_r (dt_6y e a) ⟨c + 1, yp_l (by omega) hc hc4 c 0 (by omega) hp⟩
end
