/-! putInOrder and findOrder: both make the order -/
def dt_seq (o : Nat → Int32) : Nat → List Nat → Prop
  | _, [] => True
  | n, e :: K => o n = nI e ∧ dt_seq o (n + 1) K
def dt_stk (w : Nat → Int32) : List Nat → Prop
  | [] => True
  | e :: K => w K.length = nI e ∧ dt_stk w K
theorem dt_seq_ins {o o' : Nat → Int32} {p : Nat} (h : ∀ j, p < j → j < 24 → o' j = o (j - 1)) : ∀ (L : List Nat) (s : Nat), p ≤ s → s + L.length < 24 → dt_seq o s L → dt_seq o' (s + 1) L := by
  intro L
  induction L with
  | nil => intro s _ _ _; trivial
  | cons e K ih =>
    intro s hs hl hq
    rw [List.length_cons] at hl
    refine ⟨?_, ih (s + 1) (by omega) (by omega) hq.2⟩
    rw [h (s + 1) (by omega) (by omega)]
    exact hq.1
theorem dt_stk_upd {w : Nat → Int32} {k : Nat} {x : Int32} : ∀ L : List Nat, L.length ≤ k → dt_stk w L → dt_stk (upd w k x) L := by
  intro L
  induction L with
  | nil => intro _ _; trivial
  | cons e K ih =>
    intro hl hq
    rw [List.length_cons] at hl
    refine ⟨?_, ih (by omega) hq.2⟩
    rw [pk_un (by omega)]
    exact hq.1
section
variable {ec tc fc : Int32} {tk pa na cl od al vc va tK tA tV tF : Nat → Int32}
variable {tn hh : Int32} {th pp nn kk aw co vb sk sa sw pt oy wt : Nat → Int32}
theorem xi_l {p : Nat} {x : Int32} {post : SX → Prop} (hp : p < 24) (H : ∀ o' : Nat → Int32, (∀ j, j < p → o' j = od j) → o' p = x → (∀ j, p < j → j < 24 → o' j = od (j - 1)) → post (ec, tc, fc, tk, pa, na, cl, o', al, vc, va, tK, tA, tV, tF)) : ∀ (d : Nat) (c : Nat → Int32), p + d < 24 → (∀ j, j ≤ p + d → c j = od j) → (∀ j, p + d < j → j < 24 → c j = od (j - 1)) → wX_insertInOrder_3 post (nI p) x ec tc fc (d + 1) (nI (p + d)) tk pa na cl c al vc va tK tA tV tF := by
  intro d
  induction d with
  | zero =>
    intro c _ h1 h2
    rw [wX_insertInOrder_3]; dsimp only
    rw [nI_clamp (show p < 2 ^ 31 by omega)]
    refine br_t (nI_le (by omega) (by omega)) ⟨vp_in_nI hp (by decide), nm_e (H _ ?_ pk_us ?_)⟩
    · intro j hj
      rw [pk_un (by omega)]
      exact h1 j (by omega)
    · intro j hj hj2
      rw [pk_un (by omega)]
      exact h2 j (by omega) hj2
  | succ d ih =>
    intro c hd h1 h2
    rw [wX_insertInOrder_3]; dsimp only
    rw [show p + (d + 1) = p + d + 1 from rfl, nI_pred, pk_m1, nI_clamp (show p + d < 2 ^ 31 by omega), nI_clamp (show p + d + 1 < 2 ^ 31 by omega)]
    refine br_f (nI_ge (by omega) (by omega)) ⟨vp_in_nI (by omega) (by decide), vp_in_nI (by omega) (by decide), nm_e (nm_e (ih _ (by omega) ?_ ?_))⟩
    · intro j hj
      rw [pk_un (by omega)]
      exact h1 j (by omega)
    · intro j hj hj2
      by_cases e : j = p + d + 1
      · subst e
        rw [pk_us]
        exact h1 (p + d) (by omega)
      · rw [pk_un e]
        exact h2 j (by omega) hj2
theorem xi_v {p : Nat} {x : Int32} {post : SX → Prop} (hp : p < 24) (H : ∀ o' : Nat → Int32, (∀ j, j < p → o' j = od j) → o' p = x → (∀ j, p < j → j < 24 → o' j = od (j - 1)) → post (ec, tc, fc, tk, pa, na, cl, o', al, vc, va, tK, tA, tV, tF)) : wpX_insertInOrder post (ec, tc, fc, tk, pa, na, cl, od, al, vc, va, tK, tA, tV, tF) (nI p) x := by
  obtain ⟨d, hd⟩ : ∃ d, p + d = 23 := ⟨23 - p, by omega⟩
  have := xi_l hp H d od (by omega) (fun _ _ => rfl) (fun j h1 h2 => by omega)
  rw [hd] at this
  exact ⟨_, this⟩
theorem xo_in {n e : Nat} {K : List Nat} {post : SX → Prop} {J9 : Int32 → Int32 → Int32 → Int32 → (Nat → Int32) → (Nat → Int32) → (Nat → Int32) → (Nat → Int32) → (Nat → Int32) → (Nat → Int32) → (Nat → Int32) → (Nat → Int32) → (Nat → Int32) → (Nat → Int32) → (Nat → Int32) → (Nat → Int32) → Prop} (hl : n + 1 + (dt_kf tk pa na e 10 ++ K).length ≤ 24) (he : od n = nI e) (H : ∀ o' : Nat → Int32, (∀ i, i ≤ n → o' i = od i) → dt_seq o' (n + 1) (dt_kf tk pa na e 10 ++ K) → J9 (nI (n + 1)) ec tc fc tk pa na cl o' al vc va tK tA tV tF) : ∀ (j : Nat) (o : Nat → Int32), j ≤ 10 → (∀ i, i ≤ n → o i = od i) → dt_seq o (n + 1) (dt_kf tk pa na e (10 - j) ++ K) → wX_putInOrder_22 post J9 (nI n) (j + 1) (nI j + (-1)) ec tc fc tk pa na cl o al vc va tK tA tV tF := by
  intro j
  induction j with
  | zero =>
    intro o _ h1 h2
    exact br_t (show nI 0 + (-1) < 0 by decide) (nm_r (nI_1 n) (H o h1 h2))
  | succ j ih =>
    intro o hj h1 h2
    have hlen := dt_kf_len (tk := tk) (pa := pa) (na := na) (e := e) (10 - j) 10 (by omega)
    rw [List.length_append] at hl
    rw [wX_putInOrder_22]; dsimp only
    rw [pk_m1, nI_clamp (show n < 2 ^ 31 by omega), h1 n (Nat.le_refl _), he]
    refine br_f (nI_pos (by omega)) ⟨vp_in_nI (by omega) (by decide), xn_v ?_⟩
    have e9 : 9 - (9 - j) = j := by omega
    have e10 : 10 - j = 9 - j + 1 := by omega
    have e11 : 10 - (j + 1) = 9 - j := by omega
    rw [e11] at h2
    rcases hc : dt_nm tk pa na (nI e) (nI j) with _ | c
    · refine br_t rfl (nm_e (ih o (by omega) h1 ?_))
      rw [e10, dt_kf_n (by rw [e9]; exact hc)]
      exact h2
    · have hcs := dt_kf_s (tk := tk) (pa := pa) (na := na) (e := e) (d := 9 - j) (by rw [e9]; exact hc)
      rw [e10] at hlen ih
      rw [hcs] at hlen ih
      rw [List.length_cons] at hlen
      have hc24 := (dt_nm_s hc).2.1
      refine br_f (dt_m1 (by omega)) ?_
      rw [nI_1]
      refine xi_v (by omega) ?_
      intro o' a1 a2 a3
      dsimp only
      refine nm_e (ih o' (by omega) ?_ ⟨a2, ?_⟩)
      · intro i hi
        rw [a1 i (by omega)]
        exact h1 i hi
      · exact dt_seq_ins a3 (dt_kf tk pa na e (9 - j) ++ K) (n + 1) (Nat.le_refl _) (by rw [List.length_append]; omega) h2
theorem xo_l {post : SX → Prop} (T : dt_T0 tk pa na) (H : ∀ o' : Nat → Int32, (∀ i, i < dt_ec tk → o' i = nI (dt_at tk pa na i)) → post (nI (dt_ec tk), tc, fc, tk, pa, na, cl, o', al, vc, va, tK, tA, tV, tF)) : ∀ (d n : Nat) (o : Nat → Int32), n + d + 1 = dt_ec tk → dt_seq o n (dt_st tk pa na n).2 → (∀ i, i < n → o i = nI (dt_at tk pa na i)) → wX_putInOrder_9 post (d + 1) (nI n) (nI (dt_ec tk)) tc fc tk pa na cl o al vc va tK tA tV tF := by
  intro d
  induction d with
  | zero =>
    intro n o hn h1 h2
    obtain ⟨R, e, K, hst, hR, hl1, hl2, he, _⟩ := dt_st_lt T (show n < dt_ec tk by omega)
    have := dt_ec_le tk
    rw [hst] at h1
    refine br_t ?_ (H o ?_)
    · rw [← hn, Nat.add_zero, nI_pred]
      exact nI_le (Nat.le_refl _) (by omega)
    · intro i hi
      by_cases z : i = n
      · subst z
        rw [dt_at_s hst]
        exact h1.1
      · exact h2 i (by omega)
  | succ d ih =>
    intro n o hn h1 h2
    obtain ⟨R, e, K, hst, hR, hl1, hl2, he, _⟩ := dt_st_lt T (show n < dt_ec tk by omega)
    have := dt_ec_le tk
    rw [hst] at h1
    refine br_f ?_ ⟨11, ?_⟩
    · rw [← hn, nI_pred]
      exact nI_ge (by omega) (by omega)
    · have := xo_in (n := n) (e := e) (K := K) (od := o) (ec := nI (dt_ec tk)) (tc := tc) (fc := fc) (cl := cl) (al := al) (vc := vc) (va := va) (tK := tK) (tA := tA) (tV := tV) (tF := tF) (post := post) (J9 := wX_putInOrder_9 post (d + 1)) (by omega) h1.1 (fun o' a1 a2 => ih (n + 1) o' (by omega) (by rw [dt_st_s hst]; exact a2) (fun i hi => by
          rw [a1 i (by omega)]
          by_cases z : i = n
          · subst z
            rw [dt_at_s hst]
            exact h1.1
          · exact h2 i (by omega))) 10 o (Nat.le_refl _) (fun _ _ => rfl) h1.2
      rw [show nI 10 + (-1) = (9 : Int32) from by decide] at this
      exact this
theorem xo_v {post : SX → Prop} (T : dt_T0 tk pa na) (he : ec = nI (dt_ec tk)) (H : ∀ o' : Nat → Int32, (∀ i, i < dt_ec tk → o' i = nI (dt_at tk pa na i)) → post (ec, tc, fc, tk, pa, na, cl, o', al, vc, va, tK, tA, tV, tF)) : wpX_putInOrder post (ec, tc, fc, tk, pa, na, cl, od, al, vc, va, tK, tA, tV, tF) := by
  subst he
  have := dt_ec_pos T
  unfold wpX_putInOrder; dsimp only
  exact nm_e ⟨dt_ec tk - 1 + 1, xo_l T H (dt_ec tk - 1) 0 _ (by omega) ⟨pk_us, trivial⟩ (fun i hi => by omega)⟩
theorem yo_in {e : Nat} {K : List Nat} {x1 : Int32} {post : SY → Prop} {J11 : Int32 → Int32 → (Nat → Int32) → (Nat → Int32) → (Nat → Int32) → (Nat → Int32) → (Nat → Int32) → (Nat → Int32) → (Nat → Int32) → (Nat → Int32) → (Nat → Int32) → (Nat → Int32) → (Nat → Int32) → (Nat → Int32) → (Nat → Int32) → Prop} (he : e < 24) (ht : th e ≠ 0) (hl : (dt_kf th pp nn e 10 ++ K).length ≤ 24) (H : ∀ w' : Nat → Int32, dt_stk w' (dt_kf th pp nn e 10 ++ K) → J11 x1 (nI (dt_kf th pp nn e 10 ++ K).length) th pp nn kk aw co vb sk sa sw pt oy w') : ∀ (j : Nat) (w : Nat → Int32), j ≤ 10 → dt_stk w (dt_kf th pp nn e (10 - j) ++ K) → wY_findOrder_45 post J11 x1 (nI e) tn hh (j + 1) (nI (dt_kf th pp nn e (10 - j) ++ K).length) (nI j + (-1)) th pp nn kk aw co vb sk sa sw pt oy w := by
  intro j
  induction j with
  | zero =>
    intro w _ h2
    exact br_t (show nI 0 + (-1) < 0 by decide) (H w h2)
  | succ j ih =>
    intro w hj h2
    have hlen := dt_kf_len (tk := th) (pa := pp) (na := nn) (e := e) (10 - j) 10 (by omega)
    rw [List.length_append] at hl
    rw [wY_findOrder_45]; dsimp only
    rw [pk_m1]
    refine br_f (nI_pos (by omega)) (yn_v he ht ?_)
    have e9 : 9 - (9 - j) = j := by omega
    have e10 : 10 - j = 9 - j + 1 := by omega
    have e11 : 10 - (j + 1) = 9 - j := by omega
    rw [e11] at h2 ⊢
    rcases hc : dt_nm th pp nn (nI e) (nI j) with _ | c
    · refine br_t (show (-2 : Int32) < 0 by decide) (nm_e ?_)
      have := ih w (by omega)
      rw [e10, dt_kf_n (by rw [e9]; exact hc)] at this
      exact this h2
    · have hcs := dt_kf_s (tk := th) (pa := pp) (na := nn) (e := e) (d := 9 - j) (by rw [e9]; exact hc)
      rw [e10] at hlen ih
      rw [hcs] at hlen ih
      rw [List.length_cons] at hlen
      have hc24 := (dt_nm_s hc).2.1
      have hb : (dt_kf th pp nn e (9 - j) ++ K).length < 48 := by rw [List.length_append]; omega
      refine br_f (nI_pos (by omega)) ⟨vp_in_nI hb (by decide), ?_⟩
      rw [nI_clamp (by omega)]
      refine nm_e (nm_r (nI_1 _) (nm_e ?_))
      exact ih _ (by omega) ⟨pk_us, dt_stk_upd _ (Nat.le_refl _) h2⟩
theorem yo_l {post : SY → Prop} (T : dt_T0 th pp nn) (H : ∀ o' w' : Nat → Int32, (∀ i, i < dt_ec th → o' i = nI (dt_at th pp nn i)) → post (tn, hh, th, pp, nn, kk, aw, co, vb, sk, sa, sw, pt, o', w')) : ∀ (d n : Nat) (o w : Nat → Int32), n + d = dt_ec th → dt_stk w (dt_st th pp nn n).2 → (∀ i, i < n → o i = nI (dt_at th pp nn i)) → wY_findOrder_11 post tn hh (d + 1) (nI n) (nI (dt_st th pp nn n).2.length) th pp nn kk aw co vb sk sa sw pt o w := by
  intro d
  induction d with
  | zero =>
    intro n o w hn h1 h2
    obtain ⟨R, hst, _⟩ := dt_st_end T
    have hn : n = dt_ec th := hn
    rw [hn, hst]
    exact br_t (show nI 0 ≤ 0 by decide) (H o w (by rw [← hn]; exact h2))
  | succ d ih =>
    intro n o w hn h1 h2
    obtain ⟨R, e, K, hst, hR, hl1, hl2, he, ht⟩ := dt_st_lt T (show n < dt_ec th by omega)
    have := dt_ec_le th
    rw [hst] at h1 ⊢
    rw [wY_findOrder_11]; dsimp only
    rw [List.length_cons, pk_m1]
    refine br_f (nI_nle (by omega) (by omega)) (br_f (nI_ge (b := 24) (by omega) (by decide)) (nm_e ⟨vp_in_nI (by omega) (by decide), ?_⟩))
    rw [nI_clamp (by omega), h1.1]
    refine nm_e ⟨vp_in_nI (by omega) (by decide), ?_⟩
    rw [nI_clamp (by omega)]
    refine nm_e (nm_r (nI_1 n) ⟨11, ?_⟩)
    have := yo_in (e := e) (K := K) (x1 := nI (n + 1)) (th := th) (pp := pp) (nn := nn) (oy := upd o n (nI e)) (tn := tn) (hh := hh) (kk := kk) (aw := aw) (co := co) (vb := vb) (sk := sk) (sa := sa) (sw := sw) (pt := pt) (post := post) (J11 := wY_findOrder_11 post tn hh (d + 1)) he ht (by omega) (fun w' a => by
        have := ih (n + 1) (upd o n (nI e)) w' (by omega) (by rw [dt_st_s hst]; exact a) (fun i hi => by
          by_cases z : i = n
          · subst z
            rw [dt_at_s hst, pk_us]
          · rw [pk_un z]
            exact h2 i (by omega))
        rw [dt_st_s hst] at this
        exact this) 10 w (Nat.le_refl _) h1.2
    rw [show nI 10 + (-1) = (9 : Int32) from by decide] at this
    exact this
theorem yo_v {post : SY → Prop} (T : dt_T0 th pp nn) (H : ∀ o' w' : Nat → Int32, (∀ i, i < dt_ec th → o' i = nI (dt_at th pp nn i)) → post (tn, hh, th, pp, nn, kk, aw, co, vb, sk, sa, sw, pt, o', w')) : wpY_findOrder post (tn, hh, th, pp, nn, kk, aw, co, vb, sk, sa, sw, pt, oy, wt) := by
  unfold wpY_findOrder; dsimp only
  exact nm_e ⟨dt_ec th + 1, yo_l T H (dt_ec th) 0 _ _ (by omega) ⟨pk_us, trivial⟩ (fun i hi => by omega)⟩
end
