/-! make, remove, move: the tree stays a tree -/
theorem dt_cn_sp {P Q G : Nat → Prop} : ∀ n, (∀ i, i < n → (P i ↔ (Q i ∨ G i)) ∧ ¬ (Q i ∧ G i)) → dt_cn P n = dt_cn Q n + dt_cn G n := by
  intro n
  induction n with
  | zero => intro _; rfl
  | succ n ih =>
    intro h
    obtain ⟨h1, h2⟩ := h n (by omega)
    rw [dt_cn, dt_cn, dt_cn, ih (fun i hi => h i (by omega))]
    by_cases q : Q n
    · by_cases g : G n
      · exact absurd ⟨q, g⟩ h2
      · rw [dt_11 (h1.mpr (Or.inl q)), dt_11 q, dt_1z g]; omega
    · by_cases g : G n
      · rw [dt_11 (h1.mpr (Or.inr g)), dt_1z q, dt_11 g]; omega
      · rw [dt_1z (fun z => (h1.mp z).elim q g), dt_1z q, dt_1z g]; omega
theorem dt_ec_mk {tk : Nat → Int32} {e : Nat} (he : e < 24) (h : tk e = 0) : dt_ec (upd tk e 1) = dt_ec tk + 1 := by
  unfold dt_ec
  rw [dt_cn_rm (P := fun x => upd tk e 1 x ≠ 0) (x := e) (by show upd tk e 1 e ≠ 0; rw [pk_us]; decide) 24 he]
  congr 1
  refine dt_cnc 24 (fun i _ => ?_)
  by_cases z : i = e
  · subst z
    exact ⟨fun q => absurd rfl q.2, fun q => absurd h q⟩
  · show (upd tk e 1 i ≠ 0 ∧ i ≠ e) ↔ _
    rw [pk_un z]
    exact ⟨fun q => q.1, fun q => ⟨q, z⟩⟩
theorem dt_T0_mk {tk pa na : Nat → Int32} (T : dt_T0 tk pa na) {e p m : Nat} (h0 : 0 < e) (he : e < 24) (hz : tk e = 0) (hp : p < 24) (hpt : tk p ≠ 0) (hm : m < 10) (hn : dt_nm tk pa na (nI p) (nI m) = none) : dt_T0 (upd tk e 1) (upd pa e (nI p)) (upd na e (nI m)) := by
  obtain ⟨⟨t0, p0⟩, t1, t2, t3⟩ := T
  have hpe : p ≠ e := fun z => hpt (z ▸ hz)
  have tke : ∀ x, upd tk e 1 x ≠ 0 → x ≠ e → tk x ≠ 0 := fun x h z => by rw [pk_un z] at h; exact h
  have none : ∀ x, 0 < x → x < 24 → tk x ≠ 0 → pa x = nI p → na x = nI m → False := fun x a b c d f => dt_fdz 23 1 hn x (by omega) (by omega) ⟨c, d, f⟩
  have up : ∀ k x, x < 24 → tk x ≠ 0 → dt_Up pa k (nI x) → dt_Up (upd pa e (nI p)) k (nI x) := by
    intro k
    induction k with
    | zero => intro x _ _ h; exact h
    | succ k ih =>
      intro x hx ht hu
      obtain ⟨j, hj, ej, hu⟩ := hu
      rw [nI_eq (by omega) (by omega)] at ej
      subst ej
      have hxe : x ≠ e := fun z => ht (z ▸ hz)
      refine ⟨x, hx, rfl, ?_⟩
      rw [pk_un hxe]
      by_cases z : x = 0
      · subst z
        rw [p0] at hu ⊢
        cases k with
        | zero => exact hu
        | succ k =>
          obtain ⟨j, hj, ej, _⟩ := hu
          exact absurd ej.symm (dt_m1 (by omega))
      · obtain ⟨⟨q, hq, hqt, hqe⟩, _⟩ := t1 x (by omega) hx ht
        rw [hqe] at hu ⊢
        exact ih q hq hqt hu
  refine ⟨⟨by rw [pk_un (by omega)]; exact t0, by rw [pk_un (by omega)]; exact p0⟩, ?_, ?_, ?_⟩
  · intro x hx0 hx ht
    by_cases z : x = e
    · subst z
      exact ⟨⟨p, hp, by rw [pk_un hpe]; exact hpt, pk_us⟩, m, hm, pk_us⟩
    · obtain ⟨⟨q, hq, hqt, hqe⟩, m', hm', e'⟩ := t1 x hx0 hx (tke x ht z)
      refine ⟨⟨q, hq, ?_, by rw [pk_un z]; exact hqe⟩, m', hm', by rw [pk_un z]; exact e'⟩
      by_cases w : q = e
      · rw [w, pk_us]; decide
      · rw [pk_un w]; exact hqt
  · intro x y hx0 hx hy0 hy htx hty hpa hna
    by_cases z : x = e
    · by_cases w : y = e
      · rw [z, w]
      · rw [z, pk_us, pk_un w] at hpa hna
        exact (none y hy0 hy (tke y hty w) hpa.symm hna.symm).elim
    · by_cases w : y = e
      · rw [w, pk_us, pk_un z] at hpa hna
        exact (none x hx0 hx (tke x htx z) hpa hna).elim
      · rw [pk_un z, pk_un w] at hpa hna
        exact t2 x y hx0 hx hy0 hy (tke x htx z) (tke y hty w) hpa hna
  · intro x hx ht
    by_cases z : x = e
    · subst z
      obtain ⟨k, hk⟩ := t3 p hp hpt
      exact ⟨k + 1, x, hx, rfl, by rw [pk_us]; exact up k p hp hpt hk⟩
    · obtain ⟨k, hk⟩ := t3 x hx (tke x ht z)
      exact ⟨k, up k x hx (tke x ht z) hk⟩
theorem dt_V_mk {tk vc co co' va : Nat → Int32} (V : dt_V tk vc co va) {e : Nat} (he : e < 24) (hz : tk e = 0) (h1 : ∀ a, a < 6 → co' (e * 6 + a) = 0) (h2 : ∀ i, (∀ a, a < 6 → i ≠ e * 6 + a) → co' i = co i) : dt_V (upd tk e 1) vc co' va := by
  intro x hx a ha
  obtain ⟨c, hc4, hvx, hvy, hvz, hw⟩ := V x hx a ha
  by_cases z : x = e
  · subst z
    have hc0 := hvz hz
    refine ⟨c, hc4, hvx, fun _ => by rw [h1 a ha, hc0]; rfl, fun _ => hc0, hw⟩
  · refine ⟨c, hc4, hvx, fun h => ?_, fun h => ?_, hw⟩
    · rw [pk_un z] at h
      rw [h2 _ (fun b hb => by omega)]
      exact hvy h
    · rw [pk_un z] at h
      exact hvz h
section
variable {ec tc fc : Int32} {tk pa na cl od al vc va tK tA tV tF : Nat → Int32} {co pt oy wt : Nat → Int32}
theorem ymk_l {post : Int32 → SY → Prop} {e : Nat} (he : e < 24) (H : ∀ co' : Nat → Int32, (∀ a, a < 6 → co' (e * 6 + a) = 0) → (∀ i, (∀ a, a < 6 → i ≠ e * 6 + a) → co' i = co i) → post (nI e) (tc, fc, tk, pa, na, cl, al, co', va, tK, tA, tV, pt, oy, wt)) : ∀ (d a : Nat) (co' : Nat → Int32), a + d = 6 → (∀ b, b < a → co' (e * 6 + b) = 0) → (∀ i, (∀ a, a < 6 → i ≠ e * 6 + a) → co' i = co i) → wY_make_96 post (nI e) tc fc (d + 1) (nI a) tk pa na cl al co' va tK tA tV pt oy wt := by
  intro d
  induction d with
  | zero =>
    intro a co' ha h1 h2
    exact br_t (nI_le (a := 6) (by omega) (by omega)) (H co' (fun b hb => h1 b (by omega)) h2)
  | succ d ih =>
    intro a co' ha h1 h2
    rw [wY_make_96]; dsimp only
    rw [dt_6y, nI_clamp (by omega)]
    refine br_f (nI_ge (b := 6) (by omega) (by decide)) ⟨vp_in_nI (by omega) (by decide), nm_e (nm_r (nI_1 a) (ih (a + 1) _ (by omega) ?_ ?_))⟩
    · intro b hb
      by_cases z : b = a
      · rw [z, pk_us]
      · rw [pk_un (by omega)]; exact h1 b (by omega)
    · intro i hi
      rw [pk_un (hi a (by omega))]
      exact h2 i hi
end
theorem i_vc_make {k : Nat} {u : SX} {v : SY} (I : i_Rel k u v) (hk : k + 4 ≤ 2048) (v1 : Int32) (v2 : Int32) (v3 : Int32) : wpX_make (fun r u' => wpY_make (fun r' v' => r' = r ∧ i_Rel (k + 4) u' v') v v1 v2 v3) u v1 v2 v3 := by
  obtain ⟨tcn, fcn, tk, pa, na, cl, od, al, vc, va, tK, tA, tV, tF, co, pt, oy, wt, rfl, rfl, R⟩ := I
  have R0 := R
  obtain ⟨T, C, O, V, K⟩ := R
  unfold wpX_make wpY_make; dsimp only
  by_cases hE : dt_E tk v1
  · obtain ⟨p, hp, rfl, hpt⟩ := hE
    refine xe_t hp hpt (br_f dt_10 ?_)
    by_cases hN : dt_L 10 v2
    · obtain ⟨m, hm, rfl⟩ := hN
      refine xm_t hm (br_f dt_10 (xn_v ?_))
      rcases hc : dt_nm tk pa na (nI p) (nI m) with _ | c
      · refine br_t rfl ?_
        by_cases hC : dt_L 4 v3
        · obtain ⟨q, hq, rfl⟩ := hC
          refine xc_t hq (br_f dt_10 (xf_v ?_))
          rcases hf : dt_fd (fun e => tk e = 0) 23 1 with _ | e
          · refine br_t rfl (ye_t hp hpt (br_f dt_10 (yl_t (n := 9) rfl hm (by decide) (yn_v hp hpt ?_))))
            rw [hc]
            refine br_t (show (-2 : Int32) < 0 by decide) (yl_t (n := 3) rfl hq (by decide) (yf_v T.1.1 ?_))
            rw [hf]
            exact br_f (show ¬ (0 : Int32) ≤ -1 by decide) ⟨rfl, rl_mk R0⟩
          · obtain ⟨e1, e24, ez⟩ := dt_fds 23 1 hf
            have e24 : e < 24 := by omega
            have hv : vp_in (nI e) 24 := vp_in_nI e24 (by decide)
            dsimp only [dt_o]
            rw [nI_clamp (by omega), dt_vnb]
            refine br_f (dt_m1 (by omega)) ⟨hv, nm_e ⟨hv, nm_e ⟨hv, nm_e ⟨hv, nm_e (nm_r (nI_1 _) ?_)⟩⟩⟩⟩
            have T' := dt_T0_mk T (by omega) e24 ez hp hpt hm hc
            refine xo_v T' (by rw [dt_ec_mk e24 ez]) (fun o' ho => ?_)
            dsimp only
            refine ye_t hp hpt (br_f dt_10 (yl_t (n := 9) rfl hm (by decide) (yn_v hp hpt ?_)))
            rw [hc]
            refine br_t (show (-2 : Int32) < 0 by decide) (yl_t (n := 3) rfl hq (by decide) (yf_v T.1.1 ?_))
            rw [hf]
            dsimp only [dt_o]
            rw [nI_clamp (by omega)]
            refine br_t (nI_pos' (by omega)) ⟨hv, nm_e ⟨hv, nm_e ⟨hv, nm_e ⟨hv, nm_e ⟨7, ?_⟩⟩⟩⟩⟩
            refine ymk_l e24 (fun co' h1 h2 => ⟨rfl, rl_mk' (tcn := tcn) (fcn := fcn) ⟨T', ?_, ho, dt_V_mk V e24 ez h1 h2, K⟩ (by rw [dt_ec_mk e24 ez]) rfl rfl rfl rfl⟩) 6 0 co rfl (fun b hb => by omega) (fun _ _ => rfl)
            intro x hx
            by_cases z : x = e
            · rw [z, pk_us]; exact ⟨q, hq, rfl⟩
            · rw [pk_un z]; exact C x hx
        · refine xc_f hC (br_t rfl (ye_t hp hpt (br_f dt_10 (yl_t (n := 9) rfl hm (by decide) (yn_v hp hpt ?_)))))
          rw [hc]
          exact br_t (show (-2 : Int32) < 0 by decide) (yl_f (n := 3) hC (by decide) ⟨rfl, rl_mk R0⟩)
      · have := (dt_nm_s hc).2.1
        refine br_f (dt_m1 (by omega)) (ye_t hp hpt (br_f dt_10 (yl_t (n := 9) rfl hm (by decide) (yn_v hp hpt ?_))))
        rw [hc]
        exact br_f (nI_pos (by omega)) ⟨rfl, rl_mk R0⟩
    · exact xm_f hN (br_t rfl (ye_t hp hpt (br_f dt_10 (yl_f (n := 9) hN (by decide) ⟨rfl, rl_mk R0⟩))))
  · exact xe_f hE (br_t rfl (ye_f hE (br_t rfl ⟨rfl, rl_mk R0⟩)))
theorem dt_T0_mv {tk pa na : Nat → Int32} (T : dt_T0 tk pa na) {e p m : Nat} (h0 : e ≠ 0) (he : e < 24) (het : tk e ≠ 0) (hp : p < 24) (hpt : tk p ≠ 0) (hm : m < 10) (hs : ¬ dt_Sub pa (nI e) (nI p)) (hn : dt_nm tk pa na (nI p) (nI m) = none ∨ dt_nm tk pa na (nI p) (nI m) = some e) : dt_T0 tk (upd pa e (nI p)) (upd na e (nI m)) := by
  obtain ⟨⟨t0, p0⟩, t1, t2, t3⟩ := T
  have uq : ∀ x, 0 < x → x < 24 → tk x ≠ 0 → pa x = nI p → na x = nI m → x = e := by
    intro x a b c d f
    rcases hn with hn | hn
    · exact (dt_fdz 23 1 hn x (by omega) (by omega) ⟨c, d, f⟩).elim
    · obtain ⟨q1, q2, q3, q4, q5⟩ := dt_nm_s hn
      exact t2 x e a b q1 q2 c q3 (d.trans q4.symm) (f.trans q5.symm)
  have upA : ∀ k x, ¬ dt_Sub pa (nI e) x → dt_Up pa k x → dt_Up (upd pa e (nI p)) k x := by
    intro k
    induction k with
    | zero => intro x _ h; exact h
    | succ k ih =>
      intro x hx hu
      obtain ⟨j, hj, rfl, hu⟩ := hu
      rw [dt_sub_s (by omega)] at hx
      have hje : j ≠ e := fun z => hx (Or.inl (by rw [z]))
      exact ⟨j, hj, rfl, by rw [pk_un hje]; exact ih _ (fun z => hx (Or.inr z)) hu⟩
  obtain ⟨kp, hkp⟩ := t3 p hp hpt
  have upe : dt_Up (upd pa e (nI p)) (kp + 1) (nI e) := ⟨e, he, rfl, by rw [pk_us]; exact upA kp _ hs hkp⟩
  have upB : ∀ k x, dt_Up pa k x → ∃ k', dt_Up (upd pa e (nI p)) k' x := by
    intro k
    induction k with
    | zero => intro x h; exact ⟨0, h⟩
    | succ k ih =>
      intro x hu
      obtain ⟨j, hj, rfl, hu⟩ := hu
      by_cases z : j = e
      · rw [z]; exact ⟨_, upe⟩
      · obtain ⟨k', hk'⟩ := ih _ hu
        exact ⟨k' + 1, j, hj, rfl, by rw [pk_un z]; exact hk'⟩
  refine ⟨⟨t0, by rw [pk_un (by omega)]; exact p0⟩, ?_, ?_, ?_⟩
  · intro x hx0 hx ht
    by_cases z : x = e
    · subst z
      exact ⟨⟨p, hp, hpt, pk_us⟩, m, hm, pk_us⟩
    · obtain ⟨⟨q, hq, hqt, hqe⟩, m', hm', e'⟩ := t1 x hx0 hx ht
      exact ⟨⟨q, hq, hqt, by rw [pk_un z]; exact hqe⟩, m', hm', by rw [pk_un z]; exact e'⟩
  · intro x y hx0 hx hy0 hy htx hty hpa hna
    by_cases z : x = e
    · by_cases w : y = e
      · rw [z, w]
      · rw [z, pk_us, pk_un w] at hpa hna
        exact absurd (uq y hy0 hy hty hpa.symm hna.symm) w
    · by_cases w : y = e
      · rw [w, pk_us, pk_un z] at hpa hna
        exact absurd (uq x hx0 hx htx hpa hna) z
      · rw [pk_un z, pk_un w] at hpa hna
        exact t2 x y hx0 hx hy0 hy htx hty hpa hna
  · intro x hx ht
    obtain ⟨k, hk⟩ := t3 x hx ht
    exact upB k _ hk
section
variable {ec tc fc : Int32} {tk pa na cl od al vc va tK tA tV tF : Nat → Int32} {co pt oy wt : Nat → Int32}
theorem mv_j {k tcn fcn e p m : Nat} (R : dt_R tcn fcn tk pa na cl od vc va tK tA tV tF co) (he : e < 24) (T' : dt_T0 tk (upd pa e (nI p)) (upd na e (nI m))) (hY : ∀ post : Int32 → SY → Prop, wY_move_74 post (nI e) (nI p) (nI m) (nI tcn) (nI fcn) tk pa na cl al co va tK tA tV pt oy wt → wpY_move post (nI tcn, nI fcn, tk, pa, na, cl, al, co, va, tK, tA, tV, pt, oy, wt) (nI e) (nI p) (nI m)) : wX_move_67 (fun r u' => wpY_move (fun r' v' => r' = r ∧ i_Rel k u' v') (nI tcn, nI fcn, tk, pa, na, cl, al, co, va, tK, tA, tV, pt, oy, wt) (nI e) (nI p) (nI m)) (nI e) (nI p) (nI m) (nI (dt_ec tk)) (nI tcn) (nI fcn) tk pa na cl od al vc va tK tA tV tF := by
  obtain ⟨T, C, O, V, K⟩ := R
  have hv : vp_in (nI e) 24 := vp_in_nI he (by decide)
  unfold wX_move_67
  rw [nI_clamp (by omega)]
  refine ⟨hv, nm_e ⟨hv, nm_e (xo_v T' rfl (fun o' ho => ?_))⟩⟩
  dsimp only
  refine hY _ ?_
  unfold wY_move_74
  rw [nI_clamp (by omega)]
  exact ⟨hv, nm_e ⟨hv, nm_e ⟨rfl, rl_mk ⟨T', C, ho, V, K⟩⟩⟩⟩
end
theorem i_vc_move {k : Nat} {u : SX} {v : SY} (I : i_Rel k u v) (hk : k + 4 ≤ 2048) (v1 : Int32) (v2 : Int32) (v3 : Int32) : wpX_move (fun r u' => wpY_move (fun r' v' => r' = r ∧ i_Rel (k + 4) u' v') v v1 v2 v3) u v1 v2 v3 := by
  obtain ⟨tcn, fcn, tk, pa, na, cl, od, al, vc, va, tK, tA, tV, tF, co, pt, oy, wt, rfl, rfl, R⟩ := I
  have T := R.1
  unfold wpX_move; dsimp only
  by_cases hE : dt_E tk v1
  · obtain ⟨e, he, rfl, het⟩ := hE
    refine xe_t he het (br_f dt_10 ?_)
    by_cases hP : dt_E tk v2
    · obtain ⟨p, hp, rfl, hpt⟩ := hP
      refine xe_t hp hpt (br_f dt_10 ?_)
      have hY0 : ∀ post : Int32 → SY → Prop, ((nI e = 0 → post (-2) (nI tcn, nI fcn, tk, pa, na, cl, al, co, va, tK, tA, tV, pt, oy, wt)) ∧ (¬ nI e = 0 → ((nI p = nI e → post (-2) (nI tcn, nI fcn, tk, pa, na, cl, al, co, va, tK, tA, tV, pt, oy, wt)) ∧ (¬ nI p = nI e → wpY_isBelow (fun r_37 => (((r_37 = 0 → (((v3 < 0 → (post (-3) (nI tcn, nI fcn, tk, pa, na, cl, al, co, va, tK, tA, tV, pt, oy, wt))) ∧ (¬ v3 < 0 → (((v3 ≤ 9 → (wpY_child (fun r_56 => (((r_56 < 0 → (wY_move_74 post (nI e) (nI p) v3 (nI tcn) (nI fcn) tk pa na cl al co va tK tA tV pt oy wt)) ∧ (¬ r_56 < 0 → (((r_56 = nI e → (wY_move_74 post (nI e) (nI p) v3 (nI tcn) (nI fcn) tk pa na cl al co va tK tA tV pt oy wt)) ∧ (¬ r_56 = nI e → (post (-4) (nI tcn, nI fcn, tk, pa, na, cl, al, co, va, tK, tA, tV, pt, oy, wt))))))))) (nI tcn, nI fcn, tk, pa, na, cl, al, co, va, tK, tA, tV, pt, oy, wt) (nI p) v3)) ∧ (¬ v3 ≤ 9 → (post (-3) (nI tcn, nI fcn, tk, pa, na, cl, al, co, va, tK, tA, tV, pt, oy, wt))))))))) ∧ (¬ r_37 = 0 → (post (-2) (nI tcn, nI fcn, tk, pa, na, cl, al, co, va, tK, tA, tV, pt, oy, wt)))))) (nI tcn, nI fcn, tk, pa, na, cl, al, co, va, tK, tA, tV, pt, oy, wt) (nI p) (nI e))))) → wpY_move post (nI tcn, nI fcn, tk, pa, na, cl, al, co, va, tK, tA, tV, pt, oy, wt) (nI e) (nI p) v3 := fun post hp2 => by
        unfold wpY_move; dsimp only
        exact ye_t he het (br_f dt_10 (ye_t hp hpt (br_f dt_10 hp2)))
      by_cases h0 : e = 0
      · have e0 : nI e = 0 := by rw [h0]; rfl
        exact br_t e0 (hY0 _ (br_t e0 ⟨rfl, rl_mk R⟩))
      · have e0 : ¬ nI e = 0 := nI_ne0 (by omega) (by omega)
        refine br_f e0 (xs_v T he hp (dt_up24 T hp hpt) ?_)
        have hsub := dt_sub_s (pa := pa) (top := nI e) (j := p) (by omega)
        by_cases hS : dt_Sub pa (nI e) (nI p)
        · refine dt_tru hS (hY0 _ (br_f e0 ?_))
          by_cases z : nI p = nI e
          · exact br_t z ⟨rfl, rl_mk R⟩
          · exact br_f z (ys_v T he hp (dt_up24 T hp hpt) (dt_tru ((hsub.mp hS).resolve_left z) ⟨rfl, rl_mk R⟩))
        · have z : ¬ nI p = nI e := fun z => hS (hsub.mpr (Or.inl z))
          have hB : ¬ dt_Sub pa (nI e) (pa p) := fun q => hS (hsub.mpr (Or.inr q))
          refine dt_fls hS ?_
          by_cases hN : dt_L 10 v3
          · obtain ⟨m, hm, rfl⟩ := hN
            refine xm_t hm (br_f dt_10 (xn_v ?_))
            rcases hc : dt_nm tk pa na (nI p) (nI m) with _ | c
            · refine br_t rfl (mv_j R he (dt_T0_mv T h0 he het hp hpt hm hS (Or.inl hc)) fun post hp2 => hY0 post (br_f e0 (br_f z (ys_v T he hp (dt_up24 T hp hpt) (dt_fls hB (yl_t (n := 9) rfl hm (by decide) (yn_v hp hpt ?_)))))))
              rw [hc]
              exact br_t (show (-2 : Int32) < 0 by decide) hp2
            · have c24 := (dt_nm_s hc).2.1
              refine br_f (dt_m1 (by omega)) ?_
              by_cases w : c = e
              · subst w
                refine br_t rfl (mv_j R he (dt_T0_mv T h0 he het hp hpt hm hS (Or.inr hc)) fun post hp2 => hY0 post (br_f e0 (br_f z (ys_v T he hp (dt_up24 T hp hpt) (dt_fls hB (yl_t (n := 9) rfl hm (by decide) (yn_v hp hpt ?_)))))))
                rw [hc]
                exact br_f (nI_pos (by omega)) (br_t rfl hp2)
              · have w' : ¬ nI c = nI e := fun q => w ((nI_eq (by omega) (by omega)).mp q)
                refine br_f w' (hY0 _ (br_f e0 (br_f z (ys_v T he hp (dt_up24 T hp hpt) (dt_fls hB (yl_t (n := 9) rfl hm (by decide) (yn_v hp hpt ?_)))))))
                rw [hc]
                exact br_f (nI_pos (by omega)) (br_f w' ⟨rfl, rl_mk R⟩)
          · exact xm_f hN (br_t rfl (hY0 _ (br_f e0 (br_f z (ys_v T he hp (dt_up24 T hp hpt) (dt_fls hB (yl_f (n := 9) hN (by decide) ⟨rfl, rl_mk R⟩)))))))
    · refine xe_f hP (br_t rfl ?_)
      unfold wpY_move; dsimp only
      exact ye_t he het (br_f dt_10 (ye_f hP (br_t rfl ⟨rfl, rl_mk R⟩)))
  · refine xe_f hE (br_t rfl ?_)
    unfold wpY_move; dsimp only
    exact ye_f hE (br_t rfl ⟨rfl, rl_mk R⟩)
