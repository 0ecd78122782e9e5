/-! the relation, and the methods that leave the tree and the values alone -/
def dt_R (tcn fcn : Nat) (tk pa na cl od vc va tK tA tV tF co : Nat → Int32) : Prop :=
  dt_T0 tk pa na ∧ (∀ e, e < 24 → dt_L 4 (cl e)) ∧ (∀ i, i < dt_ec tk → od i = nI (dt_at tk pa na i)) ∧ dt_V tk vc co va ∧ dt_K tcn fcn tK tA tV tF
def i_Rel (k : Nat) (u : SX) (v : SY) : Prop := ∃ (tcn fcn : Nat) (tk pa na cl od al vc va tK tA tV tF co pt oy wt : Nat → Int32), u = (nI (dt_ec tk), nI tcn, nI fcn, tk, pa, na, cl, od, al, vc, va, tK, tA, tV, tF) ∧ v = (nI tcn, nI fcn, tk, pa, na, cl, al, co, va, tK, tA, tV, pt, oy, wt) ∧ dt_R tcn fcn tk pa na cl od vc va tK tA tV tF co
theorem i_up {k : Nat} {u : SX} {v : SY} (h : i_Rel k u v) : i_Rel (k + 4) u v := h
section
variable {ec tc fc : Int32} {tk pa na cl od al vc va tK tA tV tF : Nat → Int32} {co pt oy wt : Nat → Int32}
variable {tcn fcn k : Nat}
theorem rl_mk (h : dt_R tcn fcn tk pa na cl od vc va tK tA tV tF co) : i_Rel k (nI (dt_ec tk), nI tcn, nI fcn, tk, pa, na, cl, od, al, vc, va, tK, tA, tV, tF) (nI tcn, nI fcn, tk, pa, na, cl, al, co, va, tK, tA, tV, pt, oy, wt) :=
  ⟨tcn, fcn, tk, pa, na, cl, od, al, vc, va, tK, tA, tV, tF, co, pt, oy, wt, rfl, rfl, h⟩
theorem rl_mk' {E F T F' T' : Int32} (h : dt_R tcn fcn tk pa na cl od vc va tK tA tV tF co) (e1 : E = nI (dt_ec tk)) (e2 : T = nI tcn) (e3 : F = nI fcn) (e4 : T' = nI tcn) (e5 : F' = nI fcn) : i_Rel k (E, T, F, tk, pa, na, cl, od, al, vc, va, tK, tA, tV, tF) (T', F', tk, pa, na, cl, al, co, va, tK, tA, tV, pt, oy, wt) := by
  subst e1 e2 e3 e4 e5
  exact rl_mk h
end
theorem dt_vnb : vp_nar .boolean 1 = 1 := rfl
theorem dt_vn0 : vp_nar .boolean 0 = 0 := rfl
theorem dt_vnd (c : Prop) : vp_nar .boolean (dt_b c) = dt_b c := by rcases dt_b01 c with h | h <;> rw [h] <;> rfl
theorem dt_K0 (tK tA tV tF : Nat → Int32) : dt_K 0 0 tK tA tV tF := ⟨fun _ => 0, rfl, rfl, by omega, by omega, fun t ht => by omega⟩
theorem dt_T0_0 : dt_T0 (upd (fun _ => 0) 0 1) (upd (fun _ => 0) 0 (-1)) (fun _ => 0) := by
  have hz : ∀ e, 0 < e → upd (fun _ => (0 : Int32)) 0 1 e = 0 := fun e he => pk_un (by omega)
  refine ⟨⟨by rw [pk_us]; decide, pk_us⟩, fun e h0 _ ht => absurd (hz e h0) ht, fun e e' h0 _ _ _ ht => absurd (hz e h0) ht, fun e _ ht => ?_⟩
  by_cases z : e = 0
  · subst z; exact ⟨1, 0, by omega, rfl, pk_us⟩
  · exact absurd (hz e (by omega)) ht
theorem dt_ec_0 : dt_ec (upd (fun _ => 0) 0 1) = 1 := by
  have a := dt_ec_pos dt_T0_0
  have b := dt_len_ge (N := 24) [0] (fun e => upd (fun _ => (0 : Int32)) 0 1 e ≠ 0) (fun x _ hx => by
    by_cases z : x = 0
    · simp [z]
    · exact absurd (pk_un z) hx)
  have b : dt_ec (upd (fun _ => 0) 0 1) ≤ 1 := b
  omega
theorem i_vc0 : wpX_init (fun u => wpY_init (fun v => i_Rel 0 u v)) := by
  unfold wpX_init
  rw [dt_vnb]
  refine nm_e (nm_e ⟨5, br_f (by decide) ⟨vp_in_iff.mpr (by decide), nm_e (nm_e (br_f (by decide) ⟨vp_in_iff.mpr (by decide), nm_e (nm_e (br_f (by decide) ⟨vp_in_iff.mpr (by decide), nm_e (nm_e (br_f (by decide) ⟨vp_in_iff.mpr (by decide), nm_e (nm_e (br_t (by decide) ?_))⟩))⟩))⟩))⟩⟩)
  unfold wpY_init
  rw [dt_vnb]
  refine nm_e (nm_e ⟨5, br_f (by decide) ⟨vp_in_iff.mpr (by decide), nm_e (nm_e (br_f (by decide) ⟨vp_in_iff.mpr (by decide), nm_e (nm_e (br_f (by decide) ⟨vp_in_iff.mpr (by decide), nm_e (nm_e (br_f (by decide) ⟨vp_in_iff.mpr (by decide), nm_e (nm_e (br_t (by decide) ?_))⟩))⟩))⟩))⟩⟩)
  refine rl_mk' (tcn := 0) (fcn := 0) ⟨dt_T0_0, fun e _ => ⟨0, by omega, rfl⟩, ?_, ?_, dt_K0 _ _ _ _⟩ (by rw [dt_ec_0]; rfl) rfl rfl rfl rfl
  · intro i hi
    rw [dt_ec_0] at hi
    rw [show i = 0 by omega]
    rfl
  · intro e _ a _
    exact ⟨0, by omega, rfl, fun _ => rfl, fun _ => rfl, fun _ k hk => by omega⟩
theorem i_vc_clear {k : Nat} {u : SX} {v : SY} (I : i_Rel k u v) (hk : k + 4 ≤ 2048) : wpX_clear (fun r u' => wpY_clear (fun r' v' => r' = r ∧ i_Rel (k + 4) u' v') v) u := by
  obtain ⟨tcn, fcn, tk, pa, na, cl, od, al, vc, va, tK, tA, tV, tF, co, pt, oy, wt, rfl, rfl, R⟩ := I
  unfold wpX_clear wpY_clear; dsimp only
  exact ⟨rfl, rl_mk' (tcn := 0) (fcn := 0) ⟨R.1, R.2.1, R.2.2.1, R.2.2.2.1, dt_K0 _ _ _ _⟩ rfl rfl rfl rfl rfl⟩
section
variable {tn hh : Int32} {th pp nn kk aw co vb sk sa sw pt oy wt : Nat → Int32}
theorem ye_l {post : Int32 → Prop} (hp : post (nI (dt_ec th))) : ∀ d i : Nat, i + d = 24 → wY_entries_4 post tn hh th pp nn kk aw co vb sk sa sw pt oy wt (d + 1) (nI (dt_cn (fun e => th e ≠ 0) i)) (nI i) := by
  intro d
  induction d with
  | zero =>
    intro i hi
    rw [show i = 24 by omega]
    exact br_t (nI_le (a := 24) (b := 24) (by omega) (by decide)) hp
  | succ d ih =>
    intro i hi
    have h1 := ih (i + 1) (by omega)
    rw [wY_entries_4]; dsimp only
    rw [nI_clamp (by omega)]
    refine br_f (nI_ge (b := 24) (by omega) (by decide)) ⟨vp_in_nI (by omega) (by decide), ?_⟩
    rw [dt_cn] at h1
    by_cases h : th i = 0
    · rw [dt_1z (c := th i ≠ 0) (fun z => z h)] at h1
      exact br_t h (nm_r (nI_1 i) h1)
    · rw [dt_11 (c := th i ≠ 0) h] at h1
      exact br_f h (nm_r (nI_1 _) (nm_r (nI_1 i) h1))
theorem ye_v {post : Int32 → Prop} (hp : post (nI (dt_ec th))) : wpY_entries post (tn, hh, th, pp, nn, kk, aw, co, vb, sk, sa, sw, pt, oy, wt) := ⟨25, ye_l hp 24 0 rfl⟩
end
theorem i_vc_entries {k : Nat} {u : SX} {v : SY} (I : i_Rel k u v) (hk : k + 4 ≤ 2048) : wpX_entries (fun r => wpY_entries (fun r' => r' = r ∧ i_Rel (k + 4) u v) v) u := by
  have I0 := I
  obtain ⟨tcn, fcn, tk, pa, na, cl, od, al, vc, va, tK, tA, tV, tF, co, pt, oy, wt, rfl, rfl, R⟩ := I
  unfold wpX_entries; dsimp only
  exact ye_v ⟨rfl, I0⟩
theorem i_vc_entryAt {k : Nat} {u : SX} {v : SY} (I : i_Rel k u v) (hk : k + 4 ≤ 2048) (v1 : Int32) : wpX_entryAt (fun r => wpY_entryAt (fun r' v' => r' = r ∧ i_Rel (k + 4) u v') v v1) u v1 := by
  obtain ⟨tcn, fcn, tk, pa, na, cl, od, al, vc, va, tK, tA, tV, tF, co, pt, oy, wt, rfl, rfl, R⟩ := I
  have h24 := dt_ec_le tk
  unfold wpX_entryAt wpY_entryAt; dsimp only
  rcases pk_ix v1 (n := dt_ec tk) (by omega) with h0 | h0 | ⟨j, hj, rfl⟩
  · refine br_t h0 (yo_v R.1 fun o' w' ho => ?_)
    dsimp only
    exact br_t h0 ⟨rfl, rl_mk R⟩
  · have h1 := dt_ge0 h0 (by omega)
    refine br_f h1 (br_f (Int32.not_lt.mpr h0) (yo_v R.1 fun o' w' ho => ?_))
    dsimp only
    exact br_f h1 (ye_v (br_t h0 ⟨rfl, rl_mk R⟩))
  · rw [nI_clamp (by omega)]
    have h1 : ¬ nI j < 0 := nI_pos (by omega)
    have hv : vp_in (nI j) 24 := vp_in_nI (by omega) (by decide)
    refine br_f h1 (br_t (nI_lt hj (by omega)) ⟨hv, yo_v R.1 fun o' w' ho => ?_⟩)
    dsimp only
    exact br_f h1 (ye_v (br_f (nI_ge hj (by omega)) ⟨hv, by rw [ho j hj, R.2.2.1 j hj], rl_mk R⟩))
theorem i_vc_child {k : Nat} {u : SX} {v : SY} (I : i_Rel k u v) (hk : k + 4 ≤ 2048) (v1 : Int32) (v2 : Int32) : wpX_child (fun r => wpY_child (fun r' => r' = r ∧ i_Rel (k + 4) u v) v v1 v2) u v1 v2 := by
  have I0 := I
  obtain ⟨tcn, fcn, tk, pa, na, cl, od, al, vc, va, tK, tA, tV, tF, co, pt, oy, wt, rfl, rfl, R⟩ := I
  unfold wpX_child; dsimp only
  by_cases hE : dt_E tk v1
  · obtain ⟨j, hj, rfl, ht⟩ := hE
    refine xe_t hj ht (br_f dt_10 (xn_v ?_))
    rcases hc : dt_nm tk pa na (nI j) v2 with _ | c
    · exact br_t rfl (yn_v hj ht (by rw [hc]; exact ⟨rfl, I0⟩))
    · have := (dt_nm_s hc).2.1
      exact br_f (dt_m1 (by omega)) (yn_v hj ht (by rw [hc]; exact ⟨rfl, I0⟩))
  · exact xe_f hE (br_t rfl (yn_f hE ⟨rfl, I0⟩))
theorem dt_24 (e a k : Nat) : 24 * nI e + 4 * nI a + nI k = nI ((e * 6 + a) * 4 + k) := by
  rw [show (24 : Int32) * nI e = nI (24 * e) from pk_mul 24 e, show (4 : Int32) * nI a = nI (4 * a) from pk_mul 4 a, nI_add, nI_add]
  exact congrArg nI (by omega)
theorem i_vc_valueAt {k : Nat} {u : SX} {v : SY} (I : i_Rel k u v) (hk : k + 4 ≤ 2048) (v1 : Int32) (v2 : Int32) (v3 : Int32) : wpX_valueAt (fun r => wpY_valueAt (fun r' => r' = r ∧ i_Rel (k + 4) u v) v v1 v2 v3) u v1 v2 v3 := by
  have I0 := I
  obtain ⟨tcn, fcn, tk, pa, na, cl, od, al, vc, va, tK, tA, tV, tF, co, pt, oy, wt, rfl, rfl, R⟩ := I
  unfold wpX_valueAt wpY_valueAt; dsimp only
  by_cases hE : dt_E tk v1
  · obtain ⟨j, hj, rfl, ht⟩ := hE
    refine xe_t hj ht (br_f dt_10 ?_)
    by_cases hA : dt_L 6 v2
    · obtain ⟨a, ha, rfl⟩ := hA
      obtain ⟨c, hc4, hx, hy, _, _⟩ := R.2.2.2.1 j hj a ha
      have hy := hy ht
      refine xa_t ha (br_f dt_10 ?_)
      unfold wpX_setOf
      rw [dt_6x, dt_6y]; dsimp only
      rw [nI_clamp (by omega), hx, hy]
      have hv : vp_in (nI (j * 6 + a)) 144 := vp_in_nI (by omega) (by decide)
      rcases pk_ix v3 (n := c) (by omega) with h0 | h0 | ⟨i, hi, rfl⟩
      · exact br_t h0 (ye_t hj ht (br_f dt_10 (ya_t ha (br_f dt_10 (br_t h0 ⟨rfl, I0⟩)))))
      · have h1 := dt_ge0 h0 (by omega)
        have h2 := Int32.not_lt.mpr h0
        exact br_f h1 ⟨hv, br_f h2 (ye_t hj ht (br_f dt_10 (ya_t ha (br_f dt_10 (br_f h1 ⟨hv, br_f h2 ⟨rfl, I0⟩⟩)))))⟩
      · have h1 : ¬ nI i < 0 := nI_pos (by omega)
        have h2 : nI i < nI c := nI_lt hi (by omega)
        rw [dt_4x, dt_24]
        have hv2 : vp_in (nI ((j * 6 + a) * 4 + i)) 576 := vp_in_nI (by omega) (by decide)
        exact br_f h1 ⟨hv, br_t h2 ⟨hv2, ye_t hj ht (br_f dt_10 (ya_t ha (br_f dt_10 (br_f h1 ⟨hv, br_t h2 ⟨hv2, rfl, I0⟩⟩))))⟩⟩
    · exact xa_f hA (br_t rfl (ye_t hj ht (br_f dt_10 (ya_f hA (br_t rfl ⟨rfl, I0⟩)))))
  · exact xe_f hE (br_t rfl (ye_f hE (br_t rfl ⟨rfl, I0⟩)))
theorem i_vc_test {k : Nat} {u : SX} {v : SY} (I : i_Rel k u v) (hk : k + 4 ≤ 2048) (v1 : Int32) : wpX_test (fun r => wpY_test (fun r' v' => r' = r ∧ i_Rel (k + 4) u v') v v1) u v1 := by
  obtain ⟨tcn, fcn, tk, pa, na, cl, od, al, vc, va, tK, tA, tV, tF, co, pt, oy, wt, rfl, rfl, R⟩ := I
  have hK := R.2.2.2.2
  have hf6 : fcn ≤ 6 := by obtain ⟨_, _, _, _, h, _⟩ := hK; exact h
  unfold wpX_test wpY_test; dsimp only
  by_cases hE : dt_E tk v1
  · obtain ⟨j, hj, rfl, ht⟩ := hE
    refine xe_t hj ht (br_f dt_10 ?_)
    by_cases h0 : fcn = 0
    · have e0 : nI fcn = 0 := by rw [h0]; rfl
      exact br_t e0 (ye_t hj ht (br_f dt_10 (br_t e0 ⟨rfl, rl_mk R⟩)))
    · have e0 : ¬ nI fcn = 0 := nI_ne0 (by omega) (by omega)
      obtain ⟨r, hr, rx, ry⟩ := t_v (ec := nI (dt_ec tk)) (fc := nI fcn) (pa := pa) (na := na) (od := od) (al := al) hj ht R.2.1 R.2.2.2.1 hK (by omega)
      exact br_f e0 (rx _ (ye_t hj ht (br_f dt_10 (br_f e0 (ry _ _ _ _ fun pt' => ⟨rfl, rl_mk R⟩)))))
  · exact xe_f hE (br_t rfl (ye_f hE (br_t rfl ⟨rfl, rl_mk R⟩)))
