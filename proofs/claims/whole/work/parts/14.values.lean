/-! put and drop -/
def dt_iv (a v : Int32) (b : Nat) : Nat → (Nat → Int32) → (Nat → Int32)
  | 0, va => upd va b v
  | k + 1, va => if dt_rk a (va (b + k)) ≤ dt_rk a v then upd va (b + (k + 1)) v else dt_iv a v b k (upd va (b + (k + 1)) (va (b + k)))
theorem dt_iv_o {a v : Int32} {b : Nat} : ∀ (k : Nat) (va : Nat → Int32) (j : Nat), (j < b ∨ b + k < j) → dt_iv a v b k va j = va j := by
  intro k
  induction k with
  | zero => intro va j h; exact pk_un (by omega)
  | succ k ih =>
    intro va j h
    rw [dt_iv]
    by_cases c : dt_rk a (va (b + k)) ≤ dt_rk a v
    · rw [if_pos c]; exact pk_un (by omega)
    · rw [if_neg c, ih _ j (by omega)]; exact pk_un (by omega)
theorem dt_iv_w {a v : Int32} {b : Nat} {P : Int32 → Prop} (hv : P v) : ∀ (k : Nat) (va : Nat → Int32), (∀ i, i < k → P (va (b + i))) → ∀ i, i ≤ k → P (dt_iv a v b k va (b + i)) := by
  intro k
  induction k with
  | zero =>
    intro va h i hi
    rw [show i = 0 by omega, Nat.add_zero, dt_iv, pk_us]
    exact hv
  | succ k ih =>
    intro va h i hi
    rw [dt_iv]
    by_cases c : dt_rk a (va (b + k)) ≤ dt_rk a v
    · rw [if_pos c]
      by_cases z : i = k + 1
      · rw [z, pk_us]; exact hv
      · rw [pk_un (by omega)]; exact h i (by omega)
    · rw [if_neg c]
      by_cases z : i = k + 1
      · rw [dt_iv_o k _ _ (by omega), z, pk_us]; exact h k (by omega)
      · exact ih _ (fun j hj => by rw [pk_un (by omega)]; exact h j (by omega)) i (by omega)
def dt_dv (b : Nat) : Nat → Nat → (Nat → Int32) → (Nat → Int32)
  | 0, _, va => va
  | d + 1, k, va => dt_dv b d (k + 1) (upd va (b + k) (va (b + k + 1)))
theorem dt_dv_o {b : Nat} : ∀ (d k : Nat) (va : Nat → Int32) (j : Nat), (j < b ∨ b + k + d ≤ j) → dt_dv b d k va j = va j := by
  intro d
  induction d with
  | zero => intro k va j h; rfl
  | succ d ih =>
    intro k va j h
    rw [dt_dv, ih _ _ j (by omega)]
    exact pk_un (by omega)
theorem dt_dv_w {b c : Nat} {P : Int32 → Prop} : ∀ (d k : Nat) (va : Nat → Int32), k + d + 1 = c → (∀ i, i < c → P (va (b + i))) → ∀ i, i < c → P (dt_dv b d k va (b + i)) := by
  intro d
  induction d with
  | zero => intro k va _ h i hi; exact h i hi
  | succ d ih =>
    intro k va hk h i hi
    rw [dt_dv]
    refine ih (k + 1) _ (by omega) (fun j hj => ?_) i hi
    by_cases z : j = k
    · rw [z, pk_us]; exact h (k + 1) (by omega)
    · rw [pk_un (by omega)]; exact h j hj
theorem dt_V_up {tk vc co va va' : Nat → Int32} (V : dt_V tk vc co va) {e a n : Nat} (he : e < 24) (ha : a < 6) (ht : tk e ≠ 0) (hn : n ≤ 4) (hw : a < 4 → ∀ k, k < n → dt_Wi (va' ((e * 6 + a) * 4 + k))) (ho : ∀ j, (j < (e * 6 + a) * 4 ∨ (e * 6 + a) * 4 + 4 ≤ j) → va' j = va j) : dt_V tk (upd vc (e * 6 + a) (nI n)) (upd co (e * 6 + a) (nI n)) va' := by
  intro x hx b hb
  by_cases z : x = e ∧ b = a
  · obtain ⟨rfl, rfl⟩ := z
    rw [pk_us, pk_us]
    exact ⟨n, hn, rfl, fun _ => rfl, fun q => absurd q ht, hw⟩
  · have hne : x * 6 + b ≠ e * 6 + a := by
      intro q
      exact z (by omega)
    obtain ⟨c, hc4, hvx, hvy, hvz, hw2⟩ := V x hx b hb
    rw [pk_un hne, pk_un hne]
    refine ⟨c, hc4, hvx, hvy, hvz, fun h4 k hk => ?_⟩
    rw [ho _ (by omega)]
    exact hw2 h4 k hk
section
variable {ec tc fc : Int32} {tk pa na cl od al vc va tK tA tV tF : Nat → Int32} {co pt oy wt : Nat → Int32}
theorem xiv_l {post : SX → Prop} {s c : Nat} {a v : Int32} (hs : s < 144) (hc : vc s = nI c) (hc4 : c < 4) : ∀ (k : Nat) (va : Nat → Int32), k ≤ c → post (ec, tc, fc, tk, pa, na, cl, od, al, upd vc s (nI (c + 1)), dt_iv a v (s * 4) k va, tK, tA, tV, tF) → wX_insertValue_23 post (nI s) a v (nI (s * 4)) (dt_rk a v) ec tc fc (k + 1) (nI (s * 4 + k)) tk pa na cl od al vc va tK tA tV tF := by
  have h70 : ∀ (k : Nat) (va : Nat → Int32), k ≤ c → post (ec, tc, fc, tk, pa, na, cl, od, al, upd vc s (nI (c + 1)), upd va (s * 4 + k) v, tK, tA, tV, tF) → wX_insertValue_70 post (nI s) v (nI (s * 4 + k)) ec tc fc tk pa na cl od al vc va tK tA tV tF := by
    intro k va hk hp
    unfold wX_insertValue_70
    rw [nI_clamp (by omega), nI_clamp (by omega), hc]
    exact ⟨vp_in_nI (by omega) (by decide), nm_e ⟨vp_in_nI hs (by decide), vp_in_nI hs (by decide), nm_r (by rw [nI_1]) hp⟩⟩
  intro k
  induction k with
  | zero =>
    intro va hk hp
    exact br_t (nI_le (by omega) (by omega)) (h70 0 va hk hp)
  | succ k ih =>
    intro va hk hp
    rw [wX_insertValue_23]; dsimp only
    rw [show s * 4 + (k + 1) = s * 4 + k + 1 from rfl, nI_pred, pk_m1, nI_clamp (by omega), nI_clamp (by omega)]
    refine br_f (nI_ge (by omega) (by omega)) ⟨vp_in_nI (by omega) (by decide), xr_v ?_⟩
    rw [dt_iv] at hp
    by_cases h : dt_rk a (va (s * 4 + k)) ≤ dt_rk a v
    · rw [if_pos h] at hp
      exact br_t h (h70 (k + 1) va hk hp)
    · rw [if_neg h] at hp
      exact br_f h ⟨vp_in_nI (by omega) (by decide), vp_in_nI (by omega) (by decide), nm_e (nm_e (ih _ (by omega) hp))⟩
theorem xiv_v {post : SX → Prop} {s c : Nat} {a v : Int32} (hs : s < 144) (hc : vc s = nI c) (hc4 : c < 4) (hp : post (ec, tc, fc, tk, pa, na, cl, od, al, upd vc s (nI (c + 1)), dt_iv a v (s * 4) c va, tK, tA, tV, tF)) : wpX_insertValue post (ec, tc, fc, tk, pa, na, cl, od, al, vc, va, tK, tA, tV, tF) (nI s) a v := by
  unfold wpX_insertValue; dsimp only
  rw [nI_clamp (by omega), hc]
  refine nm_r (pk_mul s 4) (xr_v ⟨vp_in_nI hs (by decide), nm_r (nI_add _ _) ⟨c + 1, xiv_l hs hc hc4 c va (Nat.le_refl _) hp⟩⟩)
theorem yiv_l {post : Int32 → SY → Prop} {s c : Nat} {a v : Int32} (hs : s < 144) (hc : co s = nI c) (hc4 : c < 4) : ∀ (k : Nat) (va : Nat → Int32), k ≤ c → post (nI (c + 1)) (tc, fc, tk, pa, na, cl, al, upd co s (nI (c + 1)), dt_iv a v (s * 4) k va, tK, tA, tV, pt, oy, wt) → wY_put_86 post a v (nI s) tc fc (k + 1) (nI k) tk pa na cl al co va tK tA tV pt oy wt := by
  have h151 : ∀ (k : Nat) (va : Nat → Int32), k ≤ c → post (nI (c + 1)) (tc, fc, tk, pa, na, cl, al, upd co s (nI (c + 1)), upd va (s * 4 + k) v, tK, tA, tV, pt, oy, wt) → wY_put_151 post v (nI s) (nI k) tc fc tk pa na cl al co va tK tA tV pt oy wt := by
    intro k va hk hp
    have hv : vp_in (nI s) 144 := vp_in_nI hs (by decide)
    unfold wY_put_151
    rw [dt_4y, nI_clamp (by omega), nI_clamp (by omega), hc]
    exact ⟨vp_in_nI (by omega) (by decide), nm_e ⟨hv, hv, nm_r (by rw [nI_1]) ⟨hv, by rw [pk_us]; exact hp⟩⟩⟩
  intro k
  induction k with
  | zero =>
    intro va hk hp
    exact br_t (show nI 0 ≤ 0 by decide) (h151 0 va hk hp)
  | succ k ih =>
    intro va hk hp
    rw [wY_put_86]; dsimp only
    rw [dt_4y, pk_m1, show s * 4 + (k + 1) = s * 4 + k + 1 from rfl, nI_pred, nI_clamp (by omega), nI_clamp (by omega)]
    refine br_f (nI_nle (by omega) (by omega)) ⟨vp_in_nI (by omega) (by decide), yr_v (yr_v ?_)⟩
    rw [dt_iv] at hp
    by_cases h : dt_rk a (va (s * 4 + k)) ≤ dt_rk a v
    · rw [if_pos h] at hp
      exact br_t h (h151 (k + 1) va hk hp)
    · rw [if_neg h] at hp
      exact br_f h ⟨vp_in_nI (by omega) (by decide), vp_in_nI (by omega) (by decide), nm_e (nm_e (ih _ (by omega) hp))⟩
theorem xdv_l {post : SX → Prop} {s c : Nat} (hs : s < 144) (hc : vc s = nI c) (hc4 : c < 4) : ∀ (d k : Nat) (va : Nat → Int32), k + d = c → post (ec, tc, fc, tk, pa, na, cl, od, al, vc, dt_dv (s * 4) d k va, tK, tA, tV, tF) → wX_deleteValue_17 post (nI s) (nI (s * 4)) ec tc fc (d + 1) (nI k) tk pa na cl od al vc va tK tA tV tF := by
  have hv : vp_in (nI s) 144 := vp_in_nI hs (by decide)
  intro d
  induction d with
  | zero =>
    intro k va hk hp
    rw [wX_deleteValue_17]; dsimp only
    rw [nI_clamp (by omega), hc]
    exact ⟨hv, br_t (nI_le (by omega) (by omega)) hp⟩
  | succ d ih =>
    intro k va hk hp
    rw [wX_deleteValue_17]; dsimp only
    rw [nI_clamp (show s < 2 ^ 31 by omega), hc, nI_add, nI_1 (s * 4 + k), nI_clamp (by omega), nI_clamp (by omega)]
    exact ⟨hv, br_f (nI_ge (by omega) (by omega)) ⟨vp_in_nI (by omega) (by decide), vp_in_nI (by omega) (by decide), nm_e (nm_r (nI_1 k) (ih (k + 1) _ (by omega) hp))⟩⟩
theorem ydv_l {post : Int32 → SY → Prop} {s c : Nat} (hs : s < 144) (hc : co s = nI c) (hc4 : c < 4) : ∀ (d k : Nat) (va : Nat → Int32), k + d = c → post (nI c) (tc, fc, tk, pa, na, cl, al, co, dt_dv (s * 4) d k va, tK, tA, tV, pt, oy, wt) → wY_drop_61 post (nI s) tc fc (d + 1) (nI k) tk pa na cl al co va tK tA tV pt oy wt := by
  have hv : vp_in (nI s) 144 := vp_in_nI hs (by decide)
  intro d
  induction d with
  | zero =>
    intro k va hk hp
    rw [wY_drop_61]; dsimp only
    rw [nI_clamp (by omega), hc]
    exact ⟨hv, br_t (nI_le (by omega) (by omega)) ⟨hv, hp⟩⟩
  | succ d ih =>
    intro k va hk hp
    rw [wY_drop_61]; dsimp only
    rw [nI_clamp (show s < 2 ^ 31 by omega), hc, dt_4y, nI_1 (s * 4 + k), nI_clamp (by omega), nI_clamp (by omega)]
    exact ⟨hv, br_f (nI_ge (by omega) (by omega)) ⟨vp_in_nI (by omega) (by decide), vp_in_nI (by omega) (by decide), nm_e (nm_r (nI_1 k) (ih (k + 1) _ (by omega) hp))⟩⟩
end
theorem i_vc_put {k : Nat} {u : SX} {v : SY} (I : i_Rel k u v) (hk : k + 4 ≤ 2048) (v1 : Int32) (v2 : Int32) (v3 : Int32) : wpX_put (fun r u' => wpY_put (fun r' v' => r' = r ∧ i_Rel (k + 4) u' v') v v1 v2 v3) u v1 v2 v3 := by
  obtain ⟨tcn, fcn, tk, pa, na, cl, od, al, vc, va, tK, tA, tV, tF, co, pt, oy, wt, rfl, rfl, R⟩ := I
  have R0 := R
  obtain ⟨T, C, O, V, K⟩ := R
  unfold wpX_put wpY_put; dsimp only
  by_cases hE : dt_E tk v1
  · obtain ⟨e, he, rfl, ht⟩ := hE
    refine xe_t he ht (br_f dt_10 ?_)
    by_cases hA : dt_L 6 v2
    · obtain ⟨a, ha, rfl⟩ := hA
      refine xa_t ha (br_f dt_10 (xb_v ?_))
      by_cases hB : dt_CB (nI a) v3
      · refine dt_tru hB (xl_v he (C e he) ?_)
        by_cases hL : dt_al al cl e (nI a)
        · refine dt_tru hL ?_
          obtain ⟨c, hc4, hx, hy, _, hw⟩ := V e he a ha
          have hy := hy ht
          have hs : e * 6 + a < 144 := by omega
          have hv : vp_in (nI (e * 6 + a)) 144 := vp_in_nI hs (by decide)
          unfold wpX_setOf
          rw [dt_6x]; dsimp only
          refine xp_v hs hx hc4 ?_
          rcases hp : dt_pl va (e * 6 + a) c v3 with _ | q
          · refine br_t rfl ⟨hv, ?_⟩
            rw [nI_clamp (by omega), hx]
            by_cases h4 : c = 4
            · have e4 : nI c = 4 := by rw [h4]; rfl
              refine br_t e4 (ye_t he ht (br_f dt_10 (ya_t ha (br_f dt_10 (yb_v (dt_tru hB (yl_v he (C e he) (dt_tru hL (yp_v he ha hy hc4 ?_)))))))))
              rw [hp]
              refine br_t (show (-1 : Int32) < 0 by decide) (nm_r (dt_6y e a) ⟨hv, ?_⟩)
              rw [nI_clamp (by omega), hy]
              exact br_t e4 ⟨rfl, rl_mk R0⟩
            · have e4 : ¬ nI c = 4 := fun z => h4 ((nI_eq (b := 4) (by omega) (by decide)).mp z)
              refine br_f e4 (xiv_v hs hx (by omega) ?_)
              dsimp only
              refine ⟨hv, ?_⟩
              rw [pk_us]
              refine ye_t he ht (br_f dt_10 (ya_t ha (br_f dt_10 (yb_v (dt_tru hB (yl_v he (C e he) (dt_tru hL (yp_v he ha hy hc4 ?_))))))))
              rw [hp]
              refine br_t (show (-1 : Int32) < 0 by decide) (nm_r (dt_6y e a) ⟨hv, ?_⟩)
              rw [nI_clamp (by omega), hy]
              refine br_f e4 ⟨hv, nm_e ⟨c + 1, yiv_l hs hy (by omega) c va (Nat.le_refl _) ⟨rfl, rl_mk ⟨T, C, O, dt_V_up V he ha ht (by omega) (fun h4 i hi => ?_) (fun j hj => dt_iv_o c va j (by omega)), K⟩⟩⟩⟩
              exact dt_iv_w (dt_CB4 h4 hB) c va (hw h4) i (by omega)
          · obtain ⟨q1, q2, _⟩ := dt_fds c 0 hp
            refine br_f (dt_m1 (by omega)) (ye_t he ht (br_f dt_10 (ya_t ha (br_f dt_10 (yb_v (dt_tru hB (yl_v he (C e he) (dt_tru hL (yp_v he ha hy hc4 ?_)))))))))
            rw [hp]
            exact br_f (nI_pos (by omega)) ⟨rfl, rl_mk R0⟩
        · exact dt_fls hL (ye_t he ht (br_f dt_10 (ya_t ha (br_f dt_10 (yb_v (dt_tru hB (yl_v he (C e he) (dt_fls hL ⟨rfl, rl_mk R0⟩))))))))
      · exact dt_fls hB (ye_t he ht (br_f dt_10 (ya_t ha (br_f dt_10 (yb_v (dt_fls hB ⟨rfl, rl_mk R0⟩))))))
    · exact xa_f hA (br_t rfl (ye_t he ht (br_f dt_10 (ya_f hA (br_t rfl ⟨rfl, rl_mk R0⟩)))))
  · exact xe_f hE (br_t rfl (ye_f hE (br_t rfl ⟨rfl, rl_mk R0⟩)))
theorem i_vc_drop {k : Nat} {u : SX} {v : SY} (I : i_Rel k u v) (hk : k + 4 ≤ 2048) (v1 : Int32) (v2 : Int32) (v3 : Int32) : wpX_drop (fun r u' => wpY_drop (fun r' v' => r' = r ∧ i_Rel (k + 4) u' v') v v1 v2 v3) u v1 v2 v3 := by
  obtain ⟨tcn, fcn, tk, pa, na, cl, od, al, vc, va, tK, tA, tV, tF, co, pt, oy, wt, rfl, rfl, R⟩ := I
  have R0 := R
  obtain ⟨T, C, O, V, K⟩ := R
  unfold wpX_drop wpY_drop; dsimp only
  by_cases hE : dt_E tk v1
  · obtain ⟨e, he, rfl, ht⟩ := hE
    refine xe_t he ht (br_f dt_10 ?_)
    by_cases hA : dt_L 6 v2
    · obtain ⟨a, ha, rfl⟩ := hA
      refine xa_t ha (br_f dt_10 ?_)
      obtain ⟨c, hc4, hx, hy, _, hw⟩ := V e he a ha
      have hy := hy ht
      have hs : e * 6 + a < 144 := by omega
      have hv : vp_in (nI (e * 6 + a)) 144 := vp_in_nI hs (by decide)
      unfold wpX_setOf
      rw [dt_6x]; dsimp only
      refine xp_v hs hx hc4 ?_
      rcases hp : dt_pl va (e * 6 + a) c v3 with _ | q
      · refine br_t rfl (ye_t he ht (br_f dt_10 (ya_t ha (br_f dt_10 (yp_v he ha hy hc4 ?_)))))
        rw [hp]
        exact br_f (show ¬ (0 : Int32) ≤ -1 by decide) ⟨rfl, rl_mk R0⟩
      · obtain ⟨q1, q2, _⟩ := dt_fds c 0 hp
        obtain ⟨c', rfl⟩ : ∃ c', c = c' + 1 := ⟨c - 1, by omega⟩
        refine br_f (dt_m1 (by omega)) ?_
        unfold wpX_deleteValue; dsimp only
        rw [nI_clamp (by omega), hx]
        refine nm_r (pk_mul _ 4) ⟨hv, hv, nm_r (by rw [nI_pred]) ⟨c' - q + 1, xdv_l (vc := upd vc (e * 6 + a) (nI c')) hs pk_us (by omega) (c' - q) q va (by omega) ?_⟩⟩
        dsimp only
        refine ⟨hv, ?_⟩
        rw [pk_us]
        refine ye_t he ht (br_f dt_10 (ya_t ha (br_f dt_10 (yp_v he ha hy hc4 ?_))))
        rw [hp]
        refine br_t (nI_pos' (by omega)) (nm_r (dt_6y e a) ⟨hv, hv, ?_⟩)
        rw [nI_clamp (by omega), hy]
        refine nm_r (by rw [nI_pred]) ⟨c' - q + 1, ydv_l (co := upd co (e * 6 + a) (nI c')) hs pk_us (by omega) (c' - q) q va (by omega) ⟨rfl, rl_mk ⟨T, C, O, dt_V_up V he ha ht (by omega) (fun h4 i hi => ?_) (fun j hj => dt_dv_o _ _ va j (by omega)), K⟩⟩⟩
        exact dt_dv_w (c := c' + 1) _ _ va (by omega) (hw h4) i (by omega)
    · exact xa_f hA (br_t rfl (ye_t he ht (br_f dt_10 (ya_f hA (br_t rfl ⟨rfl, rl_mk R0⟩)))))
  · exact xe_f hE (br_t rfl (ye_f hE (br_t rfl ⟨rfl, rl_mk R0⟩)))
