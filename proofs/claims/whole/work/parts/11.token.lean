/-! token -/
def dt_tk (j : Nat) : Nat := if j < 5 then 0 else if j = 5 then 1 else 2
theorem dt_tk2 (j : Nat) : dt_tk j ≤ 2 := by
  unfold dt_tk
  by_cases h1 : j < 5
  · rw [if_pos h1]; omega
  · rw [if_neg h1]
    by_cases h2 : j = 5
    · rw [if_pos h2]; omega
    · rw [if_neg h2]; omega
theorem dt_K_ext {t f j : Nat} {a v : Int32} {tK tA tV tF : Nat → Int32} (K : dt_K t f tK tA tV tF) (ht : t < 20) (hj : j < 8) (hf : dt_tk j ≤ f) (h6 : dt_tk j = 0 → f ≠ 6) (ha : j < 5 → dt_L 6 a) : dt_K (t + 1) (f - dt_tk j + 1) (upd tK t (nI j)) (upd tA t a) (upd tV t v) (upd tF t (dt_b (dt_fit j a v))) := by
  obtain ⟨h, h0, hft, h20, hf6, hh⟩ := K
  have hf' : f - dt_tk j + 1 ≤ 6 := by
    by_cases z : dt_tk j = 0
    · have := h6 z; omega
    · omega
  refine ⟨fun i => if i = t + 1 then f - dt_tk j + 1 else h i, ?_, ?_, by omega, hf', ?_⟩
  · show (if (0 : Nat) = t + 1 then _ else h 0) = 0
    rw [if_neg (by omega)]; exact h0
  · show (if t + 1 = t + 1 then _ else h (t + 1)) = _
    rw [if_pos rfl]
  · intro i hi
    dsimp only
    by_cases e : i = t
    · subst e
      rw [if_pos rfl, if_neg (show ¬ i = i + 1 by omega), pk_us, pk_us, pk_us, pk_us]
      refine ⟨hf', j, hj, rfl, fun c => ?_, fun c => ?_, fun c => ?_⟩
      · have : dt_tk j = 0 := by unfold dt_tk; rw [if_pos c]
        exact ⟨by omega, ha c, rfl⟩
      · have : dt_tk j = 1 := by unfold dt_tk; rw [if_neg (by omega), if_pos c]
        omega
      · have : dt_tk j = 2 := by unfold dt_tk; rw [if_neg (by omega), if_neg (by omega)]
        omega
    · rw [if_neg (show ¬ i + 1 = t + 1 by omega), if_neg (show ¬ i = t + 1 by omega), pk_un e, pk_un e, pk_un e, pk_un e]
      exact hh i (by omega)
section
variable {ec tc fc : Int32} {tk pa na cl od al vc va tK tA tV tF : Nat → Int32} {co pt oy wt : Nat → Int32}
theorem xk_v {post : Int32 → Prop} {j : Nat} {a v : Int32} (hj : j < 8) (hp : post (dt_b (dt_fit j a v))) : wpX_canCompare post (nI j) a v := by
  unfold wpX_canCompare
  by_cases h0 : j = 0
  · rw [dt_b1 (c := dt_fit j a v) (Or.inl h0)] at hp
    exact br_t (by rw [h0]; rfl) hp
  · refine br_f (nI_ne0 (by omega) (by omega)) ?_
    have key : (j < 3 ∨ a < 4) → wX_canCompare_18 post a v := fun h => by
      unfold wX_canCompare_18
      rw [dt_bc (c := dt_fit j a v) (d := dt_CB a v) ⟨fun z => z.elim (fun q => absurd q h0) (fun q => q.2), fun z => Or.inr ⟨h, z⟩⟩] at hp
      exact xb_v ⟨dt_bn _, hp⟩
    by_cases h3 : j < 3
    · exact br_t (nI_lt (b := 3) h3 (by decide)) (key (Or.inl h3))
    · refine br_f (nI_nlt (b := 3) (by omega) (by omega)) ?_
      by_cases h4 : a < 4
      · exact br_t h4 (key (Or.inr h4))
      · rw [dt_b0 (fun z => z.elim h0 (fun q => q.1.elim h3 h4))] at hp
        exact br_f h4 hp
theorem xk_t {post : Int32 → Prop} {j : Nat} (hj : j < 8) (hp : post (nI (dt_tk j))) : wpX_filtersTaken post (nI j) := by
  unfold wpX_filtersTaken
  unfold dt_tk at hp
  by_cases h1 : j < 5
  · rw [if_pos h1] at hp
    exact br_f (nI_nlt (a := 4) (by omega) (by decide)) hp
  · rw [if_neg h1] at hp
    refine br_t (nI_lt (a := 4) (by omega) (by omega)) ?_
    by_cases h2 : j = 5
    · rw [if_pos h2] at hp
      exact br_t (by rw [h2]; rfl) hp
    · rw [if_neg h2] at hp
      exact br_f (fun z => h2 ((nI_eq (b := 5) (by omega) (by decide)).mp z)) hp
theorem dt_hx {f s : Nat} (h : s ≤ f) : nI f + (1 - nI s) = nI (f - s + 1) := by
  rw [← nI_1, ← pk_sub h]
  grind
theorem dt_hy {f s : Nat} (h : s ≤ f) : nI f - nI s + 1 = nI (f - s + 1) := by
  rw [← nI_1, ← pk_sub h]
theorem tk_j {k t f j : Nat} {a v : Int32} (R : dt_R t f tk pa na cl od vc va tK tA tV tF co) (hj : j < 8) (ha : j < 5 → dt_L 6 a) (hY : ∀ post : Int32 → SY → Prop, wY_token_25 post (nI j) a v (nI t) (nI f) tk pa na cl al co va tK tA tV pt oy wt → wpY_token post (nI t, nI f, tk, pa, na, cl, al, co, va, tK, tA, tV, pt, oy, wt) (nI j) a v) : wX_token_24 (fun r u' => wpY_token (fun r' v' => r' = r ∧ i_Rel k u' v') (nI t, nI f, tk, pa, na, cl, al, co, va, tK, tA, tV, pt, oy, wt) (nI j) a v) (nI j) a v (nI (dt_ec tk)) (nI t) (nI f) tk pa na cl od al vc va tK tA tV tF := by
  have K := R.2.2.2.2
  have h20 : t ≤ 20 ∧ f ≤ 6 := by obtain ⟨_, _, _, h, h', _⟩ := K; exact ⟨h, h'⟩
  have h2 := dt_tk2 j
  unfold wX_token_24
  by_cases c20 : t = 20
  · have e : nI t = 20 := by rw [c20]; rfl
    refine br_t e (hY _ ?_)
    exact br_t e ⟨rfl, rl_mk R⟩
  · have e20 : ¬ nI t = 20 := fun z => c20 ((nI_eq (b := 20) (by omega) (by decide)).mp z)
    have hY2 : ∀ post : Int32 → SY → Prop, wY_token_56 post (nI j) a v (nI (dt_tk j)) (nI t) (nI f) tk pa na cl al co va tK tA tV pt oy wt → wpY_token post (nI t, nI f, tk, pa, na, cl, al, co, va, tK, tA, tV, pt, oy, wt) (nI j) a v := fun post hp => hY post (by
      unfold wY_token_25
      unfold dt_tk at hp
      refine br_f e20 ?_
      by_cases h1 : j < 5
      · rw [if_pos h1] at hp
        exact br_f (nI_ge (b := 5) h1 (by decide)) hp
      · rw [if_neg h1] at hp
        refine br_t (nI_le (a := 5) (by omega) (by omega)) ?_
        by_cases h2 : j = 5
        · rw [if_pos h2] at hp
          exact br_t (by rw [h2]; rfl) hp
        · rw [if_neg h2] at hp
          exact br_f (fun z => h2 ((nI_eq (b := 5) (by omega) (by decide)).mp z)) hp)
    refine br_f e20 (xk_t hj ?_)
    by_cases hle : dt_tk j ≤ f
    · have ele : nI (dt_tk j) ≤ nI f := nI_le hle (by omega)
      have core : (dt_tk j = 0 → f ≠ 6) → (∀ post : Int32 → SY → Prop, wY_token_87 post (nI j) a v (nI (dt_tk j)) (nI t) (nI f) tk pa na cl al co va tK tA tV pt oy wt → wpY_token post (nI t, nI f, tk, pa, na, cl, al, co, va, tK, tA, tV, pt, oy, wt) (nI j) a v) → wX_token_71 (fun r u' => wpY_token (fun r' v' => r' = r ∧ i_Rel k u' v') (nI t, nI f, tk, pa, na, cl, al, co, va, tK, tA, tV, pt, oy, wt) (nI j) a v) (nI j) a v (nI (dt_tk j)) (nI (dt_ec tk)) (nI t) (nI f) tk pa na cl od al vc va tK tA tV tF := by
        intro h6 hY3
        have hv : vp_in (nI t) 20 := vp_in_nI (by omega) (by decide)
        unfold wX_token_71
        rw [nI_clamp (by omega)]
        refine ⟨hv, nm_e ⟨hv, nm_e ⟨hv, nm_e (xk_v hj ⟨hv, nm_r (by rw [dt_vnd]) (nm_r (nI_1 t) (nm_r (dt_hx hle) (hY3 _ ?_)))⟩)⟩⟩⟩
        unfold wY_token_87
        rw [nI_clamp (by omega)]
        exact ⟨hv, nm_e ⟨hv, nm_e ⟨hv, nm_e (nm_r (nI_1 t) (nm_r (dt_hy hle) ⟨rfl, rl_mk ⟨R.1, R.2.1, R.2.2.1, R.2.2.2.1, dt_K_ext K (by omega) hj hle h6 ha⟩⟩))⟩⟩⟩
      refine br_t ele ?_
      by_cases h0 : dt_tk j = 0
      · have e0 : nI (dt_tk j) = 0 := by rw [h0]; rfl
        refine br_t e0 ?_
        by_cases c6 : f = 6
        · have e6 : nI f = 6 := by rw [c6]; rfl
          exact br_t e6 (hY2 _ (br_t ele (br_t e0 (br_t e6 ⟨rfl, rl_mk R⟩))))
        · have e6 : ¬ nI f = 6 := fun z => c6 ((nI_eq (b := 6) (by omega) (by decide)).mp z)
          exact br_f e6 (core (fun _ => c6) (fun post hp => hY2 post (br_t ele (br_t e0 (br_f e6 hp)))))
      · have e0 : ¬ nI (dt_tk j) = 0 := nI_ne0 (by omega) (by omega)
        exact br_f e0 (core (fun z => absurd z h0) (fun post hp => hY2 post (br_t ele (br_f e0 hp))))
    · have ele : ¬ nI (dt_tk j) ≤ nI f := nI_ge (by omega) (by omega)
      exact br_f ele (hY2 _ (br_f ele ⟨rfl, rl_mk R⟩))
end
theorem i_vc_token {k : Nat} {u : SX} {v : SY} (I : i_Rel k u v) (hk : k + 4 ≤ 2048) (v1 : Int32) (v2 : Int32) (v3 : Int32) : wpX_token (fun r u' => wpY_token (fun r' v' => r' = r ∧ i_Rel (k + 4) u' v') v v1 v2 v3) u v1 v2 v3 := by
  obtain ⟨tcn, fcn, tk, pa, na, cl, od, al, vc, va, tK, tA, tV, tF, co, pt, oy, wt, rfl, rfl, R⟩ := I
  unfold wpX_token; dsimp only
  rcases pk_ix v1 (n := 8) (by decide) with h0 | h0 | ⟨j, hj, rfl⟩
  · exact br_t h0 (br_t h0 ⟨rfl, rl_mk R⟩)
  · have h1 := dt_ge0 h0 (by decide)
    exact br_f h1 (br_t h0 (br_f h1 (br_t (dt_gt (b := 7) h0 (by decide) (by decide)) ⟨rfl, rl_mk R⟩)))
  · have h1 : ¬ nI j < 0 := nI_pos (by omega)
    have h7 : ¬ 7 < nI j := nI_nlt (a := 7) (by omega) (by decide)
    refine br_f h1 (br_f (nI_ge (b := 8) hj (by decide)) ?_)
    by_cases c : j < 5
    · have h5 : ¬ 5 ≤ nI j := nI_ge (b := 5) c (by decide)
      refine br_f (nI_nlt (a := 4) (by omega) (by decide)) ?_
      by_cases hA : dt_L 6 v2
      · obtain ⟨a, ha, rfl⟩ := hA
        refine xa_t ha (br_f dt_10 (tk_j R hj (fun _ => ⟨a, ha, rfl⟩) fun post hp => ?_))
        exact br_f h1 (br_f h7 (br_f h5 (ya_t ha (br_f dt_10 hp))))
      · exact xa_f hA (br_t rfl (br_f h1 (br_f h7 (br_f h5 (ya_f hA (br_t rfl ⟨rfl, rl_mk R⟩))))))
    · have h5 : 5 ≤ nI j := nI_le (a := 5) (by omega) (by omega)
      refine br_t (nI_lt (a := 4) (by omega) (by omega)) (tk_j R hj (fun z => absurd z c) fun post hp => ?_)
      exact br_f h1 (br_f h7 (br_t h5 hp))
