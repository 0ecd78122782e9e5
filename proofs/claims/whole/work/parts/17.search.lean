/-! count and found -/
theorem dt_up_u {pa : Nat → Int32} : ∀ (k k' : Nat) (x : Int32), dt_Up pa k x → dt_Up pa k' x → k = k' := by
  intro k
  induction k with
  | zero =>
    intro k' x h h'
    cases k' with
    | zero => rfl
    | succ k' =>
      obtain ⟨j, hj, rfl, _⟩ := h'
      exact absurd h (dt_m1 (by omega))
  | succ k ih =>
    intro k' x h h'
    obtain ⟨j, hj, rfl, hu⟩ := h
    cases k' with
    | zero => exact absurd h' (dt_m1 (by omega))
    | succ k' =>
      obtain ⟨i, hi, ei, hu'⟩ := h'
      rw [nI_eq (by omega) (by omega)] at ei
      subst ei
      rw [ih k' _ hu hu']
theorem dt_sub_le {pa : Nat → Int32} (p0 : pa 0 = -1) {t k' : Nat} (ht : t < 24) (hk' : dt_Up pa k' (nI t)) : ∀ (k : Nat) (x : Int32), dt_Up pa k x → dt_Sub pa (nI t) x → k' ≤ k := by
  intro k
  induction k with
  | zero =>
    intro x h hs
    have h : x = -1 := h
    subst h
    exact absurd hs (dt_sub_m1 p0 (dt_m1 (by omega)))
  | succ k ih =>
    intro x h hs
    have h0 := h
    obtain ⟨j, hj, rfl, hu⟩ := h
    rcases (dt_sub_s (by omega)).mp hs with z | z
    · rw [z] at h0
      rw [dt_up_u _ _ _ hk' h0]
      exact Nat.le_refl _
    · have := ih _ hu z
      omega
theorem dt_acy {tk pa na : Nat → Int32} (T : dt_T0 tk pa na) {t : Nat} (ht : t < 24) (htt : tk t ≠ 0) : ¬ dt_Sub pa (nI t) (pa t) := by
  intro hs
  obtain ⟨k, hk⟩ := T.2.2.2 t ht htt
  cases k with
  | zero => exact dt_m1 (by omega) hk
  | succ k =>
    have hk0 := hk
    obtain ⟨j, hj, ej, hu⟩ := hk
    rw [nI_eq (by omega) (by omega)] at ej
    subst ej
    have := dt_sub_le T.1.2 ht hk0 k _ hu hs
    omega
def dt_SC (pa : Nat → Int32) (t sc y : Nat) : Prop := (sc = 0 ∧ y = t) ∨ (sc = 1 ∧ pa y = nI t) ∨ (sc = 2 ∧ dt_Sub pa (nI t) (nI y)) ∨ (sc = 3 ∧ y ≠ t ∧ dt_Sub pa (nI t) (nI y))
theorem dt_SC0 {pa : Nat → Int32} {t y : Nat} : dt_SC pa t 0 y ↔ y = t := by
  constructor
  · rintro (z | z | z | z)
    · exact z.2
    · exact absurd z.1 (by omega)
    · exact absurd z.1 (by omega)
    · exact absurd z.1 (by omega)
  · exact fun z => Or.inl ⟨rfl, z⟩
theorem dt_SC1 {pa : Nat → Int32} {t y : Nat} : dt_SC pa t 1 y ↔ pa y = nI t := by
  constructor
  · rintro (z | z | z | z)
    · exact absurd z.1 (by omega)
    · exact z.2
    · exact absurd z.1 (by omega)
    · exact absurd z.1 (by omega)
  · exact fun z => Or.inr (Or.inl ⟨rfl, z⟩)
theorem dt_SC2 {pa : Nat → Int32} {t y : Nat} : dt_SC pa t 2 y ↔ dt_Sub pa (nI t) (nI y) := by
  constructor
  · rintro (z | z | z | z)
    · exact absurd z.1 (by omega)
    · exact absurd z.1 (by omega)
    · exact z.2
    · exact absurd z.1 (by omega)
  · exact fun z => Or.inr (Or.inr (Or.inl ⟨rfl, z⟩))
theorem dt_SC3 {pa : Nat → Int32} {t y : Nat} : dt_SC pa t 3 y ↔ (y ≠ t ∧ dt_Sub pa (nI t) (nI y)) := by
  constructor
  · rintro (z | z | z | z)
    · exact absurd z.1 (by omega)
    · exact absurd z.1 (by omega)
    · exact absurd z.1 (by omega)
    · exact z.2
  · exact fun z => Or.inr (Or.inr (Or.inr ⟨rfl, z⟩))
section
variable {ec tc fc : Int32} {tk pa na cl od al vc va tK tA tV tF : Nat → Int32} {co pt oy wt : Nat → Int32}
theorem xsc_v {post : Int32 → Prop} {t sc y : Nat} (T : dt_T0 tk pa na) (ht : t < 24) (hy : y < 24) (hyt : tk y ≠ 0) (hsc : sc < 4) (hp : post (dt_b (dt_SC pa t sc y))) : wpX_isInScope post (ec, tc, fc, tk, pa, na, cl, od, al, vc, va, tK, tA, tV, tF) (nI y) (nI t) (nI sc) := by
  unfold wpX_isInScope; dsimp only
  have eyt : nI y = nI t ↔ y = t := nI_eq (by omega) (by omega)
  rcases (show sc = 0 ∨ sc = 1 ∨ sc = 2 ∨ sc = 3 by omega) with rfl | rfl | rfl | rfl
  · refine br_f (by decide) (br_f (by decide) (br_t rfl ?_))
    rw [dt_bc dt_SC0] at hp
    by_cases h : y = t
    · rw [dt_b1 h] at hp; exact br_t (eyt.mpr h) hp
    · rw [dt_b0 h] at hp; exact br_f (fun z => h (eyt.mp z)) hp
  · refine br_f (by decide) (br_f (by decide) (br_f (by decide) (br_t rfl ⟨vp_in_nI hy (by decide), ?_⟩)))
    rw [nI_clamp (by omega)]
    rw [dt_bc dt_SC1] at hp
    by_cases h : pa y = nI t
    · rw [dt_b1 h] at hp; exact br_t h hp
    · rw [dt_b0 h] at hp; exact br_f h hp
  · rw [dt_bc dt_SC2] at hp
    exact br_f (by decide) (br_f (by decide) (br_f (by decide) (br_f (by decide) (br_t rfl (xs_v T ht hy (dt_up24 T hy hyt) ⟨dt_bn _, hp⟩)))))
  · rw [dt_bc dt_SC3] at hp
    refine br_f (by decide) (br_t (by decide) ?_)
    by_cases h : y = t
    · rw [dt_b0 (fun z => z.1 h)] at hp
      exact br_t (eyt.mpr h) hp
    · refine br_f (fun z => h (eyt.mp z)) (xs_v T ht hy (dt_up24 T hy hyt) ?_)
      by_cases hs : dt_Sub pa (nI t) (nI y)
      · rw [dt_b1 ⟨h, hs⟩] at hp; exact dt_tru hs hp
      · rw [dt_b0 (fun z => hs z.2)] at hp; exact dt_fls hs hp
theorem ysc_v {post : Int32 → Prop} {t sc y : Nat} (T : dt_T0 tk pa na) (ht : t < 24) (htt : tk t ≠ 0) (hy : y < 24) (hyt : tk y ≠ 0) (hsc : sc < 4) (hp : post (dt_b (dt_SC pa t sc y))) : wpY_inScope post (tc, fc, tk, pa, na, cl, al, co, va, tK, tA, tV, pt, oy, wt) (nI y) (nI t) (nI sc) := by
  unfold wpY_inScope; dsimp only
  have eyt : nI y = nI t ↔ y = t := nI_eq (by omega) (by omega)
  have hsub := dt_sub_s (pa := pa) (top := nI t) (j := y) (by omega)
  rcases (show sc = 0 ∨ sc = 1 ∨ sc = 2 ∨ sc = 3 by omega) with rfl | rfl | rfl | rfl
  · refine br_t rfl ?_
    rw [dt_bc dt_SC0] at hp
    by_cases h : y = t
    · rw [dt_b1 h] at hp; exact br_t (eyt.mpr h) hp
    · rw [dt_b0 h] at hp; exact br_f (fun z => h (eyt.mp z)) hp
  · refine br_f (by decide) (br_t rfl ⟨vp_in_nI hy (by decide), ?_⟩)
    rw [nI_clamp (by omega)]
    rw [dt_bc dt_SC1] at hp
    by_cases h : pa y = nI t
    · rw [dt_b1 h] at hp; exact br_t h hp
    · rw [dt_b0 h] at hp; exact br_f h hp
  · rw [dt_bc dt_SC2] at hp
    refine br_f (by decide) (br_f (by decide) (br_t rfl ?_))
    by_cases h : nI y = nI t
    · rw [dt_b1 (hsub.mpr (Or.inl h))] at hp
      exact br_t h hp
    · refine br_f h ?_
      unfold wY_inScope_46
      refine ys_v T ht hy (dt_up24 T hy hyt) ?_
      by_cases hs : dt_Sub pa (nI t) (pa y)
      · rw [dt_b1 (hsub.mpr (Or.inr hs))] at hp; exact dt_tru hs hp
      · rw [dt_b0 (fun z => (hsub.mp z).elim h hs)] at hp; exact dt_fls hs hp
  · rw [dt_bc dt_SC3] at hp
    refine br_f (by decide) (br_f (by decide) (br_f (by decide) ?_))
    unfold wY_inScope_46
    refine ys_v T ht hy (dt_up24 T hy hyt) ?_
    by_cases hs : dt_Sub pa (nI t) (pa y)
    · have h : y ≠ t := fun z => by subst z; exact dt_acy T ht htt hs
      rw [dt_b1 ⟨h, hsub.mpr (Or.inr hs)⟩] at hp
      exact dt_tru hs hp
    · rw [dt_b0 (fun z => by
        rcases hsub.mp z.2 with q | q
        · exact z.1 (eyt.mp q)
        · exact hs q)] at hp
      exact dt_fls hs hp
/-- one top of the stack for every entry -/
theorem t_all {fcn tcn : Nat} (hc : ∀ e, e < 24 → dt_L 4 (cl e)) (V : dt_V tk vc co va) (hK : dt_K tcn fcn tK tA tV tF) (hf1 : 1 ≤ fcn) : ∃ r : Nat → Nat, ∀ e, e < 24 → tk e ≠ 0 → r e < 3 ∧ (∀ post : Int32 → Prop, post (nI (r e)) → wpX_topFor post (ec, nI tcn, fc, tk, pa, na, cl, od, al, vc, va, tK, tA, tV, tF) (nI e)) ∧ (∀ (post : Int32 → SY → Prop) (pt oy wt : Nat → Int32), (∀ pt' : Nat → Int32, post (nI (r e)) (nI tcn, fc, tk, pa, na, cl, al, co, va, tK, tA, tV, pt', oy, wt)) → wpY_truth post (nI tcn, fc, tk, pa, na, cl, al, co, va, tK, tA, tV, pt, oy, wt) (nI e)) := by
  have H : ∀ e : Nat, ∃ r : Nat, (e < 24 → tk e ≠ 0 → r < 3 ∧ (∀ post : Int32 → Prop, post (nI r) → wpX_topFor post (ec, nI tcn, fc, tk, pa, na, cl, od, al, vc, va, tK, tA, tV, tF) (nI e)) ∧ (∀ (post : Int32 → SY → Prop) (pt oy wt : Nat → Int32), (∀ pt' : Nat → Int32, post (nI r) (nI tcn, fc, tk, pa, na, cl, al, co, va, tK, tA, tV, pt', oy, wt)) → wpY_truth post (nI tcn, fc, tk, pa, na, cl, al, co, va, tK, tA, tV, pt, oy, wt) (nI e))) := by
    intro e
    by_cases h : e < 24 ∧ tk e ≠ 0
    · obtain ⟨r, hr⟩ := t_v (ec := ec) (fc := fc) (pa := pa) (na := na) (od := od) (al := al) h.1 h.2 hc V hK hf1
      exact ⟨r, fun _ _ => hr⟩
    · exact ⟨0, fun a b => absurd ⟨a, b⟩ h⟩
  exact ⟨fun e => Classical.choose (H e), fun e => Classical.choose_spec (H e)⟩
theorem dt_at24 (T : dt_T0 tk pa na) {i : Nat} (hi : i < dt_ec tk) : dt_at tk pa na i < 24 ∧ tk (dt_at tk pa na i) ≠ 0 := by
  obtain ⟨R, e, K, hst, _, _, _, he, ht⟩ := dt_st_lt T hi
  rw [dt_at_s hst]
  exact ⟨he, ht⟩
theorem xct_l {post : Int32 → Prop} {t sc : Nat} {r : Nat → Nat} (T : dt_T0 tk pa na) (ht : t < 24) (hsc : sc < 4) (ho : ∀ i, i < dt_ec tk → od i = nI (dt_at tk pa na i)) (hr : ∀ e, e < 24 → tk e ≠ 0 → r e < 3 ∧ (∀ post : Int32 → Prop, post (nI (r e)) → wpX_topFor post (nI (dt_ec tk), tc, fc, tk, pa, na, cl, od, al, vc, va, tK, tA, tV, tF) (nI e))) (hp : post (nI (dt_hits tk pa na (fun y => dt_SC pa t sc y ∧ r y = 1) (dt_ec tk)))) : ∀ d i : Nat, i + d = dt_ec tk → wX_count_19 post (nI t) (nI sc) (nI (dt_ec tk)) tc fc tk pa na cl od al vc va tK tA tV tF (d + 1) (nI (dt_hits tk pa na (fun y => dt_SC pa t sc y ∧ r y = 1) i)) (nI i) := by
  have h24 := dt_ec_le tk
  intro d
  induction d with
  | zero =>
    intro i hi
    have e : i = dt_ec tk := hi
    subst e
    exact br_t (nI_le (Nat.le_refl _) (by omega)) hp
  | succ d ih =>
    intro i hi
    have h1 := ih (i + 1) (by omega)
    obtain ⟨hy, hyt⟩ := dt_at24 T (show i < dt_ec tk by omega)
    obtain ⟨hr3, hrx⟩ := hr _ hy hyt
    have hv : vp_in (nI i) 24 := vp_in_nI (by omega) (by decide)
    rw [wX_count_19]; dsimp only
    rw [nI_clamp (by omega), ho i (by omega)]
    refine br_f (nI_ge (by omega) (by omega)) ⟨hv, xsc_v T ht hy hyt hsc ?_⟩
    rw [dt_hits, dt_cn] at h1
    by_cases hS : dt_SC pa t sc (dt_at tk pa na i)
    · refine dt_tru hS ⟨hv, hrx _ ?_⟩
      by_cases h : r (dt_at tk pa na i) = 1
      · rw [dt_11 (c := dt_SC pa t sc (dt_at tk pa na i) ∧ r (dt_at tk pa na i) = 1) ⟨hS, h⟩] at h1
        exact br_t (by rw [h]; rfl) (nm_r (nI_1 _) (nm_r (nI_1 i) h1))
      · rw [dt_1z (c := dt_SC pa t sc (dt_at tk pa na i) ∧ r (dt_at tk pa na i) = 1) (fun z => h z.2)] at h1
        exact br_f (fun z => h ((nI_eq (b := 1) (by omega) (by decide)).mp z)) (nm_r (nI_1 i) h1)
    · rw [dt_1z (c := dt_SC pa t sc (dt_at tk pa na i) ∧ r (dt_at tk pa na i) = 1) (fun z => hS z.1)] at h1
      exact dt_fls hS (nm_r (nI_1 i) h1)
theorem yct_l {post : Int32 → SY → Prop} {t sc : Nat} {r : Nat → Nat} (T : dt_T0 tk pa na) (ht : t < 24) (htt : tk t ≠ 0) (hsc : sc < 4) (hr : ∀ e, e < 24 → tk e ≠ 0 → r e < 3 ∧ (∀ (post : Int32 → SY → Prop) (pt oy wt : Nat → Int32), (∀ pt' : Nat → Int32, post (nI (r e)) (tc, fc, tk, pa, na, cl, al, co, va, tK, tA, tV, pt', oy, wt)) → wpY_truth post (tc, fc, tk, pa, na, cl, al, co, va, tK, tA, tV, pt, oy, wt) (nI e))) (hp : ∀ pt' : Nat → Int32, post (nI (dt_cn (fun y => tk y ≠ 0 ∧ (dt_SC pa t sc y ∧ r y = 1)) 24)) (tc, fc, tk, pa, na, cl, al, co, va, tK, tA, tV, pt', oy, wt)) : ∀ (d i : Nat) (pt : Nat → Int32), i + d = 24 → wY_count_19 post (nI t) (nI sc) (d + 1) (nI (dt_cn (fun y => tk y ≠ 0 ∧ (dt_SC pa t sc y ∧ r y = 1)) i)) (nI i) tc fc tk pa na cl al co va tK tA tV pt oy wt := by
  intro d
  induction d with
  | zero =>
    intro i pt hi
    have e : i = 24 := hi
    subst e
    exact br_t (nI_le (a := 24) (b := 24) (by omega) (by decide)) (hp pt)
  | succ d ih =>
    intro i pt hi
    have h1 := fun pt => ih (i + 1) pt (by omega)
    rw [dt_cn] at h1
    rw [wY_count_19]; dsimp only
    rw [nI_clamp (by omega)]
    refine br_f (nI_ge (b := 24) (by omega) (by decide)) ⟨vp_in_nI (by omega) (by decide), ?_⟩
    by_cases hyt : tk i = 0
    · rw [dt_1z (c := tk i ≠ 0 ∧ (dt_SC pa t sc i ∧ r i = 1)) (fun z => z.1 hyt)] at h1
      exact br_t hyt (nm_r (nI_1 i) (h1 pt))
    · obtain ⟨hr3, hry⟩ := hr i (by omega) hyt
      refine br_f hyt (ysc_v T ht htt (by omega) hyt hsc ?_)
      by_cases hS : dt_SC pa t sc i
      · refine dt_tru hS (hry _ _ _ _ fun pt' => ?_)
        dsimp only
        by_cases h : r i = 1
        · rw [dt_11 (c := tk i ≠ 0 ∧ (dt_SC pa t sc i ∧ r i = 1)) ⟨hyt, hS, h⟩] at h1
          exact br_t (by rw [h]; rfl) (nm_r (nI_1 _) (nm_r (nI_1 i) (h1 pt')))
        · rw [dt_1z (c := tk i ≠ 0 ∧ (dt_SC pa t sc i ∧ r i = 1)) (fun z => h z.2.2)] at h1
          exact br_f (fun z => h ((nI_eq (b := 1) (by omega) (by decide)).mp z)) (nm_r (nI_1 i) (h1 pt'))
      · rw [dt_1z (c := tk i ≠ 0 ∧ (dt_SC pa t sc i ∧ r i = 1)) (fun z => hS z.2.1)] at h1
        exact dt_fls hS (nm_r (nI_1 i) (h1 pt))
theorem fd_l {t sc : Nat} {r : Nat → Nat} {k : Int32} (T : dt_T0 tk pa na) (ht : t < 24) (htt : tk t ≠ 0) (hsc : sc < 4) (ho : ∀ i, i < dt_ec tk → od i = nI (dt_at tk pa na i)) (hr : ∀ e, e < 24 → tk e ≠ 0 → r e < 3 ∧ (∀ post : Int32 → Prop, post (nI (r e)) → wpX_topFor post (nI (dt_ec tk), tc, fc, tk, pa, na, cl, od, al, vc, va, tK, tA, tV, tF) (nI e)) ∧ (∀ (post : Int32 → SY → Prop) (pt oy wt : Nat → Int32), (∀ pt' : Nat → Int32, post (nI (r e)) (tc, fc, tk, pa, na, cl, al, co, va, tK, tA, tV, pt', oy, wt)) → wpY_truth post (tc, fc, tk, pa, na, cl, al, co, va, tK, tA, tV, pt, oy, wt) (nI e))) : ∀ (d i : Nat) (h : Int32), i + d = dt_ec tk → ∃ res : Int32, (∀ post : Int32 → Prop, post res → wX_found_22 post (nI t) (nI sc) k (nI (dt_ec tk)) tc fc tk pa na cl od al vc va tK tA tV tF (d + 1) h (nI i)) ∧ (∀ (post : Int32 → SY → Prop) (pt oy wt : Nat → Int32), (∀ i, i < dt_ec tk → oy i = nI (dt_at tk pa na i)) → (∀ pt' : Nat → Int32, post res (tc, fc, tk, pa, na, cl, al, co, va, tK, tA, tV, pt', oy, wt)) → wY_found_32 post (nI t) (nI sc) (nI (dt_ec tk)) (d + 1) (k - h) (nI i) tc fc tk pa na cl al co va tK tA tV pt oy wt) := by
  have h24 := dt_ec_le tk
  intro d
  induction d with
  | zero =>
    intro i h hi
    have e : i = dt_ec tk := hi
    subst e
    exact ⟨-4, fun post hp => br_t (nI_le (Nat.le_refl _) (by omega)) hp, fun post pt oy wt _ hp => br_t (nI_le (Nat.le_refl _) (by omega)) (hp pt)⟩
  | succ d ih =>
    intro i h hi
    obtain ⟨hy, hyt⟩ := dt_at24 T (show i < dt_ec tk by omega)
    obtain ⟨hr3, hrx, hry⟩ := hr _ hy hyt
    have hv : vp_in (nI i) 24 := vp_in_nI (by omega) (by decide)
    have hlt : ¬ nI (dt_ec tk) ≤ nI i := nI_ge (by omega) (by omega)
    by_cases hS : dt_SC pa t sc (dt_at tk pa na i)
    · by_cases hh : r (dt_at tk pa na i) = 1
      · have e1 : nI (r (dt_at tk pa na i)) = 1 := by rw [hh]; rfl
        by_cases hk : h = k
        · refine ⟨nI (dt_at tk pa na i), fun post hp => ?_, fun post pt oy wt hoy hp => ?_⟩
          · rw [wX_found_22]; dsimp only
            rw [nI_clamp (by omega), ho i (by omega)]
            exact br_f hlt ⟨hv, xsc_v T ht hy hyt hsc (dt_tru hS ⟨hv, hrx _ (br_t e1 (br_t hk ⟨hv, hp⟩))⟩)⟩
          · rw [wY_found_32]; dsimp only
            rw [nI_clamp (by omega), hoy i (by omega)]
            exact br_f hlt ⟨hv, nm_e (ysc_v T ht htt hy hyt hsc (dt_tru hS (hry _ _ _ _ fun pt' => br_t e1 (br_t (by rw [hk]; exact Int32.sub_self k) (hp pt')))))⟩
        · obtain ⟨res, ix, iy⟩ := ih (i + 1) (h + 1) (by omega)
          refine ⟨res, fun post hp => ?_, fun post pt oy wt hoy hp => ?_⟩
          · rw [wX_found_22]; dsimp only
            rw [nI_clamp (by omega), ho i (by omega)]
            exact br_f hlt ⟨hv, xsc_v T ht hy hyt hsc (dt_tru hS ⟨hv, hrx _ (br_t e1 (br_f hk (nm_e (nm_r (nI_1 i) (ix post hp)))))⟩)⟩
          · rw [wY_found_32]; dsimp only
            rw [nI_clamp (by omega), hoy i (by omega)]
            refine br_f hlt ⟨hv, nm_e (ysc_v T ht htt hy hyt hsc (dt_tru hS (hry _ _ _ _ fun pt' => br_t e1 (br_f (fun z => hk ?_) (nm_r (e' := k - (h + 1)) ?_ (nm_r (nI_1 i) (iy post pt' oy wt hoy hp)))))))⟩
            · grind
            · grind
      · have e1 : ¬ nI (r (dt_at tk pa na i)) = 1 := fun z => hh ((nI_eq (b := 1) (by omega) (by decide)).mp z)
        obtain ⟨res, ix, iy⟩ := ih (i + 1) h (by omega)
        refine ⟨res, fun post hp => ?_, fun post pt oy wt hoy hp => ?_⟩
        · rw [wX_found_22]; dsimp only
          rw [nI_clamp (by omega), ho i (by omega)]
          exact br_f hlt ⟨hv, xsc_v T ht hy hyt hsc (dt_tru hS ⟨hv, hrx _ (br_f e1 (nm_r (nI_1 i) (ix post hp)))⟩)⟩
        · rw [wY_found_32]; dsimp only
          rw [nI_clamp (by omega), hoy i (by omega)]
          exact br_f hlt ⟨hv, nm_e (ysc_v T ht htt hy hyt hsc (dt_tru hS (hry _ _ _ _ fun pt' => br_f e1 (nm_r (nI_1 i) (iy post pt' oy wt hoy hp)))))⟩
    · obtain ⟨res, ix, iy⟩ := ih (i + 1) h (by omega)
      refine ⟨res, fun post hp => ?_, fun post pt oy wt hoy hp => ?_⟩
      · rw [wX_found_22]; dsimp only
        rw [nI_clamp (by omega), ho i (by omega)]
        exact br_f hlt ⟨hv, xsc_v T ht hy hyt hsc (dt_fls hS (nm_r (nI_1 i) (ix post hp)))⟩
      · rw [wY_found_32]; dsimp only
        rw [nI_clamp (by omega), hoy i (by omega)]
        exact br_f hlt ⟨hv, nm_e (ysc_v T ht htt hy hyt hsc (dt_fls hS (nm_r (nI_1 i) (iy post pt oy wt hoy hp))))⟩
/-- the refusals of a search -/
theorem sr_v {fcn : Nat} (hf : fcn ≤ 6) (x y : Int32) : (∃ t sc : Nat, t < 24 ∧ tk t ≠ 0 ∧ sc < 4 ∧ x = nI t ∧ y = nI sc ∧ 1 ≤ fcn ∧ (∀ post : Int32 → Prop, post 0 → wpX_searchRefusal post (ec, tc, nI fcn, tk, pa, na, cl, od, al, vc, va, tK, tA, tV, tF) x y) ∧ (∀ post : Int32 → Prop, post 0 → wpY_look post (tc, nI fcn, tk, pa, na, cl, al, co, va, tK, tA, tV, pt, oy, wt) x y)) ∨ (∃ m : Int32, ¬ m = 0 ∧ ¬ 0 ≤ m ∧ (∀ post : Int32 → Prop, post m → wpX_searchRefusal post (ec, tc, nI fcn, tk, pa, na, cl, od, al, vc, va, tK, tA, tV, tF) x y) ∧ (∀ post : Int32 → Prop, post m → wpY_look post (tc, nI fcn, tk, pa, na, cl, al, co, va, tK, tA, tV, pt, oy, wt) x y)) := by
  unfold wpX_searchRefusal wpY_look; dsimp only
  by_cases hE : dt_E tk x
  · obtain ⟨t, ht, rfl, htt⟩ := hE
    by_cases hS : dt_L 4 y
    · obtain ⟨sc, hsc, rfl⟩ := hS
      have h0 : ¬ nI sc < 0 := nI_pos (by omega)
      have h4 : nI sc < 4 := nI_lt (b := 4) hsc (by decide)
      have h3 : nI sc ≤ 3 := nI_le (b := 3) (by omega) (by decide)
      by_cases hz : fcn = 0
      · have e0 : nI fcn = 0 := by rw [hz]; rfl
        exact Or.inr ⟨-3, by decide, by decide, fun post hp => xe_t ht htt (br_f dt_10 (br_f h0 (br_t h4 (br_t e0 hp)))), fun post hp => ye_t ht htt (br_f dt_10 (br_f h0 (br_t h3 (br_t e0 hp))))⟩
      · have e0 : ¬ nI fcn = 0 := nI_ne0 (by omega) (by omega)
        exact Or.inl ⟨t, sc, ht, htt, hsc, rfl, rfl, by omega, fun post hp => xe_t ht htt (br_f dt_10 (br_f h0 (br_t h4 (br_f e0 hp)))), fun post hp => ye_t ht htt (br_f dt_10 (br_f h0 (br_t h3 (br_f e0 hp))))⟩
    · refine Or.inr ⟨-2, by decide, by decide, fun post hp => xe_t ht htt (br_f dt_10 ?_), fun post hp => ye_t ht htt (br_f dt_10 (yl_f (n := 3) hS (by decide) hp))⟩
      rcases dt_L_f (by decide) hS with h0 | ⟨h1, h0⟩
      · exact br_t h0 hp
      · exact br_f h1 (br_f (Int32.not_lt.mpr h0) hp)
  · exact Or.inr ⟨-1, by decide, by decide, fun post hp => xe_f hE (br_t rfl hp), fun post hp => ye_f hE (br_t rfl hp)⟩
end
theorem i_vc_count {k : Nat} {u : SX} {v : SY} (I : i_Rel k u v) (hk : k + 4 ≤ 2048) (v1 : Int32) (v2 : Int32) : wpX_count (fun r => wpY_count (fun r' v' => r' = r ∧ i_Rel (k + 4) u v') v v1 v2) u v1 v2 := by
  obtain ⟨tcn, fcn, tk, pa, na, cl, od, al, vc, va, tK, tA, tV, tF, co, pt, oy, wt, rfl, rfl, R⟩ := I
  have R0 := R
  obtain ⟨T, C, O, V, K⟩ := R
  have hf6 : fcn ≤ 6 := by obtain ⟨_, _, _, _, h, _⟩ := K; exact h
  unfold wpX_count wpY_count; dsimp only
  rcases sr_v (ec := nI (dt_ec tk)) (tc := nI tcn) (tk := tk) (pa := pa) (na := na) (cl := cl) (od := od) (al := al) (vc := vc) (va := va) (tK := tK) (tA := tA) (tV := tV) (tF := tF) (co := co) (pt := pt) (oy := oy) (wt := wt) hf6 v1 v2 with ⟨t, sc, ht, htt, hsc, rfl, rfl, h1, sx, sy⟩ | ⟨m, hm, hm0, sx, sy⟩
  · obtain ⟨r, hr⟩ := t_all (ec := nI (dt_ec tk)) (fc := nI fcn) (pa := pa) (na := na) (od := od) (al := al) C V K h1
    refine sx _ (br_t rfl ⟨dt_ec tk + 1, xct_l T ht hsc O (fun e he het => ⟨(hr e he het).1, (hr e he het).2.1⟩) ?_ (dt_ec tk) 0 (by omega)⟩)
    refine sy _ (br_t (by decide) ⟨25, yct_l T ht htt hsc (fun e he het => ⟨(hr e he het).1, (hr e he het).2.2⟩) (fun pt' => ⟨?_, rl_mk R0⟩) 24 0 pt rfl⟩)
    rw [dt_hits_all T]
  · exact sx _ (br_f hm (sy _ (br_f hm0 ⟨rfl, rl_mk R0⟩)))
theorem i_vc_found {k : Nat} {u : SX} {v : SY} (I : i_Rel k u v) (hk : k + 4 ≤ 2048) (v1 : Int32) (v2 : Int32) (v3 : Int32) : wpX_found (fun r => wpY_found (fun r' v' => r' = r ∧ i_Rel (k + 4) u v') v v1 v2 v3) u v1 v2 v3 := by
  obtain ⟨tcn, fcn, tk, pa, na, cl, od, al, vc, va, tK, tA, tV, tF, co, pt, oy, wt, rfl, rfl, R⟩ := I
  have R0 := R
  obtain ⟨T, C, O, V, K⟩ := R
  have hf6 : fcn ≤ 6 := by obtain ⟨_, _, _, _, h, _⟩ := K; exact h
  unfold wpX_found wpY_found; dsimp only
  rcases sr_v (ec := nI (dt_ec tk)) (tc := nI tcn) (tk := tk) (pa := pa) (na := na) (cl := cl) (od := od) (al := al) (vc := vc) (va := va) (tK := tK) (tA := tA) (tV := tV) (tF := tF) (co := co) (pt := pt) (oy := oy) (wt := wt) hf6 v1 v2 with ⟨t, sc, ht, htt, hsc, rfl, rfl, h1, sx, sy⟩ | ⟨m, hm, hm0, sx, sy⟩
  · obtain ⟨r, hr⟩ := t_all (ec := nI (dt_ec tk)) (fc := nI fcn) (pa := pa) (na := na) (od := od) (al := al) C V K h1
    obtain ⟨res, ix, iy⟩ := fd_l (tc := nI tcn) (fc := nI fcn) (od := od) (k := v3) T ht htt hsc O hr (dt_ec tk) 0 0 (by omega)
    refine sx _ (br_t rfl ⟨_, ix _ (sy _ (br_t (by decide) (yo_v T fun o' w' ho => ?_)))⟩)
    dsimp only
    refine ye_v ⟨dt_ec tk + 1, ?_⟩
    have := iy (fun r' v' => r' = res ∧ i_Rel (k + 4) (nI (dt_ec tk), nI tcn, nI fcn, tk, pa, na, cl, od, al, vc, va, tK, tA, tV, tF) v') pt o' w' ho (fun pt' => ⟨rfl, rl_mk R0⟩)
    rw [show v3 - 0 = v3 from Int32.sub_zero v3] at this
    exact this
  · exact sx _ (br_f hm (sy _ (br_f hm0 ⟨rfl, rl_mk R0⟩)))
