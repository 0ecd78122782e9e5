/-! the small methods of both sides, each by its value -/
section
variable {ec tc fc : Int32} {tk pa na cl od al vc va tK tA tV tF : Nat → Int32}
variable {tn hh : Int32} {th pp nn kk aw co vb sk sa sw pt oy wt : Nat → Int32}
def dt_E (tk : Nat → Int32) (x : Int32) : Prop := ∃ j : Nat, j < 24 ∧ x = nI j ∧ tk j ≠ 0
theorem xe_t {post : Int32 → Prop} {j : Nat} (hj : j < 24) (ht : tk j ≠ 0) (hp : post 1) : wpX_isEntry post (ec, tc, fc, tk, pa, na, cl, od, al, vc, va, tK, tA, tV, tF) (nI j) := by
  unfold wpX_isEntry; dsimp only
  rw [nI_clamp (by omega)]
  exact br_f (nI_pos (by omega)) (br_f (nI_ge (b := 24) hj (by decide)) ⟨vp_in_nI hj (by decide), br_f ht hp⟩)
theorem xe_f {post : Int32 → Prop} {x : Int32} (h : ¬ dt_E tk x) (hp : post 0) : wpX_isEntry post (ec, tc, fc, tk, pa, na, cl, od, al, vc, va, tK, tA, tV, tF) x := by
  unfold wpX_isEntry; dsimp only
  rcases pk_ix x (n := 24) (by decide) with h0 | h0 | ⟨j, hj, rfl⟩
  · exact br_t h0 hp
  · exact br_f (dt_ge0 h0 (by decide)) (br_t h0 hp)
  · rw [nI_clamp (by omega)]
    exact br_f (nI_pos (by omega)) (br_f (nI_ge (b := 24) hj (by decide)) ⟨vp_in_nI hj (by decide), br_t (Classical.byContradiction fun z => h ⟨j, hj, rfl, z⟩) hp⟩)
theorem ye_t {post : Int32 → Prop} {j : Nat} (hj : j < 24) (ht : th j ≠ 0) (hp : post 1) : wpY_isEntry post (tn, hh, th, pp, nn, kk, aw, co, vb, sk, sa, sw, pt, oy, wt) (nI j) := by
  unfold wpY_isEntry; dsimp only
  rw [nI_clamp (by omega)]
  exact br_f (nI_pos (by omega)) (br_f (nI_nlt (a := 23) (by omega) (by decide)) ⟨vp_in_nI hj (by decide), br_f ht hp⟩)
theorem ye_f {post : Int32 → Prop} {x : Int32} (h : ¬ dt_E th x) (hp : post 0) : wpY_isEntry post (tn, hh, th, pp, nn, kk, aw, co, vb, sk, sa, sw, pt, oy, wt) x := by
  unfold wpY_isEntry; dsimp only
  rcases pk_ix x (n := 24) (by decide) with h0 | h0 | ⟨j, hj, rfl⟩
  · exact br_t h0 hp
  · exact br_f (dt_ge0 h0 (by decide)) (br_t (dt_gt (b := 23) h0 (by decide) (by decide)) hp)
  · rw [nI_clamp (by omega)]
    exact br_f (nI_pos (by omega)) (br_f (nI_nlt (a := 23) (by omega) (by decide)) ⟨vp_in_nI hj (by decide), br_t (Classical.byContradiction fun z => h ⟨j, hj, rfl, z⟩) hp⟩)
/-- x is one of the numbers below n -/
def dt_L (n : Nat) (x : Int32) : Prop := ∃ j : Nat, j < n ∧ x = nI j
theorem dt_L_f {n : Nat} {x : Int32} (hn : n < 2 ^ 31) (h : ¬ dt_L n x) : x < 0 ∨ (¬ x < 0 ∧ nI n ≤ x) := by
  rcases pk_ix x hn with h0 | h0 | h0
  · exact Or.inl h0
  · exact Or.inr ⟨dt_ge0 h0 hn, h0⟩
  · exact absurd h0 h
theorem xa_t {post : Int32 → Prop} {j : Nat} (hj : j < 6) (hp : post 1) : wpX_isAttribute post (nI j) :=
  br_f (nI_pos (by omega)) (br_f (nI_ge (b := 6) hj (by decide)) hp)
theorem xa_f {post : Int32 → Prop} {x : Int32} (h : ¬ dt_L 6 x) (hp : post 0) : wpX_isAttribute post x := by
  rcases dt_L_f (by decide) h with h0 | ⟨h1, h0⟩
  · exact br_t h0 hp
  · exact br_f h1 (br_t h0 hp)
theorem ya_t {post : Int32 → Prop} {j : Nat} (hj : j < 6) (hp : post 1) : wpY_isAttribute post (tn, hh, th, pp, nn, kk, aw, co, vb, sk, sa, sw, pt, oy, wt) (nI j) :=
  br_f (nI_pos (by omega)) (br_f (nI_nlt (a := 5) (by omega) (by decide)) hp)
theorem ya_f {post : Int32 → Prop} {x : Int32} (h : ¬ dt_L 6 x) (hp : post 0) : wpY_isAttribute post (tn, hh, th, pp, nn, kk, aw, co, vb, sk, sa, sw, pt, oy, wt) x := by
  rcases dt_L_f (by decide) h with h0 | ⟨h1, h0⟩
  · exact br_t h0 hp
  · exact br_f h1 (br_t (dt_gt (b := 5) h0 (by decide) (by decide)) hp)
theorem xc_t {post : Int32 → Prop} {j : Nat} (hj : j < 4) (hp : post 1) : wpX_isClass post (nI j) :=
  br_f (nI_pos (by omega)) (br_f (nI_ge (b := 4) hj (by decide)) hp)
theorem xc_f {post : Int32 → Prop} {x : Int32} (h : ¬ dt_L 4 x) (hp : post 0) : wpX_isClass post x := by
  rcases dt_L_f (by decide) h with h0 | ⟨h1, h0⟩
  · exact br_t h0 hp
  · exact br_f h1 (br_t h0 hp)
theorem xm_t {post : Int32 → Prop} {j : Nat} (hj : j < 10) (hp : post 1) : wpX_isName post (nI j) :=
  br_f (nI_pos (by omega)) (br_f (nI_ge (b := 10) hj (by decide)) hp)
theorem xm_f {post : Int32 → Prop} {x : Int32} (h : ¬ dt_L 10 x) (hp : post 0) : wpX_isName post x := by
  rcases dt_L_f (by decide) h with h0 | ⟨h1, h0⟩
  · exact br_t h0 hp
  · exact br_f h1 (br_t h0 hp)
/-- the form of Y's tests: x < 0, then x ≤ n - 1 -/
theorem yl_t {A B C : Prop} {n : Nat} {x : Int32} {j : Nat} (hx : x = nI j) (hj : j < n + 1) (hn : n < 2 ^ 31 - 1) (b : B) : (x < 0 → A) ∧ (¬ x < 0 → ((x ≤ nI n → B) ∧ (¬ x ≤ nI n → C))) := by
  subst hx
  exact br_f (nI_pos (by omega)) (br_t (nI_le (by omega) (by omega)) b)
theorem yl_f {A B : Prop} {n : Nat} {x : Int32} (h : ¬ dt_L (n + 1) x) (hn : n < 2 ^ 31 - 1) (a : A) : (x < 0 → A) ∧ (¬ x < 0 → ((x ≤ nI n → B) ∧ (¬ x ≤ nI n → A))) := by
  rcases dt_L_f (by omega) h with h0 | ⟨h1, h0⟩
  · exact br_t h0 a
  · exact br_f h1 (br_f (dt_ge h0 (by omega) (by omega)) a)
/-- entryNamed, child -/
theorem xn_l {x1 x2 : Int32} {post : Int32 → Prop} : ∀ d i : Nat, i + d = 24 → post (dt_o (-1) (dt_fd (fun e => tk e ≠ 0 ∧ pa e = x1 ∧ na e = x2) d i)) → wX_entryNamed_2 post x1 x2 ec tc fc tk pa na cl od al vc va tK tA tV tF (d + 1) (nI i) := by
  intro d
  induction d with
  | zero => intro i hi hp; exact br_t (nI_le (a := 24) (by omega) (by omega)) hp
  | succ d ih =>
    intro i hi hp
    have hn := ih (i + 1) (by omega)
    rw [wX_entryNamed_2]; dsimp only
    rw [nI_clamp (show i < 2 ^ 31 by omega)]
    have hv : vp_in (nI i) 24 := vp_in_nI (by omega) (by decide)
    refine br_f (nI_ge (b := 24) (by omega) (by decide)) ⟨hv, ?_⟩
    by_cases h1 : tk i = 0
    · rw [dt_fdn (fun z => z.1 h1)] at hp
      exact br_t h1 (nm_r (nI_1 i) (hn hp))
    · refine br_f h1 ⟨hv, ?_⟩
      by_cases h2 : pa i = x1
      · refine br_t h2 ⟨hv, ?_⟩
        by_cases h3 : na i = x2
        · rw [dt_fdy ⟨h1, h2, h3⟩] at hp
          exact br_t h3 hp
        · rw [dt_fdn (fun z => h3 z.2.2)] at hp
          exact br_f h3 (nm_r (nI_1 i) (hn hp))
      · rw [dt_fdn (fun z => h2 z.2.1)] at hp
        exact br_f h2 (nm_r (nI_1 i) (hn hp))
theorem xn_v {post : Int32 → Prop} {x1 x2 : Int32} (hp : post (dt_o (-1) (dt_nm tk pa na x1 x2))) : wpX_entryNamed post (ec, tc, fc, tk, pa, na, cl, od, al, vc, va, tK, tA, tV, tF) x1 x2 := ⟨24, xn_l 23 1 rfl hp⟩
theorem yn_l {x1 x2 : Int32} {post : Int32 → Prop} : ∀ d i : Nat, i + d = 24 → post (dt_o (-2) (dt_fd (fun e => th e ≠ 0 ∧ pp e = x1 ∧ nn e = x2) d i)) → wY_child_12 post x1 x2 tn hh th pp nn kk aw co vb sk sa sw pt oy wt (d + 1) (nI i) := by
  intro d
  induction d with
  | zero => intro i hi hp; exact br_t (nI_le (a := 24) (by omega) (by omega)) hp
  | succ d ih =>
    intro i hi hp
    have hn := ih (i + 1) (by omega)
    rw [wY_child_12]; dsimp only
    rw [nI_clamp (show i < 2 ^ 31 by omega)]
    have hv : vp_in (nI i) 24 := vp_in_nI (by omega) (by decide)
    refine br_f (nI_ge (b := 24) (by omega) (by decide)) ⟨hv, ?_⟩
    by_cases h1 : th i = 0
    · rw [dt_fdn (fun z => z.1 h1)] at hp
      exact br_t h1 (nm_r (nI_1 i) (hn hp))
    · refine br_f h1 ⟨hv, ?_⟩
      by_cases h2 : pp i = x1
      · refine br_t h2 ⟨hv, ?_⟩
        by_cases h3 : nn i = x2
        · rw [dt_fdy ⟨h1, h2, h3⟩] at hp
          exact br_t h3 hp
        · rw [dt_fdn (fun z => h3 z.2.2)] at hp
          exact br_f h3 (nm_r (nI_1 i) (hn hp))
      · rw [dt_fdn (fun z => h2 z.2.1)] at hp
        exact br_f h2 (nm_r (nI_1 i) (hn hp))
theorem yn_v {post : Int32 → Prop} {j : Nat} {x2 : Int32} (hj : j < 24) (ht : th j ≠ 0) (hp : post (dt_o (-2) (dt_nm th pp nn (nI j) x2))) : wpY_child post (tn, hh, th, pp, nn, kk, aw, co, vb, sk, sa, sw, pt, oy, wt) (nI j) x2 := by
  unfold wpY_child; dsimp only
  exact ye_t hj ht (br_f dt_10 ⟨24, yn_l 23 1 rfl hp⟩)
theorem yn_f {post : Int32 → Prop} {x1 x2 : Int32} (h : ¬ dt_E th x1) (hp : post (-1)) : wpY_child post (tn, hh, th, pp, nn, kk, aw, co, vb, sk, sa, sw, pt, oy, wt) x1 x2 := by
  unfold wpY_child; dsimp only
  exact ye_f h (br_t rfl hp)
/-- the least free number -/
theorem xf_l {post : Int32 → Prop} : ∀ d i : Nat, i + d = 24 → post (dt_o (-1) (dt_fd (fun e => tk e = 0) d i)) → wX_leastFreeNumber_2 post ec tc fc tk pa na cl od al vc va tK tA tV tF (d + 1) (nI i) := by
  intro d
  induction d with
  | zero => intro i hi hp; exact br_t (nI_le (a := 24) (by omega) (by omega)) hp
  | succ d ih =>
    intro i hi hp
    have hn := ih (i + 1) (by omega)
    rw [wX_leastFreeNumber_2]; dsimp only
    rw [nI_clamp (show i < 2 ^ 31 by omega)]
    have hv : vp_in (nI i) 24 := vp_in_nI (by omega) (by decide)
    refine br_f (nI_ge (b := 24) (by omega) (by decide)) ⟨hv, ?_⟩
    by_cases h1 : tk i = 0
    · rw [dt_fdy h1] at hp
      exact br_t h1 hp
    · rw [dt_fdn h1] at hp
      exact br_f h1 (nm_r (nI_1 i) (hn hp))
theorem xf_v {post : Int32 → Prop} (hp : post (dt_o (-1) (dt_fd (fun e => tk e = 0) 23 1))) : wpX_leastFreeNumber post (ec, tc, fc, tk, pa, na, cl, od, al, vc, va, tK, tA, tV, tF) := ⟨24, xf_l 23 1 rfl hp⟩
theorem yf_l {post : Int32 → Prop} : ∀ d i : Nat, i + d = 24 → post (dt_o (-1) (dt_fd (fun e => th e = 0) d i)) → wY_firstFree_2 post tn hh th pp nn kk aw co vb sk sa sw pt oy wt (d + 1) (nI i) := by
  intro d
  induction d with
  | zero => intro i hi hp; exact br_t (nI_le (a := 24) (by omega) (by omega)) hp
  | succ d ih =>
    intro i hi hp
    have hn := ih (i + 1) (by omega)
    rw [wY_firstFree_2]; dsimp only
    rw [nI_clamp (show i < 2 ^ 31 by omega)]
    have hv : vp_in (nI i) 24 := vp_in_nI (by omega) (by decide)
    refine br_f (nI_ge (b := 24) (by omega) (by decide)) ⟨hv, ?_⟩
    by_cases h1 : th i = 0
    · rw [dt_fdy h1] at hp
      exact br_t h1 hp
    · rw [dt_fdn h1] at hp
      exact br_f h1 (nm_r (nI_1 i) (hn hp))
theorem yf_v {post : Int32 → Prop} (h0 : th 0 ≠ 0) (hp : post (dt_o (-1) (dt_fd (fun e => th e = 0) 23 1))) : wpY_firstFree post (tn, hh, th, pp, nn, kk, aw, co, vb, sk, sa, sw, pt, oy, wt) := ⟨25, yf_l 24 0 rfl (by rw [dt_fdn h0]; exact hp)⟩
/-- the climb -/
theorem xs_l {t : Int32} {post : Int32 → Prop} (h0 : pa 0 = -1) (ht : ¬ t = -1) : ∀ (k s : Nat) (x : Int32), dt_Up pa k x → s + k ≤ 24 → post (dt_b (dt_Sub pa t x)) → wX_isInSubtree_5 post t ec tc fc tk pa na cl od al vc va tK tA tV tF (k + 1) x (nI s) := by
  intro k
  induction k with
  | zero =>
    intro s x hu hs hp
    have hu : x = -1 := hu
    subst hu
    rw [dt_b0 (dt_sub_m1 h0 ht)] at hp
    exact br_c (fun _ => hp) (fun _ => br_t rfl hp)
  | succ k ih =>
    intro s x hu hs hp
    obtain ⟨j, hj, rfl, hu⟩ := hu
    rw [wX_isInSubtree_5]; dsimp only
    rw [nI_clamp (show j < 2 ^ 31 by omega)]
    refine br_f (nI_ge (b := 24) (by omega) (by decide)) (br_f (dt_m1 (by omega)) ?_)
    by_cases e : nI j = t
    · rw [dt_b1 ⟨0, e⟩] at hp
      exact br_t e hp
    · have := dt_sub_s (pa := pa) (top := t) (j := j) (by omega)
      rw [dt_bc (d := dt_Sub pa t (pa j)) ⟨fun z => (this.mp z).resolve_left e, fun z => this.mpr (Or.inr z)⟩] at hp
      exact br_f e ⟨vp_in_nI hj (by decide), nm_e (nm_r (nI_1 s) (ih (s + 1) _ hu (by omega) hp))⟩
theorem xs_v {t j : Nat} {post : Int32 → Prop} (T : dt_T0 tk pa na) (ht : t < 24) (hj : j < 24) (hk : ∃ k, k ≤ 24 ∧ dt_Up pa k (nI j)) (hp : post (dt_b (dt_Sub pa (nI t) (nI j)))) {tk' na' : Nat → Int32} : wpX_isInSubtree post (ec, tc, fc, tk', pa, na', cl, od, al, vc, va, tK, tA, tV, tF) (nI j) (nI t) := by
  obtain ⟨k, hk, hu⟩ := hk
  exact ⟨k + 1, xs_l T.1.2 (dt_m1 (by omega)) k 0 _ hu (by omega) hp⟩
theorem ys_l {t : Int32} {post : Int32 → Prop} (h0 : pp 0 = -1) (ht : ¬ t = -1) : ∀ (k s : Nat) (x : Int32), dt_Up pp k x → s + k ≤ 24 → post (dt_b (dt_Sub pp t x)) → wY_isBelow_10 post t tn hh th pp nn kk aw co vb sk sa sw pt oy wt (k + 1) x (nI s) := by
  intro k
  induction k with
  | zero =>
    intro s x hu hs hp
    have hu : x = -1 := hu
    subst hu
    rw [dt_b0 (dt_sub_m1 h0 ht)] at hp
    exact br_c (fun _ => hp) (fun _ => br_t (by decide) hp)
  | succ k ih =>
    intro s x hu hs hp
    obtain ⟨j, hj, rfl, hu⟩ := hu
    rw [wY_isBelow_10]; dsimp only
    rw [nI_clamp (show j < 2 ^ 31 by omega)]
    refine br_f (nI_ge (b := 24) (by omega) (by decide)) (br_f (nI_pos (by omega)) ?_)
    by_cases e : nI j = t
    · rw [dt_b1 ⟨0, e⟩] at hp
      exact br_t e hp
    · have := dt_sub_s (pa := pp) (top := t) (j := j) (by omega)
      rw [dt_bc (d := dt_Sub pp t (pp j)) ⟨fun z => (this.mp z).resolve_left e, fun z => this.mpr (Or.inr z)⟩] at hp
      exact br_f e ⟨vp_in_nI hj (by decide), nm_e (nm_r (nI_1 s) (ih (s + 1) _ hu (by omega) hp))⟩
theorem ys_v {t j : Nat} {post : Int32 → Prop} (T : dt_T0 th pp nn) (ht : t < 24) (hj : j < 24) (hk : ∃ k, k ≤ 24 ∧ dt_Up pp k (nI j)) (hp : post (dt_b (dt_Sub pp (nI t) (pp j)))) {th' nn' : Nat → Int32} : wpY_isBelow post (tn, hh, th', pp, nn', kk, aw, co, vb, sk, sa, sw, pt, oy, wt) (nI j) (nI t) := by
  obtain ⟨k, hk, hu⟩ := hk
  cases k with
  | zero => exact absurd hu (dt_m1 (by omega))
  | succ k =>
    obtain ⟨i, hi, ei, hu⟩ := hu
    rw [nI_eq (by omega) (by omega)] at ei
    subst ei
    unfold wpY_isBelow; dsimp only
    rw [nI_clamp (show j < 2 ^ 31 by omega)]
    exact ⟨vp_in_nI hj (by decide), nm_e ⟨k + 1, ys_l T.1.2 (dt_m1 (by omega)) k 0 _ hu (by omega) hp⟩⟩
end
