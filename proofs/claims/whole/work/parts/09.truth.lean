/-! simple filters and the stack: one value on both sides -/
def dt_fit (j : Nat) (a v : Int32) : Prop := j = 0 ∨ ((j < 3 ∨ a < 4) ∧ dt_CB a v)
def dt_V (tk vc co va : Nat → Int32) : Prop := ∀ e, e < 24 → ∀ a, a < 6 → ∃ c : Nat, c ≤ 4 ∧ vc (e * 6 + a) = nI c ∧ (tk e ≠ 0 → co (e * 6 + a) = nI c) ∧ (tk e = 0 → c = 0) ∧ (a < 4 → ∀ k, k < c → dt_Wi (va ((e * 6 + a) * 4 + k)))
def dt_K (tc fc : Nat) (tK tA tV tF : Nat → Int32) : Prop := ∃ h : Nat → Nat, h 0 = 0 ∧ h tc = fc ∧ tc ≤ 20 ∧ fc ≤ 6 ∧ ∀ t, t < tc → h (t + 1) ≤ 6 ∧ ∃ j : Nat, j < 8 ∧ tK t = nI j ∧ (j < 5 → h (t + 1) = h t + 1 ∧ dt_L 6 (tA t) ∧ tF t = dt_b (dt_fit j (tA t) (tV t))) ∧ (j = 5 → 1 ≤ h t ∧ h (t + 1) = h t) ∧ (5 < j → 2 ≤ h t ∧ h (t + 1) + 1 = h t)
section
variable {ec tc fc : Int32} {tk pa na cl od al vc va tK tA tV tF : Nat → Int32} {co pt oy wt : Nat → Int32}
/-- the loops over an entry's values -/
theorem s_l2 {e a c j : Nat} {v : Int32} (he : e < 24) (ha : a < 6) (hx : vc (e * 6 + a) = nI c) (hy : co (e * 6 + a) = nI c) (hc4 : c ≤ 4) (hj : j < 5) (hw : 2 < j → dt_Wi v ∧ ∀ k, k < c → dt_Wi (va ((e * 6 + a) * 4 + k))) : ∀ d k : Nat, k + d = c → ∃ g : Prop, (∀ post : Int32 → Prop, post (dt_b g) → wX_compared_55 post (nI j) (nI a) v (nI (e * 6 + a)) ec tc fc tk pa na cl od al vc va tK tA tV tF (d + 1) (nI k)) ∧ (∀ (post : Int32 → Prop) (pt oy wt : Nat → Int32), post (dt_b g) → wY_simple_47 post (nI j) (nI a) v (nI (e * 6 + a)) tc fc tk pa na cl al co va tK tA tV pt oy wt (d + 1) (nI k)) := by
  intro d
  induction d with
  | zero =>
    intro k hk
    refine ⟨False, fun post hp => ?_, fun post pt oy wt hp => ?_⟩
    · rw [dt_b0 (fun z => z)] at hp
      rw [wX_compared_55]; dsimp only
      rw [nI_clamp (by omega), hx]
      exact ⟨vp_in_nI (by omega) (by decide), br_t (nI_le (by omega) (by omega)) hp⟩
    · rw [dt_b0 (fun z => z)] at hp
      rw [wY_simple_47]; dsimp only
      rw [nI_clamp (by omega), hy]
      exact ⟨vp_in_nI (by omega) (by decide), br_t (nI_le (by omega) (by omega)) hp⟩
  | succ d ih =>
    intro k hk
    obtain ⟨g, gx, gy⟩ := ih (k + 1) (by omega)
    obtain ⟨c1, cx, cy⟩ := m_v hj (a := nI a) (val := va ((e * 6 + a) * 4 + k)) (v := v) (fun h => ⟨(hw h).2 k (by omega), (hw h).1⟩)
    refine ⟨c1 ∨ g, fun post hp => ?_, fun post pt oy wt hp => ?_⟩
    · rw [wX_compared_55]; dsimp only
      rw [nI_clamp (show e * 6 + a < 2 ^ 31 by omega), hx, dt_4x, nI_clamp (by omega)]
      refine ⟨vp_in_nI (by omega) (by decide), br_f (nI_ge (by omega) (by omega)) ⟨vp_in_nI (by omega) (by decide), cx _ ?_⟩⟩
      by_cases h : c1
      · rw [dt_b1 (Or.inl h)] at hp
        exact dt_tru h hp
      · rw [dt_bc (d := g) ⟨fun z => z.resolve_left h, Or.inr⟩] at hp
        exact dt_fls h (nm_r (nI_1 k) (gx post hp))
    · rw [wY_simple_47]; dsimp only
      rw [nI_clamp (show e * 6 + a < 2 ^ 31 by omega), hy, dt_4y, nI_clamp (by omega)]
      refine ⟨vp_in_nI (by omega) (by decide), br_f (nI_ge (by omega) (by omega)) ⟨vp_in_nI (by omega) (by decide), cy _ _ _ _ _ _ _ _ _ _ _ _ _ _ _ _ ?_⟩⟩
      by_cases h : c1
      · rw [dt_b1 (Or.inl h)] at hp
        exact dt_tru h hp
      · rw [dt_bc (d := g) ⟨fun z => z.resolve_left h, Or.inr⟩] at hp
        exact dt_fls h (nm_r (nI_1 k) (gy post pt oy wt hp))
theorem dt_CB4 {a : Nat} {v : Int32} (ha : a < 4) (h : dt_CB (nI a) v) : dt_Wi v := by
  rcases h with h | h
  · exact absurd h.1 (nI_ge (b := 4) ha (by decide))
  · exact h.2
theorem s_v {e t j : Nat} (he : e < 24) (ht : tk e ≠ 0) (hc : ∀ e, e < 24 → dt_L 4 (cl e)) (V : dt_V tk vc co va) (ht20 : t < 20) (hj : j < 5) (hk : tK t = nI j) (ha : dt_L 6 (tA t)) (hf : tF t = dt_b (dt_fit j (tA t) (tV t))) : ∃ r : Nat, r < 3 ∧ (∀ post : Int32 → Prop, post (nI r) → wpX_compared post (ec, tc, fc, tk, pa, na, cl, od, al, vc, va, tK, tA, tV, tF) (nI e) (nI t)) ∧ (∀ (post : Int32 → Prop) (pt oy wt : Nat → Int32), post (nI r) → wpY_simple post (tc, fc, tk, pa, na, cl, al, co, va, tK, tA, tV, pt, oy, wt) (tK t) (tA t) (tV t) (nI e)) := by
  obtain ⟨a, ha6, ea⟩ := ha
  obtain ⟨c, hc4, hx, hy, _, hww⟩ := V e he a ha6
  have hy := hy ht
  rw [ea] at hf
  have hvt : vp_in (nI t) 20 := vp_in_nI ht20 (by decide)
  by_cases hF : dt_fit j (nI a) (tV t)
  · by_cases hA : dt_al al cl e (nI a)
    · have hw : 2 < j → a < 4 := fun h => by
        rcases hF with q | ⟨q, _⟩
        · omega
        · rcases q with q | q
          · omega
          · exact (nI_ltI (b := 4) (by omega) (by decide)).mp q
      obtain ⟨g, gx, gy⟩ := s_l2 (ec := ec) (tc := tc) (fc := fc) (tk := tk) (pa := pa) (na := na) (cl := cl) (od := od) (al := al) (vc := vc) (va := va) (tK := tK) (tA := tA) (tV := tV) (tF := tF) (co := co) (v := tV t) he ha6 hx hy hc4 hj (fun h => ⟨by
        rcases hF with q | ⟨_, q⟩
        · omega
        · exact dt_CB4 (hw h) q, hww (hw h)⟩) c 0 (by omega)
      have hr : ∃ r : Nat, r < 3 ∧ dt_b g = nI r := by
        rcases dt_b01 g with q | q
        · exact ⟨0, by omega, q⟩
        · exact ⟨1, by omega, q⟩
      obtain ⟨r, hr3, er⟩ := hr
      refine ⟨r, hr3, fun post hp => ?_, fun post pt oy wt hp => ?_⟩
      · rw [← er] at hp
        unfold wpX_compared; dsimp only
        rw [nI_clamp (by omega), hf, hk, ea]
        refine ⟨hvt, nm_e ⟨hvt, nm_e ⟨hvt, nm_e ⟨hvt, dt_tru hF (xl_v he (hc e he) (dt_tru hA ?_))⟩⟩⟩⟩
        unfold wpX_setOf
        rw [dt_6x]
        exact ⟨_, gx post hp⟩
      · rw [← er] at hp
        unfold wpY_simple; dsimp only
        rw [hk, ea]
        have h35 : wY_simple_35 post (nI j) (nI a) (tV t) (nI e) tc fc tk pa na cl al co va tK tA tV pt oy wt := nm_r (dt_6y e a) ⟨_, gy post pt oy wt hp⟩
        have h23 : wY_simple_23 post (nI j) (nI a) (tV t) (nI e) tc fc tk pa na cl al co va tK tA tV pt oy wt := by
          unfold wY_simple_23
          by_cases h2 : 2 < j
          · have := hw h2
            exact br_f (nI_ge (a := 2) h2 (by omega)) (br_t (nI_le (b := 3) (by omega) (by decide)) h35)
          · exact br_t (nI_le (b := 2) (by omega) (by decide)) h35
        refine yl_v he (hc e he) (dt_tru hA ?_)
        by_cases h0 : j = 0
        · exact br_t (by rw [h0]; decide) h23
        · refine br_f (nI_nle (by omega) (by omega)) (yb_v ?_)
          rcases hF with q | ⟨_, q⟩
          · omega
          · exact dt_tru q h23
    · refine ⟨2, by omega, fun post hp => ?_, fun post pt oy wt hp => ?_⟩
      · unfold wpX_compared; dsimp only
        rw [nI_clamp (by omega), hf, hk, ea]
        exact ⟨hvt, nm_e ⟨hvt, nm_e ⟨hvt, nm_e ⟨hvt, dt_tru hF (xl_v he (hc e he) (dt_fls hA hp))⟩⟩⟩⟩
      · unfold wpY_simple; dsimp only
        rw [hk, ea]
        exact yl_v he (hc e he) (dt_fls hA hp)
  · refine ⟨2, by omega, fun post hp => ?_, fun post pt oy wt hp => ?_⟩
    · unfold wpX_compared; dsimp only
      rw [nI_clamp (by omega), hf, hk, ea]
      exact ⟨hvt, nm_e ⟨hvt, nm_e ⟨hvt, nm_e ⟨hvt, dt_fls hF hp⟩⟩⟩⟩
    · unfold wpY_simple; dsimp only
      rw [hk, ea]
      refine yl_v he (hc e he) ?_
      by_cases hA : dt_al al cl e (nI a)
      · have h0 : j ≠ 0 := fun z => hF (Or.inl z)
        refine dt_tru hA (br_f (nI_nle (by omega) (by omega)) (yb_v ?_))
        by_cases hB : dt_CB (nI a) (tV t)
        · refine dt_tru hB ?_
          unfold wY_simple_23
          have h2 : 2 < j := Classical.byContradiction fun z => hF (Or.inr ⟨Or.inl (by omega), hB⟩)
          have h4 : 3 < a := Classical.byContradiction fun z => hF (Or.inr ⟨Or.inr (nI_lt (b := 4) (by omega) (by decide)), hB⟩)
          exact br_f (nI_ge (a := 2) h2 (by omega)) (br_f (nI_ge (a := 3) h4 (by omega)) hp)
        · exact dt_fls hB hp
      · exact dt_fls hA hp
end
/-! three truth values -/
def dt_neg (f : Nat) : Nat := if f = 2 then 2 else 1 - f
def dt_and (f g : Nat) : Nat := if f = 0 ∨ g = 0 then 0 else if f = 1 ∧ g = 1 then 1 else 2
def dt_orr (f g : Nat) : Nat := if f = 1 ∨ g = 1 then 1 else if f = 0 ∧ g = 0 then 0 else 2
theorem dt_c3 {P : Nat → Prop} (h0 : P 0) (h1 : P 1) (h2 : P 2) {f : Nat} (hf : f < 3) : P f := by
  rcases (show f = 0 ∨ f = 1 ∨ f = 2 by omega) with rfl | rfl | rfl <;> assumption
theorem dt_neg3 {f : Nat} (hf : f < 3) : dt_neg f < 3 := dt_c3 (P := fun f => dt_neg f < 3) (by decide) (by decide) (by decide) hf
theorem dt_and3 {f g : Nat} : dt_and f g < 3 := by
  unfold dt_and
  by_cases h1 : f = 0 ∨ g = 0
  · rw [if_pos h1]; omega
  · rw [if_neg h1]
    by_cases h2 : f = 1 ∧ g = 1
    · rw [if_pos h2]; omega
    · rw [if_neg h2]; omega
theorem dt_orr3 {f g : Nat} : dt_orr f g < 3 := by
  unfold dt_orr
  by_cases h1 : f = 1 ∨ g = 1
  · rw [if_pos h1]; omega
  · rw [if_neg h1]
    by_cases h2 : f = 0 ∧ g = 0
    · rw [if_pos h2]; omega
    · rw [if_neg h2]; omega
theorem dt_dm {f g : Nat} (hf : f < 3) (hg : g < 3) : dt_neg (dt_and (dt_neg f) (dt_neg g)) = dt_orr f g := by
  rcases (show f = 0 ∨ f = 1 ∨ f = 2 by omega) with rfl | rfl | rfl <;> rcases (show g = 0 ∨ g = 1 ∨ g = 2 by omega) with rfl | rfl | rfl <;> rfl
section
variable {ec tc fc : Int32} {tk pa na cl od al vc va tK tA tV tF : Nat → Int32}
variable {tn hh : Int32} {th pp nn kk aw co vb sk sa sw pt oy wt : Nat → Int32}
theorem xt_neg {post : Int32 → Prop} {f : Nat} (hf : f < 3) (hp : post (nI (dt_neg f))) : wpX_negated post (nI f) := by
  rcases (show f = 0 ∨ f = 1 ∨ f = 2 by omega) with rfl | rfl | rfl
  · exact br_f (by decide) (br_f (by decide) hp)
  · exact br_f (by decide) (br_t rfl hp)
  · exact br_t rfl hp
theorem yt_neg {post : Int32 → Prop} {f : Nat} (hf : f < 3) (hp : post (nI (dt_neg f))) : wpY_turned post (tn, hh, th, pp, nn, kk, aw, co, vb, sk, sa, sw, pt, oy, wt) (nI f) := by
  rcases (show f = 0 ∨ f = 1 ∨ f = 2 by omega) with rfl | rfl | rfl
  · exact br_f (by decide) hp
  · exact br_f (by decide) hp
  · exact br_t rfl hp
theorem xt_and {post : Int32 → Prop} {f g : Nat} (hf : f < 3) (hg : g < 3) (hp : post (nI (dt_and f g))) : wpX_both post (nI f) (nI g) := by
  rcases (show f = 0 ∨ f = 1 ∨ f = 2 by omega) with rfl | rfl | rfl <;> rcases (show g = 0 ∨ g = 1 ∨ g = 2 by omega) with rfl | rfl | rfl <;>
  first
  | exact br_t rfl hp
  | exact br_f (by decide) (br_t rfl hp)
  | exact br_f (by decide) (br_f (by decide) (br_t rfl (br_t rfl hp)))
  | exact br_f (by decide) (br_f (by decide) (br_t rfl (br_f (by decide) hp)))
  | exact br_f (by decide) (br_f (by decide) (br_f (by decide) hp))
theorem yt_and {post : Int32 → Prop} {f g : Nat} (hf : f < 3) (hg : g < 3) (hp : post (nI (dt_and f g))) : wpY_both post (tn, hh, th, pp, nn, kk, aw, co, vb, sk, sa, sw, pt, oy, wt) (nI f) (nI g) := by
  rcases (show f = 0 ∨ f = 1 ∨ f = 2 by omega) with rfl | rfl | rfl <;> rcases (show g = 0 ∨ g = 1 ∨ g = 2 by omega) with rfl | rfl | rfl <;>
  first
  | exact br_t rfl hp
  | exact br_f (by decide) (br_t rfl hp)
  | exact br_f (by decide) (br_f (by decide) (br_t rfl (br_t rfl hp)))
  | exact br_f (by decide) (br_f (by decide) (br_t rfl (br_f (by decide) hp)))
  | exact br_f (by decide) (br_f (by decide) (br_f (by decide) hp))
theorem xt_or {post : Int32 → Prop} {f g : Nat} (hf : f < 3) (hg : g < 3) (hp : post (nI (dt_orr f g))) : wpX_either post (nI f) (nI g) := by
  rcases (show f = 0 ∨ f = 1 ∨ f = 2 by omega) with rfl | rfl | rfl <;> rcases (show g = 0 ∨ g = 1 ∨ g = 2 by omega) with rfl | rfl | rfl <;>
  first
  | exact br_t rfl hp
  | exact br_f (by decide) (br_t rfl hp)
  | exact br_f (by decide) (br_f (by decide) (br_t rfl (br_t rfl hp)))
  | exact br_f (by decide) (br_f (by decide) (br_t rfl (br_f (by decide) hp)))
  | exact br_f (by decide) (br_f (by decide) (br_f (by decide) hp))
end
/-! the packed stack -/
def dt_enc : List Nat → Nat
  | [] => 0
  | x :: L => dt_enc L * 4 + x
theorem dt_enc_lt : ∀ L : List Nat, (∀ x, x ∈ L → x < 3) → dt_enc L < 4 ^ L.length := by
  intro L
  induction L with
  | nil => intro _; decide
  | cons x L ih =>
    intro h
    have h1 := ih (fun y hy => h y (List.mem_cons_of_mem _ hy))
    have h2 := h x (List.mem_cons_self ..)
    rw [dt_enc, List.length_cons, Nat.pow_succ]
    omega
theorem dt_enc6 {L : List Nat} (h : ∀ x, x ∈ L → x < 3) (hl : L.length ≤ 6) : dt_enc L < 4096 :=
  Nat.lt_of_lt_of_le (dt_enc_lt L h) (Nat.pow_le_pow_right (by decide) hl)
theorem dt_or {b a : Nat} (ha : a < 4) (h : b * 4 + a < 2 ^ 31) : nI (b * 4) ||| nI a = nI (b * 4 + a) := by
  apply Int32.toBitVec_inj.mp
  apply BitVec.eq_of_toNat_eq
  have h1 : b * 2 ^ 2 ||| a = b * 2 ^ 2 + a := by rw [← Nat.shiftLeft_eq, Nat.shiftLeft_add_eq_or_of_lt (show a < 2 ^ 2 from ha)]
  rw [Int32.toBitVec_or, BitVec.toNat_or, pk_tn (by omega), pk_tn (by omega), pk_tn (by omega)]
  exact h1
theorem dt_shl {b : Nat} (h : b < 2 ^ 29) : nI b <<< ((2 : Int32) &&& 31) = nI (b * 4) := pk_shlN (n := b) _ 2 (by decide) (by omega)
theorem dt_shr {b : Nat} (h : b < 2 ^ 31) : nI b >>> ((2 : Int32) &&& 31) = nI (b / 4) := pk_shrN (n := b) h _ 2 (by decide)
theorem dt_and3' {b : Nat} (h : b < 2 ^ 31) : nI b &&& 3 = nI (b % 4) := pk_andN (n := b) (by omega) 2 (by decide)
section
variable {ec tc fc : Int32} {tk pa na cl od al vc va tK tA tV tF : Nat → Int32} {co pt oy wt : Nat → Int32}
theorem t_l {e fcn tcn : Nat} {h : Nat → Nat} (he : e < 24) (ht : tk e ≠ 0) (hc : ∀ e, e < 24 → dt_L 4 (cl e)) (V : dt_V tk vc co va) (hf : h tcn = fcn) (hf1 : 1 ≤ fcn) (h20 : tcn ≤ 20) (hh : ∀ t, t < tcn → h (t + 1) ≤ 6 ∧ ∃ j : Nat, j < 8 ∧ tK t = nI j ∧ (j < 5 → h (t + 1) = h t + 1 ∧ dt_L 6 (tA t) ∧ tF t = dt_b (dt_fit j (tA t) (tV t))) ∧ (j = 5 → 1 ≤ h t ∧ h (t + 1) = h t) ∧ (5 < j → 2 ≤ h t ∧ h (t + 1) + 1 = h t)) : ∀ (d t : Nat) (L : List Nat), t + d = tcn → L.length = h t → L.length ≤ 6 → (∀ x, x ∈ L → x < 3) → ∃ r : Nat, r < 3 ∧ (∀ post : Int32 → Prop, post (nI r) → wX_topFor_4 post (nI e) ec (nI tcn) fc tk pa na cl od al vc va tK tA tV tF (d + 1) (nI (dt_enc L)) (nI t)) ∧ (∀ (post : Int32 → SY → Prop) (pt oy wt : Nat → Int32), dt_stk pt L → (∀ pt' : Nat → Int32, post (nI r) (nI tcn, fc, tk, pa, na, cl, al, co, va, tK, tA, tV, pt', oy, wt)) → wY_truth_4 post (nI e) (nI tcn) fc (d + 1) (nI L.length) (nI t) tk pa na cl al co va tK tA tV pt oy wt) := by
  intro d
  induction d with
  | zero =>
    intro t L htd hL hL6 h3
    have e1 : t = tcn := by omega
    subst e1
    cases L with
    | nil => simp only [List.length_nil] at hL; omega
    | cons x L =>
      have hx := h3 x (List.mem_cons_self ..)
      have hb := dt_enc6 h3 hL6
      refine ⟨x, hx, fun post hp => ?_, fun post pt oy wt hs hp => ?_⟩
      · rw [wX_topFor_4]; dsimp only
        rw [dt_and3' (by omega), show dt_enc (x :: L) % 4 = x by rw [dt_enc]; omega]
        exact br_t (nI_le (by omega) (by omega)) hp
      · rw [wY_truth_4]; dsimp only
        rw [List.length_cons] at hL6 ⊢
        rw [nI_pred, nI_clamp (by omega), hs.1]
        exact br_t (nI_le (by omega) (by omega)) ⟨vp_in_nI (by omega) (by decide), hp pt⟩
  | succ d ih =>
    intro t L htd hL hL6 h3
    obtain ⟨hh6, j, hj8, hK, hj5, hj6, hj7⟩ := hh t (by omega)
    have hb := dt_enc6 h3 hL6
    have hv : vp_in (nI t) 20 := vp_in_nI (by omega) (by decide)
    have hnx : ¬ nI tcn ≤ nI t := nI_ge (by omega) (by omega)
    by_cases c5 : j < 5
    · obtain ⟨q1, q2, q3⟩ := hj5 c5
      obtain ⟨r0, hr0, rx, ry⟩ := s_v (ec := ec) (tc := nI tcn) (fc := fc) (pa := pa) (na := na) (od := od) (al := al) (e := e) (t := t) he ht hc V (by omega) c5 hK q2 q3
      have h3' : ∀ x, x ∈ r0 :: L → x < 3 := fun x hx => by
        rcases List.mem_cons.mp hx with z | z
        · rw [z]; exact hr0
        · exact h3 x z
      obtain ⟨r, hr, ix, iy⟩ := ih (t + 1) (r0 :: L) (by omega) (by rw [List.length_cons]; omega) (by rw [List.length_cons]; omega) h3'
      refine ⟨r, hr, fun post hp => ?_, fun post pt oy wt hs hp => ?_⟩
      · rw [wX_topFor_4]; dsimp only
        rw [nI_clamp (by omega), hK, dt_shl (by omega)]
        refine br_f hnx ⟨hv, nm_e (nm_e (nm_e (br_f (nI_nlt (a := 4) (by omega) (by decide)) ?_)))⟩
        exact rx _ (nm_r (dt_or (by omega) (by omega)) (nm_r (nI_1 t) (ix post hp)))
      · rw [wY_truth_4]; dsimp only
        rw [nI_clamp (show t < 2 ^ 31 by omega)]
        refine br_f hnx ⟨hv, br_f (by rw [hK]; exact nI_ge (b := 5) c5 (by decide)) ⟨hv, hv, hv, ry _ _ _ _ ⟨vp_in_nI (by omega) (by decide), ?_⟩⟩⟩
        rw [nI_clamp (by omega)]
        exact nm_e (nm_r (nI_1 _) (nm_r (nI_1 t) (iy post _ oy wt ⟨pk_us, dt_stk_upd L (Nat.le_refl _) hs⟩ hp)))
    · by_cases c6 : j = 5
      · obtain ⟨q1, q2⟩ := hj6 c6
        cases L with
        | nil => simp only [List.length_nil] at hL; omega
        | cons x L =>
          have hx := h3 x (List.mem_cons_self ..)
          have hbL : dt_enc (x :: L) = dt_enc L * 4 + x := rfl
          have h3' : ∀ y, y ∈ dt_neg x :: L → y < 3 := fun y hy => by
            rcases List.mem_cons.mp hy with z | z
            · rw [z]; exact dt_neg3 hx
            · exact h3 y (List.mem_cons_of_mem _ z)
          have hn3 := dt_neg3 hx
          rw [List.length_cons] at hL hL6
          obtain ⟨r, hr, ix, iy⟩ := ih (t + 1) (dt_neg x :: L) (by omega) (by rw [List.length_cons]; omega) (by rw [List.length_cons]; omega) h3'
          refine ⟨r, hr, fun post hp => ?_, fun post pt oy wt hs hp => ?_⟩
          · rw [wX_topFor_4]; dsimp only
            rw [nI_clamp (by omega), hK, dt_shr (by omega), dt_and3' (by omega), show dt_enc (x :: L) / 4 = dt_enc L by omega, show dt_enc (x :: L) % 4 = x by omega]
            refine br_f hnx ⟨hv, nm_e (nm_e (nm_e (br_t (nI_lt (a := 4) (by omega) (by omega)) (br_t (by rw [c6]; rfl) (xt_neg hx ?_)))))⟩
            rw [dt_shl (by omega)]
            exact nm_r (dt_or (by omega) (by omega)) (nm_r (nI_1 t) (ix post hp))
          · rw [wY_truth_4]; dsimp only
            rw [List.length_cons, nI_clamp (show t < 2 ^ 31 by omega), nI_pred, nI_clamp (show L.length < 2 ^ 31 by omega), hs.1]
            have hv2 : vp_in (nI L.length) 20 := vp_in_nI (by omega) (by decide)
            refine br_f hnx ⟨hv, br_t (by rw [hK]; exact nI_le (a := 5) (by omega) (by omega)) ⟨hv, br_t (by rw [hK, c6]; rfl) ⟨hv2, yt_neg hx ⟨hv2, nm_e (nm_r (nI_1 t) ?_)⟩⟩⟩⟩
            have := iy post (upd pt L.length (nI (dt_neg x))) oy wt ⟨pk_us, dt_stk_upd L (Nat.le_refl _) hs.2⟩ hp
            exact this
      · obtain ⟨q1, q2⟩ := hj7 (by omega)
        match L, hL, hL6, h3, hb with
        | [], hL, _, _, _ => simp only [List.length_nil] at hL; omega
        | [_], hL, _, _, _ => simp only [List.length_cons, List.length_nil] at hL; omega
        | g :: f :: L, hL, hL6, h3, hb =>
          have hg := h3 g (List.mem_cons_self ..)
          have hf3 := h3 f (List.mem_cons_of_mem _ (List.mem_cons_self ..))
          have hbL : dt_enc (g :: f :: L) = (dt_enc L * 4 + f) * 4 + g := rfl
          rw [List.length_cons, List.length_cons] at hL hL6
          have ihL := fun (r0 : Nat) (hr0 : r0 < 3) => ih (t + 1) (r0 :: L) (by omega) (by rw [List.length_cons]; omega) (by rw [List.length_cons]; omega) (fun y hy => by
            rcases List.mem_cons.mp hy with z | z
            · rw [z]; exact hr0
            · exact h3 y (List.mem_cons_of_mem _ (List.mem_cons_of_mem _ z)))
          have ea : nI (L.length + 1 + 1) - 2 = nI L.length := pk_sub (a := L.length + 1 + 1) (b := 2) (by omega)
          have eb : nI (L.length + 1 + 1) + (-1) = nI (L.length + 1) := pk_m1 _
          have ec2 : nI (L.length + 1 + 1) - 1 = nI (L.length + 1) := nI_pred _
          have hv1 : vp_in (nI (L.length + 1)) 20 := vp_in_nI (by omega) (by decide)
          have hv2 : vp_in (nI L.length) 20 := vp_in_nI (by omega) (by decide)
          by_cases c7 : j = 6
          · have hr0 := dt_and3 (f := f) (g := g)
            obtain ⟨r, hr, ix, iy⟩ := ihL (dt_and f g) hr0
            refine ⟨r, hr, fun post hp => ?_, fun post pt oy wt hs hp => ?_⟩
            · rw [wX_topFor_4]; dsimp only
              rw [nI_clamp (by omega), hK, dt_shr (by omega), dt_and3' (by omega), show dt_enc (g :: f :: L) / 4 = dt_enc L * 4 + f by omega, show dt_enc (g :: f :: L) % 4 = g by omega]
              refine br_f hnx ⟨hv, nm_e (nm_e (nm_e (br_t (nI_lt (a := 4) (by omega) (by omega)) (br_f (fun z => c6 ((nI_eq (b := 5) (by omega) (by decide)).mp z)) ?_))))⟩
              rw [dt_and3' (by omega), show (dt_enc L * 4 + f) % 4 = f by omega]
              refine nm_e (br_t (by rw [c7]; rfl) (xt_and hf3 hg ?_))
              unfold wX_topFor_100
              rw [dt_shr (by omega), show (dt_enc L * 4 + f) / 4 = dt_enc L by omega, dt_shl (by omega)]
              exact nm_r (dt_or (by omega) (by omega)) (nm_r (nI_1 t) (ix post hp))
            · rw [wY_truth_4]; dsimp only
              rw [List.length_cons, List.length_cons, nI_clamp (show t < 2 ^ 31 by omega), ea, ec2, nI_clamp (show L.length < 2 ^ 31 by omega), nI_clamp (show L.length + 1 < 2 ^ 31 by omega), hs.2.1, show pt (L.length + 1) = nI g from hs.1]
              refine br_f hnx ⟨hv, br_t (by rw [hK]; exact nI_le (a := 5) (by omega) (by omega)) ⟨hv, br_f (fun z => c6 ((nI_eq (b := 5) (by omega) (by decide)).mp (hK ▸ z))) ⟨hv2, nm_e ⟨hv1, nm_e ⟨hv, br_f (fun z => by have := (nI_eq (b := 7) (by omega) (by decide)).mp (hK ▸ z); omega) ?_⟩⟩⟩⟩⟩
              unfold wY_truth_130
              refine br_t rfl ?_
              unfold wY_truth_149
              refine br_t rfl ?_
              unfold wY_truth_165
              refine yt_and hf3 hg (br_t rfl ?_)
              rw [ea, eb, nI_clamp (show L.length < 2 ^ 31 by omega)]
              exact ⟨hv2, nm_e (nm_e (nm_r (nI_1 t) (iy post (upd pt L.length (nI (dt_and f g))) oy wt ⟨pk_us, dt_stk_upd L (Nat.le_refl _) hs.2.2⟩ hp)))⟩
          · have hr0 := dt_orr3 (f := f) (g := g)
            obtain ⟨r, hr, ix, iy⟩ := ihL (dt_orr f g) hr0
            refine ⟨r, hr, fun post hp => ?_, fun post pt oy wt hs hp => ?_⟩
            · rw [wX_topFor_4]; dsimp only
              rw [nI_clamp (by omega), hK, dt_shr (by omega), dt_and3' (by omega), show dt_enc (g :: f :: L) / 4 = dt_enc L * 4 + f by omega, show dt_enc (g :: f :: L) % 4 = g by omega]
              refine br_f hnx ⟨hv, nm_e (nm_e (nm_e (br_t (nI_lt (a := 4) (by omega) (by omega)) (br_f (fun z => c6 ((nI_eq (b := 5) (by omega) (by decide)).mp z)) ?_))))⟩
              rw [dt_and3' (by omega), show (dt_enc L * 4 + f) % 4 = f by omega]
              refine nm_e (br_f (fun z => c7 ((nI_eq (b := 6) (by omega) (by decide)).mp z)) (xt_or hf3 hg ?_))
              unfold wX_topFor_100
              rw [dt_shr (by omega), show (dt_enc L * 4 + f) / 4 = dt_enc L by omega, dt_shl (by omega)]
              exact nm_r (dt_or (by omega) (by omega)) (nm_r (nI_1 t) (ix post hp))
            · rw [wY_truth_4]; dsimp only
              rw [List.length_cons, List.length_cons, nI_clamp (show t < 2 ^ 31 by omega), ea, ec2, nI_clamp (show L.length < 2 ^ 31 by omega), nI_clamp (show L.length + 1 < 2 ^ 31 by omega), hs.2.1, show pt (L.length + 1) = nI g from hs.1]
              refine br_f hnx ⟨hv, br_t (by rw [hK]; exact nI_le (a := 5) (by omega) (by omega)) ⟨hv, br_f (fun z => c6 ((nI_eq (b := 5) (by omega) (by decide)).mp (hK ▸ z))) ⟨hv2, nm_e ⟨hv1, nm_e ⟨hv, br_t (by rw [hK, show j = 7 by omega]; rfl) ?_⟩⟩⟩⟩⟩
              unfold wY_truth_130
              refine br_f dt_10 (yt_neg hf3 ?_)
              unfold wY_truth_149
              refine br_f dt_10 (yt_neg hg ?_)
              unfold wY_truth_165
              refine yt_and (dt_neg3 hf3) (dt_neg3 hg) (br_f dt_10 (yt_neg dt_and3 ?_))
              rw [ea, eb, nI_clamp (show L.length < 2 ^ 31 by omega), dt_dm hf3 hg]
              exact ⟨hv2, nm_e (nm_e (nm_r (nI_1 t) (iy post (upd pt L.length (nI (dt_orr f g))) oy wt ⟨pk_us, dt_stk_upd L (Nat.le_refl _) hs.2.2⟩ hp)))⟩
/-- the top of the stack for an entry, on both sides -/
theorem t_v {e fcn tcn : Nat} (he : e < 24) (ht : tk e ≠ 0) (hc : ∀ e, e < 24 → dt_L 4 (cl e)) (V : dt_V tk vc co va) (hK : dt_K tcn fcn tK tA tV tF) (hf1 : 1 ≤ fcn) : ∃ r : Nat, r < 3 ∧ (∀ post : Int32 → Prop, post (nI r) → wpX_topFor post (ec, nI tcn, fc, tk, pa, na, cl, od, al, vc, va, tK, tA, tV, tF) (nI e)) ∧ (∀ (post : Int32 → SY → Prop) (pt oy wt : Nat → Int32), (∀ pt' : Nat → Int32, post (nI r) (nI tcn, fc, tk, pa, na, cl, al, co, va, tK, tA, tV, pt', oy, wt)) → wpY_truth post (nI tcn, fc, tk, pa, na, cl, al, co, va, tK, tA, tV, pt, oy, wt) (nI e)) := by
  obtain ⟨h, h0, hf, h20, h6, hh⟩ := hK
  obtain ⟨r, hr, rx, ry⟩ := t_l (ec := ec) (fc := fc) (pa := pa) (na := na) (od := od) (al := al) he ht hc V hf hf1 h20 hh tcn 0 [] (by omega) (by rw [h0]; rfl) (by simp) (fun x hx => nomatch hx)
  exact ⟨r, hr, fun post hp => ⟨_, rx post hp⟩, fun post pt oy wt hp => ⟨_, ry post pt oy wt trivial hp⟩⟩
end
