/-! remove -/
noncomputable def dt_rm (tk : Nat → Int32) (G : Nat → Prop) (i : Nat) : Nat → Int32 := fun x => @ite Int32 (x < i ∧ G x) (Classical.propDecidable _) 0 (tk x)
theorem dt_rm_t {tk : Nat → Int32} {G : Nat → Prop} {i x : Nat} (h : x < i ∧ G x) : dt_rm tk G i x = 0 := by unfold dt_rm; exact if_pos h
theorem dt_rm_f {tk : Nat → Int32} {G : Nat → Prop} {i x : Nat} (h : ¬ (x < i ∧ G x)) : dt_rm tk G i x = tk x := by unfold dt_rm; exact if_neg h
theorem dt_rm_0 (tk : Nat → Int32) (G : Nat → Prop) : dt_rm tk G 0 = tk := by
  funext x
  exact dt_rm_f (fun z => by omega)
theorem dt_rm_y {tk : Nat → Int32} {G : Nat → Prop} {i : Nat} (h : G i) : upd (dt_rm tk G i) i 0 = dt_rm tk G (i + 1) := by
  funext x
  by_cases z : x = i
  · rw [z, pk_us, dt_rm_t ⟨by omega, h⟩]
  · rw [pk_un z]
    by_cases w : x < i ∧ G x
    · rw [dt_rm_t w, dt_rm_t ⟨by omega, w.2⟩]
    · rw [dt_rm_f w, dt_rm_f (fun q => w ⟨by omega, q.2⟩)]
theorem dt_rm_n {tk : Nat → Int32} {G : Nat → Prop} {i : Nat} (h : ¬ G i) : dt_rm tk G (i + 1) = dt_rm tk G i := by
  funext x
  by_cases w : x < i ∧ G x
  · rw [dt_rm_t w, dt_rm_t ⟨by omega, w.2⟩]
  · rw [dt_rm_f w, dt_rm_f (fun q => by
      by_cases z : x = i
      · exact h (z ▸ q.2)
      · exact w ⟨by omega, q.2⟩)]
def dt_G (tk pa : Nat → Int32) (t : Nat) (x : Nat) : Prop := tk x ≠ 0 ∧ dt_Sub pa (nI t) (nI x)
theorem dt_T0_rm {tk pa na : Nat → Int32} (T : dt_T0 tk pa na) {t : Nat} (h0 : t ≠ 0) (ht : t < 24) : dt_T0 (dt_rm tk (dt_G tk pa t) 24) pa na := by
  obtain ⟨⟨t0, p0⟩, t1, t2, t3⟩ := T
  have old : ∀ x, x < 24 → dt_rm tk (dt_G tk pa t) 24 x ≠ 0 → tk x ≠ 0 ∧ ¬ dt_Sub pa (nI t) (nI x) := by
    intro x hx h
    by_cases w : dt_G tk pa t x
    · exact absurd (dt_rm_t ⟨hx, w⟩) h
    · rw [dt_rm_f (fun q => w q.2)] at h
      exact ⟨h, fun q => w ⟨h, q⟩⟩
  refine ⟨⟨?_, p0⟩, ?_, ?_, ?_⟩
  · rw [dt_rm_f (fun q => ?_)]
    · exact t0
    · have := (dt_sub_s (pa := pa) (top := nI t) (j := 0) (by omega)).mp q.2.2
      rcases this with z | z
      · rw [nI_eq (by omega) (by omega)] at z
        omega
      · rw [p0] at z
        exact dt_sub_m1 p0 (dt_m1 (by omega)) z
  · intro x hx0 hx h
    obtain ⟨o1, o2⟩ := old x hx h
    obtain ⟨⟨p, hp, hpt, hpe⟩, m⟩ := t1 x hx0 hx o1
    refine ⟨⟨p, hp, ?_, hpe⟩, m⟩
    rw [dt_rm_f (fun q => o2 ((dt_sub_s (by omega)).mpr (Or.inr (by rw [hpe]; exact q.2.2))))]
    exact hpt
  · intro x y hx0 hx hy0 hy htx hty hpa hna
    exact t2 x y hx0 hx hy0 hy (old x hx htx).1 (old y hy hty).1 hpa hna
  · intro x hx h
    exact t3 x hx (old x hx h).1
theorem dt_ec_rm {tk : Nat → Int32} {G : Nat → Prop} (hG : ∀ x, x < 24 → G x → tk x ≠ 0) : dt_ec tk = dt_ec (dt_rm tk G 24) + dt_cn G 24 := by
  unfold dt_ec
  refine dt_cn_sp 24 (fun i hi => ?_)
  by_cases g : G i
  · have e : dt_rm tk G 24 i = 0 := dt_rm_t ⟨hi, g⟩
    refine ⟨⟨fun _ => Or.inr g, fun _ => hG i hi g⟩, fun z => z.1 e⟩
  · have e : dt_rm tk G 24 i = tk i := dt_rm_f (fun q => g q.2)
    refine ⟨⟨fun z => Or.inl (fun w => z (e ▸ w)), fun z => ?_⟩, fun z => g z.2⟩
    rcases z with z | z
    · exact fun w => z (e.trans w)
    · exact absurd z g
def dt_vr (vc vc' : Nat → Int32) (G : Nat → Prop) (i : Nat) : Prop := ∀ x, x < 24 → ∀ a, a < 6 → ((x < i ∧ G x) → vc' (x * 6 + a) = 0) ∧ (¬ (x < i ∧ G x) → vc' (x * 6 + a) = vc (x * 6 + a))
theorem dt_V_rm {tk vc vc' co va : Nat → Int32} {G : Nat → Prop} (V : dt_V tk vc co va) (h : dt_vr vc vc' G 24) : dt_V (dt_rm tk G 24) vc' co va := by
  intro x hx a ha
  obtain ⟨h1, h2⟩ := h x hx a ha
  by_cases g : x < 24 ∧ G x
  · exact ⟨0, by omega, h1 g, fun z => absurd (dt_rm_t g) z, fun _ => rfl, fun _ k hk => by omega⟩
  · obtain ⟨c, hc4, hvx, hvy, hvz, hw⟩ := V x hx a ha
    rw [dt_rm_f g, h2 g]
    exact ⟨c, hc4, hvx, hvy, hvz, hw⟩
theorem dt_b1t : ∀ i, i < 32 → bt 1 i = decide (i = 0) := by decide +kernel
theorem dt_bit1 (x : Int32) : (x &&& 1 = 1) ↔ bt x 0 = true := by
  constructor
  · intro h
    have : bt (x &&& 1) 0 = bt 1 0 := by rw [h]
    rw [b_and, dt_b1t 0 (by omega)] at this
    simpa using this
  · intro h
    refine b_ext (fun i hi => ?_)
    rw [b_and, dt_b1t i hi]
    by_cases z : i = 0
    · rw [z, h]; rfl
    · rw [decide_eq_false z, Bool.and_false]
theorem dt_bits {x : Int32} {e : Nat} (he : e < 32) : ((x >>> (nI e &&& 31)) &&& 1 = 1) ↔ bt x e = true := by
  rw [dt_bit1, b_sshr e he x (by omega), if_pos (by omega), Nat.add_zero]
theorem dt_bsh {e i : Nat} (he : e < 32) (hi : i < 32) : bt ((1 : Int32) <<< (nI e &&& 31)) i = decide (i = e) := by
  rw [b_shl e he 1 hi]
  by_cases h : e ≤ i
  · rw [dt_b1t (i - e) (by omega), decide_eq_true h, Bool.true_and]
    by_cases z : i = e
    · rw [decide_eq_true z, decide_eq_true (by omega)]
    · rw [decide_eq_false z, decide_eq_false (by omega)]
  · rw [decide_eq_false h, Bool.false_and, decide_eq_false (by omega)]
section
variable {ec tc fc : Int32} {tk pa na cl od al vc va tK tA tV tF : Nat → Int32} {co pt oy wt : Nat → Int32}
theorem xfr_l {post : SX → Prop} {e : Nat} (he : e < 24) (H : ∀ vc' : Nat → Int32, (∀ a, a < 6 → vc' (e * 6 + a) = 0) → (∀ i, (∀ a, a < 6 → i ≠ e * 6 + a) → vc' i = vc i) → post (ec, tc, fc, tk, pa, na, cl, od, al, vc', va, tK, tA, tV, tF)) : ∀ (d a : Nat) (vc' : Nat → Int32), a + d = 6 → (∀ b, b < a → vc' (e * 6 + b) = 0) → (∀ i, (∀ a, a < 6 → i ≠ e * 6 + a) → vc' i = vc i) → wX_free_9 post (nI e) ec tc fc (d + 1) (nI a) tk pa na cl od al vc' va tK tA tV tF := by
  intro d
  induction d with
  | zero =>
    intro a vc' ha h1 h2
    exact br_t (nI_le (a := 6) (by omega) (by omega)) (H vc' (fun b hb => h1 b (by omega)) h2)
  | succ d ih =>
    intro a vc' ha h1 h2
    rw [wX_free_9]; dsimp only
    unfold wpX_setOf
    rw [dt_6x]; dsimp only
    rw [nI_clamp (by omega)]
    refine br_f (nI_ge (b := 6) (by omega) (by decide)) ⟨vp_in_nI (by omega) (by decide), nm_e (nm_r (nI_1 a) (ih (a + 1) _ (by omega) ?_ ?_))⟩
    · intro b hb
      by_cases z : b = a
      · rw [z, pk_us]
      · rw [pk_un (by omega)]; exact h1 b (by omega)
    · intro i hi
      rw [pk_un (hi a (by omega))]
      exact h2 i hi
theorem xfr_v {post : SX → Prop} {e : Nat} (he : e < 24) (H : ∀ vc' : Nat → Int32, (∀ a, a < 6 → vc' (e * 6 + a) = 0) → (∀ i, (∀ a, a < 6 → i ≠ e * 6 + a) → vc' i = vc i) → post (ec, tc, fc, upd tk e 0, pa, na, cl, od, al, vc', va, tK, tA, tV, tF)) : wpX_free post (ec, tc, fc, tk, pa, na, cl, od, al, vc, va, tK, tA, tV, tF) (nI e) := by
  unfold wpX_free; dsimp only
  rw [nI_clamp (by omega), dt_vn0]
  exact ⟨vp_in_nI he (by decide), nm_e ⟨7, xfr_l he H 6 0 vc rfl (fun b hb => by omega) (fun _ _ => rfl)⟩⟩
theorem xrm_l {post : Int32 → SX → Prop} {t : Nat} (T : dt_T0 tk pa na) (h0 : t ≠ 0) (ht : t < 24) (H : ∀ vc' o' : Nat → Int32, dt_vr vc vc' (dt_G tk pa t) 24 → (∀ i, i < dt_ec (dt_rm tk (dt_G tk pa t) 24) → o' i = nI (dt_at (dt_rm tk (dt_G tk pa t) 24) pa na i)) → post (nI (dt_cn (dt_G tk pa t) 24)) (nI (dt_ec (dt_rm tk (dt_G tk pa t) 24)), tc, fc, dt_rm tk (dt_G tk pa t) 24, pa, na, cl, o', al, vc', va, tK, tA, tV, tF)) : ∀ (d i : Nat) (vc' : Nat → Int32), i + d = 24 → dt_vr vc vc' (dt_G tk pa t) i → wX_remove_21 post (nI t) (d + 1) (nI (dt_cn (dt_G tk pa t) i)) (nI i) (nI (dt_ec tk)) tc fc (dt_rm tk (dt_G tk pa t) i) pa na cl od al vc' va tK tA tV tF := by
  intro d
  induction d with
  | zero =>
    intro i vc' hi hv
    have e : i = 24 := by omega
    subst e
    refine br_t (nI_le (a := 24) (b := 24) (by omega) (by decide)) ?_
    have hec := dt_ec_rm (tk := tk) (G := dt_G tk pa t) (fun x _ g => g.1)
    refine nm_r (e' := nI (dt_ec (dt_rm tk (dt_G tk pa t) 24))) ?_ (xo_v (dt_T0_rm T h0 ht) rfl (fun o' ho => H vc' o' hv ho))
    rw [pk_sub (by omega)]
    exact congrArg nI (by omega)
  | succ d ih =>
    intro i vc' hi hv
    have hvi : vp_in (nI i) 24 := vp_in_nI (by omega) (by decide)
    have eii : dt_rm tk (dt_G tk pa t) i i = tk i := dt_rm_f (fun z => by omega)
    rw [wX_remove_21]; dsimp only
    rw [nI_clamp (by omega), eii]
    refine br_f (nI_ge (b := 24) (by omega) (by decide)) ⟨hvi, ?_⟩
    have keep : ¬ dt_G tk pa t i → wX_remove_21 post (nI t) (d + 1) (nI (dt_cn (dt_G tk pa t) i)) (nI (i + 1)) (nI (dt_ec tk)) tc fc (dt_rm tk (dt_G tk pa t) i) pa na cl od al vc' va tK tA tV tF := fun g => by
      have := ih (i + 1) vc' (by omega) (fun x hx a ha => by
        obtain ⟨h1, h2⟩ := hv x hx a ha
        exact ⟨fun z => h1 ⟨by
          by_cases w : x = i
          · exact absurd (w ▸ z.2) g
          · omega, z.2⟩, fun z => h2 (fun w => z ⟨by omega, w.2⟩)⟩)
      rw [dt_cn, dt_1z g, dt_rm_n g] at this
      exact this
    by_cases hti : tk i = 0
    · exact br_t hti (nm_r (nI_1 i) (keep (fun g => g.1 hti)))
    · refine br_f hti (xs_v T ht (by omega) (dt_up24 T (by omega) hti) ?_)
      by_cases hS : dt_Sub pa (nI t) (nI i)
      · have g : dt_G tk pa t i := ⟨hti, hS⟩
        refine dt_tru hS (xfr_v (by omega) (fun vc2 h1 h2 => ?_))
        dsimp only
        rw [dt_rm_y g]
        have := ih (i + 1) vc2 (by omega) (fun x hx a ha => by
          obtain ⟨h3, h4⟩ := hv x hx a ha
          by_cases w : x = i
          · subst w
            exact ⟨fun _ => h1 a ha, fun z => absurd ⟨by omega, g⟩ z⟩
          · rw [h2 _ (fun b hb => by omega)]
            exact ⟨fun z => h3 ⟨by omega, z.2⟩, fun z => h4 (fun q => z ⟨by omega, q.2⟩)⟩)
        rw [dt_cn, dt_11 g] at this
        exact nm_r (nI_1 _) (nm_r (nI_1 i) this)
      · exact dt_fls hS (nm_r (nI_1 i) (keep (fun g => hS g.2)))
theorem yrm_2 {post : Int32 → SY → Prop} {G : Nat → Prop} {x : Int32} (hx : ∀ e, e < 24 → (bt x e = true ↔ G e)) (hp : post (nI (dt_cn G 24)) (tc, fc, dt_rm tk G 24, pa, na, cl, al, co, va, tK, tA, tV, pt, oy, wt)) : ∀ d i : Nat, i + d = 24 → wY_remove_68 post x tc fc (d + 1) (nI (dt_cn G i)) (nI i) (dt_rm tk G i) pa na cl al co va tK tA tV pt oy wt := by
  intro d
  induction d with
  | zero =>
    intro i hi
    have e : i = 24 := by omega
    subst e
    exact br_t (nI_le (a := 24) (b := 24) (by omega) (by decide)) hp
  | succ d ih =>
    intro i hi
    have h1 := ih (i + 1) (by omega)
    rw [wY_remove_68]; dsimp only
    refine br_f (nI_ge (b := 24) (by omega) (by decide)) ?_
    rw [dt_cn] at h1
    by_cases g : G i
    · rw [dt_11 g, ← dt_rm_y g] at h1
      refine br_t ((dt_bits (by omega)).mpr ((hx i (by omega)).mpr g)) ⟨vp_in_nI (by omega) (by decide), ?_⟩
      rw [nI_clamp (by omega), dt_vn0]
      exact nm_e (nm_r (nI_1 _) (nm_r (nI_1 i) h1))
    · rw [dt_1z g, dt_rm_n g] at h1
      exact br_f (fun z => g ((hx i (by omega)).mp ((dt_bits (by omega)).mp z))) (nm_r (nI_1 i) h1)
theorem yrm_1 {post : Int32 → SY → Prop} {t : Nat} (T : dt_T0 tk pa na) (ht : t < 24) (htt : tk t ≠ 0) (hp : post (nI (dt_cn (dt_G tk pa t) 24)) (tc, fc, dt_rm tk (dt_G tk pa t) 24, pa, na, cl, al, co, va, tK, tA, tV, pt, oy, wt)) : ∀ (d i : Nat) (x : Int32), i + d = 24 → (∀ e, e < 24 → (bt x e = true ↔ (e = t ∨ (e < i ∧ dt_G tk pa t e)))) → wY_remove_23 post (nI t) tc fc tk pa na cl al co va tK tA tV pt oy wt (d + 1) x (nI i) := by
  intro d
  induction d with
  | zero =>
    intro i x hi hx
    have e : i = 24 := by omega
    subst e
    refine br_t (nI_le (a := 24) (b := 24) (by omega) (by decide)) ⟨25, ?_⟩
    have := yrm_2 (tc := tc) (fc := fc) (tk := tk) (pa := pa) (na := na) (cl := cl) (al := al) (co := co) (va := va) (tK := tK) (tA := tA) (tV := tV) (pt := pt) (oy := oy) (wt := wt) (G := dt_G tk pa t) (x := x) (fun e he => (hx e he).trans ⟨fun z => by
      rcases z with z | z
      · rw [z]; exact ⟨htt, 0, rfl⟩
      · exact z.2, fun z => Or.inr ⟨he, z⟩⟩) hp 24 0 rfl
    rw [dt_rm_0] at this
    exact this
  | succ d ih =>
    intro i x hi hx
    have hvi : vp_in (nI i) 24 := vp_in_nI (by omega) (by decide)
    have hsub := dt_sub_s (pa := pa) (top := nI t) (j := i) (by omega)
    rw [wY_remove_23]; dsimp only
    rw [nI_clamp (by omega)]
    refine br_f (nI_ge (b := 24) (by omega) (by decide)) ⟨hvi, ?_⟩
    have keep : (dt_G tk pa t i → i = t) → wY_remove_23 post (nI t) tc fc tk pa na cl al co va tK tA tV pt oy wt (d + 1) x (nI (i + 1)) := fun g => ih (i + 1) x (by omega) (fun e he => (hx e he).trans ⟨fun z => z.elim Or.inl (fun q => Or.inr ⟨by omega, q.2⟩), fun z => z.elim Or.inl (fun q => by
      by_cases w : e = i
      · subst w; exact Or.inl (g q.2)
      · exact Or.inr ⟨by omega, q.2⟩)⟩)
    by_cases hti : tk i = 0
    · exact br_t hti (nm_r (nI_1 i) (keep (fun g => absurd hti g.1)))
    · refine br_f hti (ys_v T ht (by omega) (dt_up24 T (by omega) hti) ?_)
      by_cases hS : dt_Sub pa (nI t) (pa i)
      · have g : dt_G tk pa t i := ⟨hti, hsub.mpr (Or.inr hS)⟩
        refine dt_tru hS (nm_e (nm_r (nI_1 i) (ih (i + 1) _ (by omega) (fun e he => ?_))))
        rw [b_or, dt_bsh (by omega) (by omega), Bool.or_eq_true, hx e he, decide_eq_true_eq]
        constructor
        · rintro ((z | z) | z)
          · exact Or.inl z
          · exact Or.inr ⟨by omega, z.2⟩
          · exact Or.inr ⟨by omega, z ▸ g⟩
        · rintro (z | z)
          · exact Or.inl (Or.inl z)
          · by_cases w : e = i
            · exact Or.inr w
            · exact Or.inl (Or.inr ⟨by omega, z.2⟩)
      · refine dt_fls hS (nm_r (nI_1 i) (keep (fun g => ?_)))
        rcases hsub.mp g.2 with z | z
        · exact (nI_eq (by omega) (by omega)).mp z
        · exact absurd z hS
end
theorem i_vc_remove {k : Nat} {u : SX} {v : SY} (I : i_Rel k u v) (hk : k + 4 ≤ 2048) (v1 : Int32) : wpX_remove (fun r u' => wpY_remove (fun r' v' => r' = r ∧ i_Rel (k + 4) u' v') v v1) u v1 := by
  obtain ⟨tcn, fcn, tk, pa, na, cl, od, al, vc, va, tK, tA, tV, tF, co, pt, oy, wt, rfl, rfl, R⟩ := I
  have R0 := R
  obtain ⟨T, C, O, V, K⟩ := R
  unfold wpX_remove; dsimp only
  by_cases hE : dt_E tk v1
  · obtain ⟨t, ht, rfl, htt⟩ := hE
    refine xe_t ht htt (br_f dt_10 ?_)
    by_cases h0 : t = 0
    · have e0 : nI t = 0 := by rw [h0]; rfl
      refine br_t e0 ?_
      unfold wpY_remove; dsimp only
      exact ye_t ht htt (br_f dt_10 (br_t e0 ⟨rfl, rl_mk R0⟩))
    · have e0 : ¬ nI t = 0 := nI_ne0 (by omega) (by omega)
      refine br_f e0 ⟨25, ?_⟩
      have := xrm_l (fc := nI fcn) (tc := nI tcn) (cl := cl) (od := od) (al := al) (vc := vc) (va := va) (tK := tK) (tA := tA) (tV := tV) (tF := tF) (post := fun r u' => wpY_remove (fun r' v' => r' = r ∧ i_Rel (k + 4) u' v') (nI tcn, nI fcn, tk, pa, na, cl, al, co, va, tK, tA, tV, pt, oy, wt) (nI t)) T h0 ht (fun vc' o' h1 h2 => by
        unfold wpY_remove; dsimp only
        refine ye_t ht htt (br_f dt_10 (br_f e0 (nm_e ⟨25, yrm_1 T ht htt ⟨rfl, rl_mk ⟨dt_T0_rm T h0 ht, C, h2, dt_V_rm V h1, K⟩⟩ 24 0 _ rfl (fun e he => ?_)⟩)))
        rw [dt_bsh (by omega) (by omega), decide_eq_true_eq]
        exact ⟨Or.inl, fun z => z.elim id (fun q => by omega)⟩) 24 0 vc rfl (fun x hx a ha => ⟨fun z => by omega, fun _ => rfl⟩)
      rw [dt_rm_0] at this
      exact this
  · refine xe_f hE (br_t rfl ?_)
    unfold wpY_remove; dsimp only
    exact ye_f hE (br_t rfl ⟨rfl, rl_mk R0⟩)
