/-! allow -/
def dt_O (cl vc : Nat → Int32) (q w : Int32) (x a : Nat) : Prop := cl x = q ∧ ((w >>> (nI a &&& 31)) &&& 1) = 0 ∧ ¬ vc (x * 6 + a) ≤ 0
def dt_OY (tk cl co : Nat → Int32) (q w : Int32) (s : Nat) : Prop := tk (s / 6) ≠ 0 ∧ cl (s / 6) = q ∧ ¬ co s ≤ 0 ∧ ((w >>> (nI (s % 6) &&& 31)) &&& 1) = 0
theorem dt_OO {tk vc co va cl : Nat → Int32} {q w : Int32} (V : dt_V tk vc co va) : (∃ x, 0 ≤ x ∧ x < 24 ∧ ∃ a, 0 ≤ a ∧ a < 6 ∧ dt_O cl vc q w x a) ↔ (∃ s, 0 ≤ s ∧ s < 144 ∧ dt_OY tk cl co q w s) := by
  constructor
  · rintro ⟨x, _, hx, a, _, ha, h1, h2, h3⟩
    obtain ⟨c, hc4, hvx, hvy, hvz, _⟩ := V x hx a ha
    have ht : tk x ≠ 0 := fun z => h3 (by rw [hvx, hvz z]; decide)
    refine ⟨x * 6 + a, by omega, by omega, ?_⟩
    unfold dt_OY
    rw [show (x * 6 + a) / 6 = x by omega, show (x * 6 + a) % 6 = a by omega]
    exact ⟨ht, h1, by rw [hvy ht, ← hvx]; exact h3, h2⟩
  · rintro ⟨s, _, hs, h1, h2, h3, h4⟩
    obtain ⟨c, hc4, hvx, hvy, hvz, _⟩ := V (s / 6) (by omega) (s % 6) (by omega)
    rw [show s / 6 * 6 + s % 6 = s by omega] at hvx hvy
    refine ⟨s / 6, by omega, by omega, s % 6, by omega, by omega, h2, h4, ?_⟩
    rw [show s / 6 * 6 + s % 6 = s by omega, hvx, ← hvy h1]
    exact h3
section
variable {ec tc fc : Int32} {tk pa na cl od al vc va tK tA tV tF : Nat → Int32} {co pt oy wt : Nat → Int32}
theorem xho_i {post J2 : Int32 → Prop} {q w : Int32} {x : Nat} (hx : x < 24) : ∀ d a : Nat, a + d = 6 → ((∃ b, a ≤ b ∧ b < 6 ∧ dt_O cl vc q w x b) → post 1) → ((¬ ∃ b, a ≤ b ∧ b < 6 ∧ dt_O cl vc q w x b) → J2 (nI (x + 1))) → wX_hasValueOutside_11 post J2 q w (nI x) ec tc fc tk pa na cl od al vc va tK tA tV tF (d + 1) (nI a) := by
  intro d
  induction d with
  | zero =>
    intro a ha _ h2
    exact br_t (nI_le (a := 6) (by omega) (by omega)) (nm_r (nI_1 x) (h2 (fun ⟨b, b1, b2, _⟩ => by omega)))
  | succ d ih =>
    intro a ha h1 h2
    rw [wX_hasValueOutside_11]; dsimp only
    rw [nI_clamp (by omega)]
    refine br_f (nI_ge (b := 6) (by omega) (by decide)) ⟨vp_in_nI hx (by decide), ?_⟩
    have nxt : ¬ dt_O cl vc q w x a → wX_hasValueOutside_11 post J2 q w (nI x) ec tc fc tk pa na cl od al vc va tK tA tV tF (d + 1) (nI (a + 1)) := fun h => ih (a + 1) (by omega) (fun ⟨b, b1, b2, b3⟩ => h1 ⟨b, by omega, b2, b3⟩) (fun z => h2 (fun ⟨b, b1, b2, b3⟩ => by
      by_cases e : b = a
      · subst e; exact h b3
      · exact z ⟨b, by omega, b2, b3⟩))
    by_cases c1 : cl x = q
    · refine br_t c1 ?_
      by_cases c2 : ((w >>> (nI a &&& 31)) &&& 1) = 0
      · refine br_t c2 ?_
        unfold wX_hasValueOutside_42
        refine br_f dt_10 ?_
        unfold wpX_setOf
        rw [dt_6x]; dsimp only
        rw [nI_clamp (by omega)]
        refine ⟨vp_in_nI (by omega) (by decide), ?_⟩
        by_cases c3 : vc (x * 6 + a) ≤ 0
        · exact br_t c3 (nm_r (nI_1 a) (nxt (fun z => z.2.2 c3)))
        · exact br_f c3 (h1 ⟨a, by omega, by omega, c1, c2, c3⟩)
      · refine br_f c2 ?_
        unfold wX_hasValueOutside_41 wX_hasValueOutside_42
        exact br_t rfl (nm_r (nI_1 a) (nxt (fun z => c2 z.2.1)))
    · refine br_f c1 ?_
      unfold wX_hasValueOutside_41 wX_hasValueOutside_42
      exact br_t rfl (nm_r (nI_1 a) (nxt (fun z => c1 z.1)))
theorem xho_o {post : Int32 → Prop} {q w : Int32} : ∀ d x : Nat, x + d = 24 → post (dt_b (∃ y, x ≤ y ∧ y < 24 ∧ ∃ a, 0 ≤ a ∧ a < 6 ∧ dt_O cl vc q w y a)) → wX_hasValueOutside_2 post q w ec tc fc tk pa na cl od al vc va tK tA tV tF (d + 1) (nI x) := by
  intro d
  induction d with
  | zero =>
    intro x hx hp
    rw [dt_b0 (fun ⟨y, y1, y2, _⟩ => by omega)] at hp
    exact br_t (nI_le (a := 24) (by omega) (by omega)) hp
  | succ d ih =>
    intro x hx hp
    refine br_f (nI_ge (b := 24) (by omega) (by decide)) ⟨7, xho_i (by omega) 6 0 rfl (fun h => ?_) (fun h => ih (x + 1) (by omega) ?_)⟩
    · rw [dt_b1 ⟨x, by omega, by omega, h⟩] at hp
      exact hp
    · rw [dt_bc (d := ∃ y, x + 1 ≤ y ∧ y < 24 ∧ ∃ a, 0 ≤ a ∧ a < 6 ∧ dt_O cl vc q w y a) ⟨fun ⟨y, y1, y2, y3⟩ => ⟨y, by
        by_cases e : y = x
        · subst e; exact absurd y3 h
        · omega, y2, y3⟩, fun ⟨y, y1, y2, y3⟩ => ⟨y, by omega, y2, y3⟩⟩] at hp
      exact hp
theorem yal_l {post : Int32 → SY → Prop} {q w : Int32} : ∀ d s : Nat, s + d = 144 → ((∃ r, s ≤ r ∧ r < 144 ∧ dt_OY tk cl co q w r) → post (-3) (tc, fc, tk, pa, na, cl, al, co, va, tK, tA, tV, pt, oy, wt)) → ((¬ ∃ r, s ≤ r ∧ r < 144 ∧ dt_OY tk cl co q w r) → (vp_in q 4 ∧ (∀ x3_7 : Int32, x3_7 = al q.toNatClampNeg → (vp_in q 4 ∧ ∀ al_9 : Nat → Int32, al_9 = upd al q.toNatClampNeg w → (post x3_7 (tc, fc, tk, pa, na, cl, al_9, co, va, tK, tA, tV, pt, oy, wt)))))) → wY_allow_24 post q w tc fc tk pa na cl al co va tK tA tV pt oy wt (d + 1) (nI s) := by
  intro d
  induction d with
  | zero =>
    intro s hs _ h2
    exact br_t (nI_le (a := 144) (by omega) (by omega)) (h2 (fun ⟨b, b1, b2, _⟩ => by omega))
  | succ d ih =>
    intro s hs h1 h2
    have e1 : nI s / 6 = nI (s / 6) := pk_div (d := 6) (by omega) (by decide) (by decide)
    have e2 : nI s - nI s / 6 * 6 = nI (s % 6) := pk_rem (d := 6) (by omega) (by decide) (by decide)
    rw [wY_allow_24]; dsimp only
    rw [e2, e1, nI_clamp (show s / 6 < 2 ^ 31 by omega), nI_clamp (show s < 2 ^ 31 by omega)]
    have hv : vp_in (nI (s / 6)) 24 := vp_in_nI (by omega) (by decide)
    refine br_f (nI_ge (b := 144) (by omega) (by decide)) ⟨by decide, hv, ?_⟩
    have nxt : ¬ dt_OY tk cl co q w s → wY_allow_24 post q w tc fc tk pa na cl al co va tK tA tV pt oy wt (d + 1) (nI (s + 1)) := fun h => ih (s + 1) (by omega) (fun ⟨b, b1, b2, b3⟩ => h1 ⟨b, by omega, b2, b3⟩) (fun z => h2 (fun ⟨b, b1, b2, b3⟩ => by
      by_cases e : b = s
      · subst e; exact h b3
      · exact z ⟨b, by omega, b2, b3⟩))
    by_cases c1 : tk (s / 6) = 0
    · exact br_t c1 (nm_r (nI_1 s) (nxt (fun z => z.1 c1)))
    · refine br_f c1 ⟨by decide, hv, ?_⟩
      by_cases c2 : cl (s / 6) = q
      · refine br_t c2 ⟨vp_in_nI (by omega) (by decide), ?_⟩
        by_cases c3 : co s ≤ 0
        · exact br_t c3 (nm_r (nI_1 s) (nxt (fun z => z.2.2.1 c3)))
        · refine br_f c3 ⟨by decide, ?_⟩
          by_cases c4 : ((w >>> (nI (s % 6) &&& 31)) &&& 1) = 0
          · exact br_t c4 (h1 ⟨s, by omega, by omega, c1, c2, c3, c4⟩)
          · exact br_f c4 (nm_r (nI_1 s) (nxt (fun z => c4 z.2.2.2)))
      · exact br_f c2 (nm_r (nI_1 s) (nxt (fun z => c2 z.2.1)))
end
theorem i_vc_allow {k : Nat} {u : SX} {v : SY} (I : i_Rel k u v) (hk : k + 4 ≤ 2048) (v1 : Int32) (v2 : Int32) : wpX_allow (fun r u' => wpY_allow (fun r' v' => r' = r ∧ i_Rel (k + 4) u' v') v v1 v2) u v1 v2 := by
  obtain ⟨tcn, fcn, tk, pa, na, cl, od, al, vc, va, tK, tA, tV, tF, co, pt, oy, wt, rfl, rfl, R⟩ := I
  have R0 := R
  obtain ⟨T, C, O, V, K⟩ := R
  unfold wpX_allow wpY_allow; dsimp only
  by_cases hC : dt_L 4 v1
  · obtain ⟨q, hq, rfl⟩ := hC
    have hv : vp_in (nI q) 4 := vp_in_nI hq (by decide)
    have hq0 : ¬ nI q < 0 := nI_pos (by omega)
    have hq3 : ¬ 3 < nI q := nI_nlt (a := 3) (by omega) (by decide)
    refine xc_t hq (br_f dt_10 ?_)
    by_cases h0 : v2 < 0
    · exact br_t h0 (br_f hq0 (br_f hq3 (br_t h0 ⟨rfl, rl_mk R0⟩)))
    · refine br_f h0 ?_
      by_cases h63 : v2 ≤ 63
      · refine br_t h63 ⟨25, xho_o 24 0 rfl ?_⟩
        have hO := dt_OO (cl := cl) (q := nI q) (w := v2) V
        by_cases hB : ∃ x, 0 ≤ x ∧ x < 24 ∧ ∃ a, 0 ≤ a ∧ a < 6 ∧ dt_O cl vc (nI q) v2 x a
        · exact dt_tru hB (br_f hq0 (br_f hq3 (br_f h0 (br_t h63 ⟨145, yal_l 144 0 rfl (fun _ => ⟨rfl, rl_mk R0⟩) (fun z => absurd (hO.mp hB) z)⟩))))
        · refine dt_fls hB ⟨hv, nm_e ⟨hv, nm_e (br_f hq0 (br_f hq3 (br_f h0 (br_t h63 ⟨145, yal_l 144 0 rfl (fun z => absurd (hO.mpr z) hB) (fun _ => ⟨hv, nm_e ⟨hv, nm_e ⟨rfl, rl_mk R0⟩⟩⟩)⟩))))⟩⟩
      · exact br_f h63 (br_f hq0 (br_f hq3 (br_f h0 (br_f h63 ⟨rfl, rl_mk R0⟩))))
  · refine xc_f hC (br_t rfl ?_)
    rcases dt_L_f (by decide) hC with h0 | ⟨h1, h0⟩
    · exact br_t h0 ⟨rfl, rl_mk R0⟩
    · exact br_f h1 (br_t (dt_gt (b := 3) h0 (by decide) (by decide)) ⟨rfl, rl_mk R0⟩)
