/-! words, ranks, beginnings: the walks -/
section
variable {ec tc fc : Int32} {tk pa na cl od al vc va tK tA tV tF : Nat → Int32}
variable {tn hh : Int32} {th pp nn kk aw co vb sk sa sw pt oy wt : Nat → Int32}
theorem xw_51 {post : Int32 → Prop} {a b : Int32} (hp : post (dt_b (¬ a = 0 ∧ ¬ b = 0))) : wX_isWord_51 post a b := by
  unfold wX_isWord_51
  by_cases h1 : a = 0
  · rw [dt_b0 (fun z => z.1 h1)] at hp; exact br_t h1 hp
  · by_cases h2 : b = 0
    · rw [dt_b0 (fun z => z.2 h2)] at hp; exact br_f h1 (br_t h2 hp)
    · rw [dt_b1 ⟨h1, h2⟩] at hp; exact br_f h1 (br_f h2 hp)
theorem xw_29 {post : Int32 → Prop} {n : Nat} {z : Int32} (hn : n < 216) (hp : post (dt_b (¬ z = 0 ∧ (n / 6 % 6 ≠ 0 ∨ n < 36)))) : wX_isWord_29 post (nI n) z := by
  unfold wX_isWord_29
  have e1 : nI n / 6 = nI (n / 6) := pk_div (d := 6) (by omega) (by decide) (by decide)
  rw [e1]
  have e2 : nI (n / 6) - nI (n / 6) / 6 * 6 = nI (n / 6 % 6) := pk_rem (d := 6) (by omega) (by decide) (by decide)
  rw [e2]
  refine ⟨by decide, by decide, ?_⟩
  by_cases h1 : n / 6 % 6 = 0
  · refine br_t (by rw [h1]; rfl) ?_
    by_cases h2 : n < 36
    · exact br_f (nI_ge (b := 36) h2 (by decide)) (xw_51 (by rw [dt_bc (d := ¬ z = 0 ∧ (n / 6 % 6 ≠ 0 ∨ n < 36)) ⟨fun q => ⟨q.1, Or.inr h2⟩, fun q => ⟨q.1, dt_10⟩⟩]; exact hp))
    · exact br_t (nI_le (a := 36) (by omega) (by omega)) (xw_51 (by rw [dt_bc (d := ¬ z = 0 ∧ (n / 6 % 6 ≠ 0 ∨ n < 36)) ⟨fun q => absurd rfl q.2, fun q => absurd q.2 (by omega)⟩]; exact hp))
  · exact br_f (nI_ne0 (by omega) (by omega)) (xw_51 (by rw [dt_bc (d := ¬ z = 0 ∧ (n / 6 % 6 ≠ 0 ∨ n < 36)) ⟨fun q => ⟨q.1, Or.inl h1⟩, fun q => ⟨q.1, dt_10⟩⟩]; exact hp))
theorem dt_Wi_n {n : Nat} (hn : n < 216) : dt_Wi (nI n) ↔ dt_W n := by
  constructor
  · rintro ⟨m, e, h⟩
    have := h.1
    rw [nI_eq (by omega) (by omega)] at e
    rw [e]; exact h
  · intro h; exact ⟨n, rfl, h⟩
theorem dt_Wi_neg {v : Int32} (h : v < 0) : ¬ dt_Wi v := by
  rintro ⟨m, rfl, hm⟩
  have := hm.1
  exact nI_pos (by omega) h
theorem dt_Wi_big {v : Int32} (h : nI 216 ≤ v) : ¬ dt_Wi v := by
  rintro ⟨m, rfl, hm⟩
  have := hm.1
  exact nI_ge (b := 216) this (by decide) h
theorem xw_v {post : Int32 → Prop} {v : Int32} (hp : post (dt_b (dt_Wi v))) : wpX_isWord post v := by
  unfold wpX_isWord
  rcases pk_ix v (n := 216) (by decide) with h0 | h0 | ⟨n, hn, rfl⟩
  · rw [dt_b0 (dt_Wi_neg h0)] at hp
    exact br_t h0 hp
  · rw [dt_b0 (dt_Wi_big h0)] at hp
    exact br_f (dt_ge0 h0 (by decide)) (br_f (Int32.not_lt.mpr h0) hp)
  · rw [dt_bc (dt_Wi_n hn)] at hp
    refine br_f (nI_pos (by omega)) (br_t (nI_lt (b := 216) hn (by decide)) ⟨by decide, ?_⟩)
    have e2 : nI n - nI n / 6 * 6 = nI (n % 6) := pk_rem (d := 6) (by omega) (by decide) (by decide)
    rw [e2]
    by_cases h1 : n % 6 = 0
    · refine br_t (by rw [h1]; rfl) ?_
      by_cases h2 : n = 0
      · exact br_t (by rw [h2]; rfl) (xw_29 hn (by rw [dt_bc (d := dt_W n) ⟨fun q => ⟨hn, Or.inr h2, q.2⟩, fun q => ⟨dt_10, q.2.2⟩⟩]; exact hp))
      · exact br_f (nI_ne0 (by omega) (by omega)) (xw_29 hn (by rw [dt_bc (d := dt_W n) ⟨fun q => absurd rfl q.1, fun q => absurd q.2.1 (by omega)⟩]; exact hp))
    · exact br_f (nI_ne0 (by omega) (by omega)) (xw_29 hn (by rw [dt_bc (d := dt_W n) ⟨fun q => ⟨hn, Or.inl h1, q.2⟩, fun q => ⟨dt_10, q.2.2⟩⟩]; exact hp))
theorem xb_v {post : Int32 → Prop} {a v : Int32} (hp : post (dt_b (dt_CB a v))) : wpX_canBeValue post a v := by
  unfold wpX_canBeValue
  by_cases ha : 4 ≤ a
  · refine br_t ha ?_
    by_cases h1 : v < -999
    · rw [dt_b0 (fun z => z.elim (fun q => q.2.1 h1) (fun q => q.1 ha))] at hp; exact br_t h1 hp
    · by_cases h2 : 999 < v
      · rw [dt_b0 (fun z => z.elim (fun q => q.2.2 h2) (fun q => q.1 ha))] at hp; exact br_f h1 (br_t h2 hp)
      · rw [dt_b1 (c := dt_CB a v) (Or.inl ⟨ha, h1, h2⟩)] at hp; exact br_f h1 (br_f h2 hp)
  · rw [dt_bc (c := dt_CB a v) (d := dt_Wi v) ⟨fun z => z.elim (fun q => absurd q.1 ha) (fun q => q.2), fun z => Or.inr ⟨ha, z⟩⟩] at hp
    exact br_f ha (xw_v ⟨dt_bn _, hp⟩)
theorem y_let {post : Int32 → Prop} {n k : Nat} (hn : n < 2 ^ 31) (hk : k < 2 ^ 31) (hp : post (nI (dt_lt n k))) : wpY_letter post (tn, hh, th, pp, nn, kk, aw, co, vb, sk, sa, sw, pt, oy, wt) (nI n) (nI k) := by
  unfold wpY_letter; dsimp only
  have e1 : nI n / 6 = nI (n / 6) := pk_div (d := 6) (by omega) (by decide) (by decide)
  have e2 : nI (n / 6) - nI (n / 6) / 6 * 6 = nI (n / 6 % 6) := pk_rem (d := 6) (by omega) (by decide) (by decide)
  have e3 : nI n - nI n / 6 * 6 = nI (n % 6) := pk_rem (d := 6) (by omega) (by decide) (by decide)
  have e4 : nI n / 36 = nI (n / 36) := pk_div (d := 36) (by omega) (by decide) (by decide)
  rw [e3, e1, e2, e4]
  unfold dt_lt at hp
  by_cases h0 : k = 0
  · rw [if_pos h0] at hp
    exact br_t (by rw [h0]; rfl) ⟨by decide, hp⟩
  · rw [if_neg h0] at hp
    refine br_f (nI_ne0 (by omega) hk) ?_
    by_cases h1 : k = 1
    · rw [if_pos h1] at hp
      exact br_t (by rw [h1]; rfl) ⟨by decide, by decide, hp⟩
    · rw [if_neg h1] at hp
      exact br_f (fun z => h1 ((nI_eq (b := 1) hk (by decide)).mp z)) ⟨by decide, hp⟩
theorem y_len {post : Int32 → Prop} {n : Nat} (hn : n < 2 ^ 31) (hp : post (nI (dt_ln n))) : wpY_length post (tn, hh, th, pp, nn, kk, aw, co, vb, sk, sa, sw, pt, oy, wt) (nI n) := by
  unfold wpY_length; dsimp only
  unfold dt_ln at hp
  refine y_let (k := 0) hn (by decide) ?_
  rw [show dt_lt n 0 = n % 6 from rfl]
  by_cases h0 : n % 6 = 0
  · rw [if_pos h0] at hp
    exact br_t (by rw [h0]; rfl) hp
  · rw [if_neg h0] at hp
    refine br_f (nI_ne0 (by omega) (by omega)) (y_let (k := 1) hn (by decide) ?_)
    rw [show dt_lt n 1 = n / 6 % 6 from rfl]
    by_cases h1 : n / 6 % 6 = 0
    · rw [if_pos h1] at hp
      exact br_t (by rw [h1]; rfl) hp
    · rw [if_neg h1] at hp
      refine br_f (nI_ne0 (by omega) (by omega)) (y_let (k := 2) hn (by decide) ?_)
      rw [show dt_lt n 2 = n / 36 from rfl]
      by_cases h2 : n / 36 = 0
      · rw [if_pos h2] at hp
        exact br_t (by rw [h2]; rfl) hp
      · rw [if_neg h2] at hp
        exact br_f (nI_ne0 (by omega) (by omega)) hp
theorem yw_l {post : Int32 → Prop} {n : Nat} (hn : n < 216) : ∀ (d k : Nat) (g : Prop), k + d = 3 → post (dt_b (g ∧ ∀ i, k ≤ i → i < 3 → dt_lt n i = 0)) → wY_isWord_24 post (nI n) tn hh th pp nn kk aw co vb sk sa sw pt oy wt (d + 1) (dt_b g) (nI k) := by
  intro d
  induction d with
  | zero =>
    intro k g hk hp
    rw [dt_bc (d := g) ⟨fun z => z.1, fun z => ⟨z, fun i h1 h2 => by omega⟩⟩] at hp
    exact br_t (nI_le (a := 3) (by omega) (by omega)) ⟨dt_bn _, hp⟩
  | succ d ih =>
    intro k g hk hp
    rw [wY_isWord_24]; dsimp only
    refine br_f (nI_ge (b := 3) (by omega) (by decide)) ?_
    by_cases hg : g
    · refine dt_tru hg (y_let (by omega) (by omega) ?_)
      have hb : dt_lt n k < 2 ^ 31 := by
        unfold dt_lt
        by_cases h0 : k = 0
        · rw [if_pos h0]; omega
        · rw [if_neg h0]
          by_cases h1 : k = 1
          · rw [if_pos h1]; omega
          · rw [if_neg h1]; omega
      by_cases h : dt_lt n k = 0
      · refine br_t (by rw [h]; rfl) (nm_r (nI_1 k) ?_)
        have := ih (k + 1) True (by omega) (by
          rw [dt_bc (d := g ∧ ∀ i, k ≤ i → i < 3 → dt_lt n i = 0) ⟨fun z => ⟨hg, fun i h1 h2 => if e : i = k then by rw [e]; exact h else z.2 i (by omega) h2⟩, fun z => ⟨trivial, fun i h1 h2 => z.2 i (by omega) h2⟩⟩]
          exact hp)
        rw [dt_b1 trivial] at this
        exact this
      · refine br_f (nI_ne0 (by omega) hb) (nm_r (nI_1 k) ?_)
        have := ih (k + 1) False (by omega) (by
          rw [dt_bc (d := g ∧ ∀ i, k ≤ i → i < 3 → dt_lt n i = 0) ⟨fun z => z.1.elim, fun z => absurd (z.2 k (by omega) (by omega)) h⟩]
          exact hp)
        rw [dt_b0 (fun z => z)] at this
        exact this
    · refine dt_fls hg (nm_r (nI_1 k) ?_)
      have := ih (k + 1) False (by omega) (by
        rw [dt_bc (d := g ∧ ∀ i, k ≤ i → i < 3 → dt_lt n i = 0) ⟨fun z => z.1.elim, fun z => absurd z.1 hg⟩]
        exact hp)
      rw [dt_b0 (fun z => z)] at this
      exact this
theorem dt_W_ln {n : Nat} (hn : n < 216) : (True ∧ ∀ i, dt_ln n ≤ i → i < 3 → dt_lt n i = 0) ↔ dt_W n := by
  have l0 : dt_lt n 0 = n % 6 := rfl
  have l1 : dt_lt n 1 = n / 6 % 6 := rfl
  have l2 : dt_lt n 2 = n / 36 := rfl
  constructor
  · rintro ⟨_, h⟩
    have h0 := h 0
    have h1 := h 1
    have h2 := h 2
    rw [l0] at h0; rw [l1] at h1; rw [l2] at h2
    unfold dt_ln at h0 h1 h2
    refine ⟨hn, ?_, ?_⟩
    · by_cases e0 : n % 6 = 0
      · rw [if_pos e0] at h0 h1 h2
        have := h1 (by omega) (by omega)
        have := h2 (by omega) (by omega)
        right; omega
      · exact Or.inl e0
    · by_cases e1 : n / 6 % 6 = 0
      · by_cases e0 : n % 6 = 0
        · rw [if_pos e0] at h0 h1 h2
          have := h2 (by omega) (by omega)
          right; omega
        · rw [if_neg e0, if_pos e1] at h0 h1 h2
          have := h2 (by omega) (by omega)
          right; omega
      · exact Or.inl e1
  · rintro ⟨_, h2, h3⟩
    refine ⟨trivial, fun i a b => ?_⟩
    unfold dt_ln at a
    have hi : i = 0 ∨ i = 1 ∨ i = 2 := by omega
    by_cases e0 : n % 6 = 0
    · have : n = 0 := by omega
      subst this
      rcases hi with rfl | rfl | rfl <;> rfl
    · rw [if_neg e0] at a
      by_cases e1 : n / 6 % 6 = 0
      · rw [if_pos e1] at a
        rcases hi with rfl | rfl | rfl
        · omega
        · rw [l1]; omega
        · rw [l2]; omega
      · rw [if_neg e1] at a
        by_cases e2 : n / 36 = 0
        · rw [if_pos e2] at a
          rcases hi with rfl | rfl | rfl
          · omega
          · omega
          · rw [l2]; omega
        · rw [if_neg e2] at a
          omega
theorem dt_ln3 (n : Nat) : dt_ln n ≤ 3 := by
  unfold dt_ln
  by_cases e0 : n % 6 = 0
  · rw [if_pos e0]; omega
  · rw [if_neg e0]
    by_cases e1 : n / 6 % 6 = 0
    · rw [if_pos e1]; omega
    · rw [if_neg e1]
      by_cases e2 : n / 36 = 0
      · rw [if_pos e2]; omega
      · rw [if_neg e2]; omega
theorem yw_v {post : Int32 → Prop} {v : Int32} (hp : post (dt_b (dt_Wi v))) : wpY_isWord post (tn, hh, th, pp, nn, kk, aw, co, vb, sk, sa, sw, pt, oy, wt) v := by
  unfold wpY_isWord; dsimp only
  rcases pk_ix v (n := 216) (by decide) with h0 | h0 | ⟨n, hn, rfl⟩
  · rw [dt_b0 (dt_Wi_neg h0)] at hp
    exact br_t h0 hp
  · rw [dt_b0 (dt_Wi_big h0)] at hp
    exact br_f (dt_ge0 h0 (by decide)) (br_f (dt_ge (b := 215) h0 (by decide) (by decide)) hp)
  · rw [dt_bc (dt_Wi_n hn), ← dt_bc (dt_W_ln hn)] at hp
    refine br_f (nI_pos (by omega)) (br_t (nI_le (b := 215) (by omega) (by decide)) (y_len (by omega) ?_))
    have := dt_ln3 n
    have := yw_l (tn := tn) (hh := hh) (th := th) (pp := pp) (nn := nn) (kk := kk) (aw := aw) (co := co) (vb := vb) (sk := sk) (sa := sa) (sw := sw) (pt := pt) (oy := oy) (wt := wt) hn (3 - dt_ln n) (dt_ln n) True (by omega) hp
    rw [dt_b1 trivial] at this
    exact ⟨_, this⟩
theorem yb_v {post : Int32 → Prop} {a v : Int32} (hp : post (dt_b (dt_CB a v))) : wpY_canBe post (tn, hh, th, pp, nn, kk, aw, co, vb, sk, sa, sw, pt, oy, wt) a v := by
  unfold wpY_canBe; dsimp only
  by_cases ha : 4 ≤ a
  · refine br_t ha ?_
    by_cases h1 : v < -999
    · rw [dt_b0 (fun z => z.elim (fun q => q.2.1 h1) (fun q => q.1 ha))] at hp; exact br_t h1 hp
    · by_cases h2 : 999 < v
      · rw [dt_b0 (fun z => z.elim (fun q => q.2.2 h2) (fun q => q.1 ha))] at hp; exact br_f h1 (br_t h2 hp)
      · rw [dt_b1 (c := dt_CB a v) (Or.inl ⟨ha, h1, h2⟩)] at hp; exact br_f h1 (br_f h2 hp)
  · rw [dt_bc (c := dt_CB a v) (d := dt_Wi v) ⟨fun z => z.elim (fun q => absurd q.1 ha) (fun q => q.2), fun z => Or.inr ⟨ha, z⟩⟩] at hp
    exact br_f ha (yw_v ⟨dt_bn _, hp⟩)
theorem xr_v {post : Int32 → Prop} {a v : Int32} (hp : post (dt_rk a v)) : wpX_rankOf post a v := by
  unfold wpX_rankOf
  unfold dt_rk at hp
  by_cases h : a < 4
  · rw [if_pos h] at hp
    exact br_t h ⟨by decide, by decide, by decide, by decide, hp⟩
  · rw [if_neg h] at hp
    exact br_f h hp
theorem y_let0 {post : Int32 → Prop} {v : Int32} (hp : post (v - v / 6 * 6)) : wpY_letter post (tn, hh, th, pp, nn, kk, aw, co, vb, sk, sa, sw, pt, oy, wt) v 0 := br_t rfl ⟨by decide, hp⟩
theorem y_let1 {post : Int32 → Prop} {v : Int32} (hp : post (v / 6 - v / 6 / 6 * 6)) : wpY_letter post (tn, hh, th, pp, nn, kk, aw, co, vb, sk, sa, sw, pt, oy, wt) v 1 := br_f dt_10 (br_t rfl ⟨by decide, by decide, hp⟩)
theorem y_let2 {post : Int32 → Prop} {v : Int32} (hp : post (v / 36)) : wpY_letter post (tn, hh, th, pp, nn, kk, aw, co, vb, sk, sa, sw, pt, oy, wt) v 2 := br_f (by decide) (br_f (by decide) ⟨by decide, hp⟩)
theorem dt_34 (a : Int32) : a ≤ 3 ↔ a < 4 := by
  rw [Int32.le_iff_toInt_le, Int32.lt_iff_toInt_lt, show (3 : Int32).toInt = 3 from by decide, show (4 : Int32).toInt = 4 from by decide]
  omega
theorem yr_v {post : Int32 → Prop} {a v : Int32} (hp : post (dt_rk a v)) : wpY_rank post (tn, hh, th, pp, nn, kk, aw, co, vb, sk, sa, sw, pt, oy, wt) a v := by
  unfold wpY_rank; dsimp only
  unfold dt_rk at hp
  by_cases h : a < 4
  · rw [if_pos h] at hp
    refine br_t ((dt_34 a).mpr h) (y_let0 (y_let1 (y_let2 ?_)))
    rw [Int32.mul_comm 36, Int32.mul_comm 6]
    exact hp
  · rw [if_neg h] at hp
    exact br_f (fun z => h ((dt_34 a).mp z)) hp
theorem xg_31 {post : Int32 → Prop} {n m s : Nat} (hn : n < 2 ^ 31) (hm : m < 2 ^ 31) (h0 : 0 < s) (hs : s < 2 ^ 31) (hp : post (dt_b (n % s = m))) : wX_beginsWith_31 post (nI n) (nI m) (nI s) := by
  unfold wX_beginsWith_31
  rw [pk_rem hn h0 hs]
  have := Nat.mod_lt n h0
  refine ⟨nI_ne0 h0 hs, ?_⟩
  by_cases h : n % s = m
  · rw [dt_b1 h] at hp
    exact br_t (by rw [h]) hp
  · rw [dt_b0 h] at hp
    exact br_f (fun z => h ((nI_eq (by omega) hm).mp z)) hp
theorem xg_v {post : Int32 → Prop} {n m : Nat} (hn : n < 2 ^ 31) (hm : m < 2 ^ 31) (hp : post (dt_b (dt_BW n m = true))) : wpX_beginsWith post (nI n) (nI m) := by
  unfold wpX_beginsWith
  by_cases h0 : m = 0
  · rw [dt_b1 (by rw [h0]; rfl)] at hp
    exact br_t (by rw [h0]; rfl) hp
  · refine br_f (nI_ne0 (by omega) hm) ?_
    have e : (dt_BW n m = true) ↔ n % dt_sp m = m := by simp [dt_BW, h0]
    rw [dt_bc e] at hp
    unfold dt_sp at hp
    by_cases h1 : m < 6
    · rw [if_pos h1] at hp
      exact br_f (nI_ge (b := 6) h1 (by decide)) (xg_31 (s := 6) hn hm (by decide) (by decide) hp)
    · rw [if_neg h1] at hp
      refine br_t (nI_le (a := 6) (by omega) hm) ?_
      by_cases h2 : m < 36
      · rw [if_pos h2] at hp
        exact br_f (nI_ge (b := 36) h2 (by decide)) (xg_31 (s := 36) hn hm (by decide) (by decide) hp)
      · rw [if_neg h2] at hp
        exact br_t (nI_le (a := 36) (by omega) hm) (xg_31 (s := 216) hn hm (by decide) (by decide) hp)
end
