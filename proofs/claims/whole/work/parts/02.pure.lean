/-! truth values, searches, counts, the climb, the order of the tree: no printed predicate -/
noncomputable def dt_b (c : Prop) : Int32 := @ite Int32 c (Classical.propDecidable c) 1 0
theorem dt_b1 {c : Prop} (h : c) : dt_b c = 1 := by unfold dt_b; exact if_pos h
theorem dt_b0 {c : Prop} (h : ¬ c) : dt_b c = 0 := by unfold dt_b; exact if_neg h
theorem dt_bc {c d : Prop} (h : c ↔ d) : dt_b c = dt_b d := by
  by_cases hc : c
  · rw [dt_b1 hc, dt_b1 (h.mp hc)]
  · rw [dt_b0 hc, dt_b0 (fun z => hc (h.mpr z))]
theorem dt_b01 (c : Prop) : dt_b c = 0 ∨ dt_b c = 1 := by
  by_cases hc : c
  · exact Or.inr (dt_b1 hc)
  · exact Or.inl (dt_b0 hc)
theorem dt_bn (c : Prop) : narrow .boolean (.int (dt_b c)) = .int (dt_b c) := by
  rcases dt_b01 c with h | h <;> rw [h] <;> rfl
theorem dt_10 : ¬ (1 : Int32) = 0 := by decide
theorem dt_01 : ¬ (0 : Int32) = 1 := by decide
theorem dt_tru {A B : Prop} {c : Prop} (h : c) (b : B) : (dt_b c = 0 → A) ∧ (¬ dt_b c = 0 → B) := by
  rw [dt_b1 h]; exact br_f dt_10 b
theorem dt_fls {A B : Prop} {c : Prop} (h : ¬ c) (a : A) : (dt_b c = 0 → A) ∧ (¬ dt_b c = 0 → B) := by
  rw [dt_b0 h]; exact br_t rfl a
theorem dt_m1 {j : Nat} (h : j < 2 ^ 31) : ¬ nI j = -1 := by
  intro z
  have e : (nI j).toInt = (-1 : Int32).toInt := by rw [z]
  rw [nI_toInt h, show (-1 : Int32).toInt = -1 from by decide] at e
  omega
theorem dt_nn {j : Nat} (h : j < 2 ^ 31) : ¬ nI j < 0 := nI_pos h
theorem dt_ge {x : Int32} {a b : Nat} (h : nI a ≤ x) (hb : b < a) (ha : a < 2 ^ 31) : ¬ x ≤ nI b := by
  rw [Int32.le_iff_toInt_le, nI_toInt ha] at h
  rw [Int32.le_iff_toInt_le, nI_toInt (by omega)]
  omega
theorem dt_gt {x : Int32} {a b : Nat} (h : nI a ≤ x) (hb : b < a) (ha : a < 2 ^ 31) : nI b < x := by
  rw [Int32.le_iff_toInt_le, nI_toInt ha] at h
  rw [Int32.lt_iff_toInt_lt, nI_toInt (by omega)]
  omega
theorem dt_ge0 {x : Int32} {a : Nat} (h : nI a ≤ x) (ha : a < 2 ^ 31) : ¬ x < 0 := by
  rw [Int32.le_iff_toInt_le, nI_toInt ha] at h
  rw [Int32.lt_iff_toInt_lt, show (0 : Int32).toInt = 0 from by decide]
  omega
theorem dt_neq {x : Int32} {j : Nat} (h : x < 0) (hj : j < 2 ^ 31) : ¬ x = nI j := by
  intro z
  rw [z] at h
  exact nI_pos hj h
/-- the first i of d numbers that P holds of -/
noncomputable def dt_fd (P : Nat → Prop) : Nat → Nat → Option Nat
  | 0, _ => none
  | d + 1, i => @ite (Option Nat) (P i) (Classical.propDecidable (P i)) (some i) (dt_fd P d (i + 1))
theorem dt_fdy {P : Nat → Prop} {d i : Nat} (h : P i) : dt_fd P (d + 1) i = some i := by rw [dt_fd]; exact if_pos h
theorem dt_fdn {P : Nat → Prop} {d i : Nat} (h : ¬ P i) : dt_fd P (d + 1) i = dt_fd P d (i + 1) := by rw [dt_fd]; exact if_neg h
theorem dt_fds {P : Nat → Prop} : ∀ (d i : Nat) {e : Nat}, dt_fd P d i = some e → i ≤ e ∧ e < i + d ∧ P e := by
  intro d
  induction d with
  | zero => intro i e h; exact nomatch h
  | succ d ih =>
    intro i e h
    by_cases hp : P i
    · rw [dt_fdy hp] at h
      cases h
      exact ⟨Nat.le_refl _, by omega, hp⟩
    · rw [dt_fdn hp] at h
      obtain ⟨a, b, c⟩ := ih (i + 1) h
      exact ⟨by omega, by omega, c⟩
theorem dt_fdz {P : Nat → Prop} : ∀ (d i : Nat), dt_fd P d i = none → ∀ e, i ≤ e → e < i + d → ¬ P e := by
  intro d
  induction d with
  | zero => intro i _ e h1 h2; omega
  | succ d ih =>
    intro i h e h1 h2
    by_cases hp : P i
    · rw [dt_fdy hp] at h
      exact nomatch h
    · rw [dt_fdn hp] at h
      by_cases he : e = i
      · rw [he]; exact hp
      · exact ih (i + 1) h e (by omega) (by omega)
theorem dt_fdc {P Q : Nat → Prop} : ∀ (d i : Nat), (∀ e, i ≤ e → e < i + d → (P e ↔ Q e)) → dt_fd P d i = dt_fd Q d i := by
  intro d
  induction d with
  | zero => intro i _; rfl
  | succ d ih =>
    intro i h
    have h0 := h i (Nat.le_refl _) (by omega)
    by_cases hp : P i
    · rw [dt_fdy hp, dt_fdy (h0.mp hp)]
    · rw [dt_fdn hp, dt_fdn (fun z => hp (h0.mpr z))]
      exact ih (i + 1) (fun e a b => h e (by omega) (by omega))
def dt_o (d : Int32) : Option Nat → Int32
  | none => d
  | some e => nI e
/-! counts -/
noncomputable def dt_1 (c : Prop) : Nat := @ite Nat c (Classical.propDecidable c) 1 0
theorem dt_11 {c : Prop} (h : c) : dt_1 c = 1 := by unfold dt_1; exact if_pos h
theorem dt_1z {c : Prop} (h : ¬ c) : dt_1 c = 0 := by unfold dt_1; exact if_neg h
theorem dt_1c {c d : Prop} (h : c ↔ d) : dt_1 c = dt_1 d := by
  by_cases hc : c
  · rw [dt_11 hc, dt_11 (h.mp hc)]
  · rw [dt_1z hc, dt_1z (fun z => hc (h.mpr z))]
noncomputable def dt_cn (P : Nat → Prop) : Nat → Nat
  | 0 => 0
  | n + 1 => dt_cn P n + dt_1 (P n)
theorem dt_cnc {P Q : Nat → Prop} : ∀ n, (∀ i, i < n → (P i ↔ Q i)) → dt_cn P n = dt_cn Q n := by
  intro n
  induction n with
  | zero => intro _; rfl
  | succ n ih => intro h; rw [dt_cn, dt_cn, ih (fun i hi => h i (by omega)), dt_1c (h n (by omega))]
theorem dt_cn_le (P : Nat → Prop) : ∀ n, dt_cn P n ≤ n := by
  intro n
  induction n with
  | zero => exact Nat.le_refl _
  | succ n ih =>
    rw [dt_cn]
    by_cases h : P n
    · rw [dt_11 h]; omega
    · rw [dt_1z h]; omega
theorem dt_cn0 {P : Nat → Prop} : ∀ n, (∀ i, i < n → ¬ P i) → dt_cn P n = 0 := by
  intro n
  induction n with
  | zero => intro _; rfl
  | succ n ih => intro h; rw [dt_cn, ih (fun i hi => h i (by omega)), dt_1z (h n (by omega))]
theorem dt_cn_rm {P : Nat → Prop} {x : Nat} (hx : P x) : ∀ n, x < n → dt_cn P n = dt_cn (fun y => P y ∧ y ≠ x) n + 1 := by
  intro n
  induction n with
  | zero => intro h; omega
  | succ n ih =>
    intro h
    rw [dt_cn, dt_cn]
    by_cases e : x = n
    · subst e
      rw [dt_11 hx, dt_1z (c := P x ∧ x ≠ x) (fun z => z.2 rfl), dt_cnc (Q := fun y => P y ∧ y ≠ x) x (fun i hi => ⟨fun p => ⟨p, by omega⟩, fun p => p.1⟩)]
    · rw [ih (by omega), dt_1c (d := P n ∧ n ≠ x) ⟨fun p => ⟨p, fun z => e z.symm⟩, fun p => p.1⟩]
      omega
theorem dt_cn_rl {P : Nat → Prop} {x : Nat} : ∀ n, dt_cn P n ≤ dt_cn (fun y => P y ∧ y ≠ x) n + 1 := by
  intro n
  by_cases hx : P x
  · by_cases h : x < n
    · exact Nat.le_of_eq (dt_cn_rm hx n h)
    · rw [dt_cnc (Q := fun y => P y ∧ y ≠ x) n (fun i hi => ⟨fun p => ⟨p, by omega⟩, fun p => p.1⟩)]
      omega
  · rw [dt_cnc (Q := fun y => P y ∧ y ≠ x) n (fun i hi => ⟨fun p => ⟨p, fun z => hx (z ▸ p)⟩, fun p => p.1⟩)]
    omega
theorem dt_len_le {N : Nat} : ∀ (l : List Nat) (P : Nat → Prop), l.Nodup → (∀ x, x ∈ l → x < N ∧ P x) → l.length ≤ dt_cn P N := by
  intro l
  induction l with
  | nil => intro P _ _; exact Nat.zero_le _
  | cons x t ih =>
    intro P hn h
    have hx := h x (List.mem_cons_self ..)
    rw [dt_cn_rm hx.2 N hx.1, List.length_cons]
    rw [List.nodup_cons] at hn
    have := ih (fun y => P y ∧ y ≠ x) hn.2 (fun y hy => ⟨(h y (List.mem_cons_of_mem _ hy)).1, (h y (List.mem_cons_of_mem _ hy)).2, fun z => hn.1 (z ▸ hy)⟩)
    omega
theorem dt_len_ge {N : Nat} : ∀ (l : List Nat) (P : Nat → Prop), (∀ x, x < N → P x → x ∈ l) → dt_cn P N ≤ l.length := by
  intro l
  induction l with
  | nil => intro P h; rw [dt_cn0 N (fun i hi hp => nomatch h i hi hp)]; exact Nat.zero_le _
  | cons x t ih =>
    intro P h
    have := ih (fun y => P y ∧ y ≠ x) (fun y hy hp => by
      rcases List.mem_cons.mp (h y hy hp.1) with e | e
      · exact absurd e hp.2
      · exact e)
    have := dt_cn_rl (P := P) (x := x) N
    rw [List.length_cons]
    omega
/-! the climb -/
def dt_it (pa : Nat → Int32) : Nat → Int32 → Int32
  | 0, x => x
  | i + 1, x => dt_it pa i (pa x.toNatClampNeg)
def dt_Sub (pa : Nat → Int32) (top x : Int32) : Prop := ∃ i, dt_it pa i x = top
def dt_Up (pa : Nat → Int32) : Nat → Int32 → Prop
  | 0, x => x = -1
  | k + 1, x => ∃ j : Nat, j < 24 ∧ x = nI j ∧ dt_Up pa k (pa j)
theorem dt_it_m1 {pa : Nat → Int32} (h : pa 0 = -1) : ∀ i, dt_it pa i (-1) = -1 := by
  intro i
  induction i with
  | zero => rfl
  | succ i ih => rw [dt_it, show (-1 : Int32).toNatClampNeg = 0 from by decide, h]; exact ih
theorem dt_sub_m1 {pa : Nat → Int32} {top : Int32} (h : pa 0 = -1) (ht : ¬ top = -1) : ¬ dt_Sub pa top (-1) := by
  rintro ⟨i, e⟩
  rw [dt_it_m1 h] at e
  exact ht e.symm
theorem dt_sub_s {pa : Nat → Int32} {top : Int32} {j : Nat} (hj : j < 2 ^ 31) : dt_Sub pa top (nI j) ↔ (nI j = top ∨ dt_Sub pa top (pa j)) := by
  constructor
  · rintro ⟨i, e⟩
    cases i with
    | zero => exact Or.inl e
    | succ i => rw [dt_it, nI_clamp hj] at e; exact Or.inr ⟨i, e⟩
  · rintro (e | ⟨i, e⟩)
    · exact ⟨0, e⟩
    · exact ⟨i + 1, by rw [dt_it, nI_clamp hj]; exact e⟩
