section
/-! rows pasted from the kit -/
theorem pk_us {f : Nat → Int32} {k : Nat} {x : Int32} : upd f k x k = x := if_pos rfl
theorem pk_un {f : Nat → Int32} {k j : Nat} {x : Int32} (h : j ≠ k) : upd f k x j = f j := if_neg h
theorem pk_sub {a b : Nat} (h : b ≤ a) : nI a - nI b = nI (a - b) := by
  obtain ⟨c, rfl⟩ : ∃ c, a = c + b := ⟨a - b, by omega⟩
  rw [← nI_add, Int32.add_sub_cancel, Nat.add_sub_cancel]
theorem pk_m1 (n : Nat) : nI (n + 1) + (-1) = nI n := by
  rw [← nI_1, Int32.add_assoc, show (1 : Int32) + (-1) = 0 from rfl, Int32.add_zero]
theorem pk_mul (a b : Nat) : nI a * nI b = nI (a * b) := (Int32.ofNat_mul a b).symm
theorem pk_div {a d : Nat} (ha : a < 2 ^ 31) (h0 : 0 < d) (hd : d < 2 ^ 31) : nI a / nI d = nI (a / d) := by
  apply Int32.toInt_inj.mp
  rw [lg_idiv_nonneg (by rw [nI_toInt ha]; omega) (by rw [nI_toInt hd]; omega), nI_toInt ha, nI_toInt hd, nI_toInt (Nat.lt_of_le_of_lt (Nat.div_le_self a d) ha)]
  first | rfl | exact (Int.natCast_ediv _ _).symm
theorem pk_rem {a d : Nat} (ha : a < 2 ^ 31) (h0 : 0 < d) (hd : d < 2 ^ 31) : nI a - nI a / nI d * nI d = nI (a % d) := by
  rw [pk_div ha h0 hd, pk_mul, pk_sub (Nat.div_mul_le_self a d)]
  exact congrArg nI (by have := Nat.div_add_mod' a d; omega)
theorem pk_ix (x : Int32) {n : Nat} (hn : n < 2 ^ 31) : x < 0 ∨ nI n ≤ x ∨ ∃ j : Nat, j < n ∧ x = nI j := by
  by_cases h : x < 0
  · exact Or.inl h
  · obtain ⟨j, hj, rfl⟩ := nI_of h
    by_cases h2 : j < n
    · exact Or.inr (Or.inr ⟨j, h2, rfl⟩)
    · exact Or.inr (Or.inl (nI_le (by omega) hj))
theorem pk_le {x y : Int32} {A B : Prop} (a b : Nat) (f : a ≤ b → A) (g : b < a → B) (hx : x = nI a := by rfl) (hy : y = nI b := by rfl) (ha : a < 2 ^ 31 := by omega) (hb : b < 2 ^ 31 := by omega) : (x ≤ y → A) ∧ (¬ x ≤ y → B) := by
  subst hx hy
  rw [nI_leI ha hb]
  exact ⟨f, fun z => g (by omega)⟩
theorem pk_lt {x y : Int32} {A B : Prop} (a b : Nat) (f : a < b → A) (g : b ≤ a → B) (hx : x = nI a := by rfl) (hy : y = nI b := by rfl) (ha : a < 2 ^ 31 := by omega) (hb : b < 2 ^ 31 := by omega) : (x < y → A) ∧ (¬ x < y → B) := by
  subst hx hy
  rw [nI_ltI ha hb]
  exact ⟨f, fun z => g (by omega)⟩
theorem pk_eq {x y : Int32} {A B : Prop} (a b : Nat) (f : a = b → A) (g : a ≠ b → B) (hx : x = nI a := by rfl) (hy : y = nI b := by rfl) (ha : a < 2 ^ 31 := by omega) (hb : b < 2 ^ 31 := by omega) : (x = y → A) ∧ (¬ x = y → B) := by
  subst hx hy
  rw [nI_eq ha hb]
  exact ⟨f, g⟩
theorem pk_in {x : Int32} (n N : Nat) (h : n < N) (hx : x = nI n := by rfl) (hN : N < 2 ^ 31 := by omega) : vp_in x N := by
  subst hx
  exact vp_in_nI h hN
theorem pk_cl {x : Int32} (n : Nat) (hx : x = nI n := by rfl) (h : n < 2 ^ 31 := by omega) : x.toNatClampNeg = n := by
  subst hx
  exact nI_clamp h
theorem pk_tn {n : Nat} (h : n < 2 ^ 32) : (nI n).toBitVec.toNat = n := Nat.mod_eq_of_lt h
theorem pk_and (x : Int32) {m : Int32} (k : Nat) (hm : m.toBitVec.toNat = 2 ^ k - 1) : x &&& m = nI (x.toBitVec.toNat % 2 ^ k) := by
  apply Int32.toBitVec_inj.mp
  apply BitVec.eq_of_toNat_eq
  rw [Int32.toBitVec_and, BitVec.toNat_and, hm, Nat.and_two_pow_sub_one_eq_mod]
  show _ = (BitVec.ofNat 32 _).toNat
  rw [BitVec.toNat_ofNat]
  exact (Nat.mod_eq_of_lt (Nat.lt_of_le_of_lt (Nat.mod_le _ _) x.toBitVec.isLt)).symm
theorem pk_andN {n : Nat} (h : n < 2 ^ 32) {m : Int32} (k : Nat) (hm : m.toBitVec.toNat = 2 ^ k - 1) : nI n &&& m = nI (n % 2 ^ k) := by
  rw [pk_and _ k hm, pk_tn h]
theorem pk_shl (a s : Int32) (k : Nat) (hs : (s.toBitVec.smod 32).toNat = k) : (a <<< s).toBitVec.toNat = a.toBitVec.toNat * 2 ^ k % 2 ^ 32 := by
  show (a.toBitVec <<< (s.toBitVec.smod 32).toNat).toNat = _
  rw [hs, BitVec.toNat_shiftLeft, Nat.shiftLeft_eq]
theorem pk_shlN {n : Nat} (s : Int32) (k : Nat) (hs : (s.toBitVec.smod 32).toNat = k) (h : n * 2 ^ k < 2 ^ 32) : nI n <<< s = nI (n * 2 ^ k) := by
  apply Int32.toBitVec_inj.mp
  apply BitVec.eq_of_toNat_eq
  have hn : n < 2 ^ 32 := Nat.lt_of_le_of_lt (Nat.le_mul_of_pos_right n (Nat.two_pow_pos k)) h
  rw [pk_shl _ _ k hs, pk_tn hn, pk_tn h, Nat.mod_eq_of_lt h]
theorem pk_shr (a s : Int32) (k : Nat) (hs : (s.toBitVec.smod 32).toNat = k) : (a >>> s).toInt = a.toInt >>> k := by
  show (a.toBitVec.sshiftRight (s.toBitVec.smod 32).toNat).toInt = _
  rw [hs, BitVec.toInt_sshiftRight]
  rfl
theorem pk_shrN {n : Nat} (h : n < 2 ^ 31) (s : Int32) (k : Nat) (hs : (s.toBitVec.smod 32).toNat = k) : nI n >>> s = nI (n / 2 ^ k) := by
  apply Int32.toInt_inj.mp
  have h2 : n / 2 ^ k ≤ n := Nat.div_le_self _ _
  rw [pk_shr _ _ k hs, nI_toInt h, nI_toInt (by omega), Int.shiftRight_eq_div_pow]
  rfl
def bt (x : Int32) (i : Nat) : Bool := x.toBitVec.getLsbD i
theorem b_ext {x y : Int32} (h : ∀ i, i < 32 → bt x i = bt y i) : x = y := Int32.toBitVec_inj.mp (BitVec.eq_of_getLsbD_eq (fun i hi => h i hi))
theorem b_or (x y : Int32) (i : Nat) : bt (x ||| y) i = (bt x i || bt y i) := by unfold bt; rw [Int32.toBitVec_or, BitVec.getLsbD_or]
theorem b_and (x y : Int32) (i : Nat) : bt (x &&& y) i = (bt x i && bt y i) := by unfold bt; rw [Int32.toBitVec_and, BitVec.getLsbD_and]
theorem b_big {x : Int32} {i : Nat} (h : 32 ≤ i) : bt x i = false := BitVec.getLsbD_of_ge _ _ h
theorem b_0 (i : Nat) : bt 0 i = false := BitVec.getLsbD_zero
theorem s_l : ∀ n, n < 32 → ((nI n &&& 31).toBitVec.smod 32).toNat = n := by decide +kernel
theorem b_shl (n : Nat) (hn : n < 32) (x : Int32) {i : Nat} (hi : i < 32) : bt (x <<< (nI n &&& 31)) i = (decide (n ≤ i) && bt x (i - n)) := by
  unfold bt
  rw [Int32.toBitVec_shiftLeft]
  show (x.toBitVec <<< ((nI n &&& 31).toBitVec.smod 32).toNat).getLsbD i = _
  rw [s_l n hn, BitVec.getLsbD_shiftLeft]
  rcases Nat.lt_or_ge i n with h | h
  · simp [h, Nat.not_le.mpr h]
  · simp [hi, h, Nat.not_lt.mpr h]
theorem b_sshr (n : Nat) (hn : n < 32) (x : Int32) {i : Nat} (hi : i < 32) : bt (x >>> (nI n &&& 31)) i = if n + i < 32 then bt x (n + i) else bt x 31 := by
  unfold bt
  rw [Int32.toBitVec_shiftRight]
  show (x.toBitVec.sshiftRight ((nI n &&& 31).toBitVec.smod 32).toNat).getLsbD i = _
  rw [s_l n hn, BitVec.getLsbD_sshiftRight, BitVec.msb_eq_getLsbD_last]
  simp [hi]
end
section
/-! truth values, searches, counts, the climb, the order of the tree: no printed predicate -/
noncomputable def dt_b (c : Prop) : Int32 := @ite Int32 c (Classical.propDecidable c) 1 0
theorem dt_b1 {c : Prop} (h : c) : dt_b c = 1 := by unfold dt_b; exact if_pos h
theorem dt_b0 {c : Prop} (h : ¬ c) : dt_b c = 0 := by unfold dt_b; exact if_neg h
theorem dt_bc {c d : Prop} (h : c ↔ d) : dt_b c = dt_b d := by
  by_cases hc : c
  · rw [dt_b1 hc, dt_b1 (h.mp hc)]
  · rw [dt_b0 hc, dt_b0 (fun z => hc (h.mpr z))]
theorem dt_b01 (c : Prop) : dt_b c = 0 ∨ dt_b c = 1 := by
  by_cases hc : c
  · exact Or.inr (dt_b1 hc)
  · exact Or.inl (dt_b0 hc)
theorem dt_bn (c : Prop) : narrow .boolean (.int (dt_b c)) = .int (dt_b c) := by
  rcases dt_b01 c with h | h <;> rw [h] <;> rfl
theorem dt_10 : ¬ (1 : Int32) = 0 := by decide
theorem dt_01 : ¬ (0 : Int32) = 1 := by decide
theorem dt_tru {A B : Prop} {c : Prop} (h : c) (b : B) : (dt_b c = 0 → A) ∧ (¬ dt_b c = 0 → B) := by
  rw [dt_b1 h]; exact br_f dt_10 b
theorem dt_fls {A B : Prop} {c : Prop} (h : ¬ c) (a : A) : (dt_b c = 0 → A) ∧ (¬ dt_b c = 0 → B) := by
  rw [dt_b0 h]; exact br_t rfl a
theorem dt_m1 {j : Nat} (h : j < 2 ^ 31) : ¬ nI j = -1 := by
  intro z
  have e : (nI j).toInt = (-1 : Int32).toInt := by rw [z]
  rw [nI_toInt h, show (-1 : Int32).toInt = -1 from by decide] at e
  omega
theorem dt_nn {j : Nat} (h : j < 2 ^ 31) : ¬ nI j < 0 := nI_pos h
theorem dt_ge {x : Int32} {a b : Nat} (h : nI a ≤ x) (hb : b < a) (ha : a < 2 ^ 31) : ¬ x ≤ nI b := by
  rw [Int32.le_iff_toInt_le, nI_toInt ha] at h
  rw [Int32.le_iff_toInt_le, nI_toInt (by omega)]
  omega
theorem dt_gt {x : Int32} {a b : Nat} (h : nI a ≤ x) (hb : b < a) (ha : a < 2 ^ 31) : nI b < x := by
  rw [Int32.le_iff_toInt_le, nI_toInt ha] at h
  rw [Int32.lt_iff_toInt_lt, nI_toInt (by omega)]
  omega
theorem dt_ge0 {x : Int32} {a : Nat} (h : nI a ≤ x) (ha : a < 2 ^ 31) : ¬ x < 0 := by
  rw [Int32.le_iff_toInt_le, nI_toInt ha] at h
  rw [Int32.lt_iff_toInt_lt, show (0 : Int32).toInt = 0 from by decide]
  omega
theorem dt_neq {x : Int32} {j : Nat} (h : x < 0) (hj : j < 2 ^ 31) : ¬ x = nI j := by
  intro z
  rw [z] at h
  exact nI_pos hj h
/-- the first i of d numbers that P holds of -/
noncomputable def dt_fd (P : Nat → Prop) : Nat → Nat → Option Nat
  | 0, _ => none
  | d + 1, i => @ite (Option Nat) (P i) (Classical.propDecidable (P i)) (some i) (dt_fd P d (i + 1))
theorem dt_fdy {P : Nat → Prop} {d i : Nat} (h : P i) : dt_fd P (d + 1) i = some i := by rw [dt_fd]; exact if_pos h
theorem dt_fdn {P : Nat → Prop} {d i : Nat} (h : ¬ P i) : dt_fd P (d + 1) i = dt_fd P d (i + 1) := by rw [dt_fd]; exact if_neg h
theorem dt_fds {P : Nat → Prop} : ∀ (d i : Nat) {e : Nat}, dt_fd P d i = some e → i ≤ e ∧ e < i + d ∧ P e := by
  intro d
  induction d with
  | zero => intro i e h; exact nomatch h
  | succ d ih =>
    intro i e h
    by_cases hp : P i
    · rw [dt_fdy hp] at h
      cases h
      exact ⟨Nat.le_refl _, by omega, hp⟩
    · rw [dt_fdn hp] at h
      obtain ⟨a, b, c⟩ := ih (i + 1) h
      exact ⟨by omega, by omega, c⟩
theorem dt_fdz {P : Nat → Prop} : ∀ (d i : Nat), dt_fd P d i = none → ∀ e, i ≤ e → e < i + d → ¬ P e := by
  intro d
  induction d with
  | zero => intro i _ e h1 h2; omega
  | succ d ih =>
    intro i h e h1 h2
    by_cases hp : P i
    · rw [dt_fdy hp] at h
      exact nomatch h
    · rw [dt_fdn hp] at h
      by_cases he : e = i
      · rw [he]; exact hp
      · exact ih (i + 1) h e (by omega) (by omega)
theorem dt_fdc {P Q : Nat → Prop} : ∀ (d i : Nat), (∀ e, i ≤ e → e < i + d → (P e ↔ Q e)) → dt_fd P d i = dt_fd Q d i := by
  intro d
  induction d with
  | zero => intro i _; rfl
  | succ d ih =>
    intro i h
    have h0 := h i (Nat.le_refl _) (by omega)
    by_cases hp : P i
    · rw [dt_fdy hp, dt_fdy (h0.mp hp)]
    · rw [dt_fdn hp, dt_fdn (fun z => hp (h0.mpr z))]
      exact ih (i + 1) (fun e a b => h e (by omega) (by omega))
def dt_o (d : Int32) : Option Nat → Int32
  | none => d
  | some e => nI e
/-! counts -/
noncomputable def dt_1 (c : Prop) : Nat := @ite Nat c (Classical.propDecidable c) 1 0
theorem dt_11 {c : Prop} (h : c) : dt_1 c = 1 := by unfold dt_1; exact if_pos h
theorem dt_1z {c : Prop} (h : ¬ c) : dt_1 c = 0 := by unfold dt_1; exact if_neg h
theorem dt_1c {c d : Prop} (h : c ↔ d) : dt_1 c = dt_1 d := by
  by_cases hc : c
  · rw [dt_11 hc, dt_11 (h.mp hc)]
  · rw [dt_1z hc, dt_1z (fun z => hc (h.mpr z))]
noncomputable def dt_cn (P : Nat → Prop) : Nat → Nat
  | 0 => 0
  | n + 1 => dt_cn P n + dt_1 (P n)
theorem dt_cnc {P Q : Nat → Prop} : ∀ n, (∀ i, i < n → (P i ↔ Q i)) → dt_cn P n = dt_cn Q n := by
  intro n
  induction n with
  | zero => intro _; rfl
  | succ n ih => intro h; rw [dt_cn, dt_cn, ih (fun i hi => h i (by omega)), dt_1c (h n (by omega))]
theorem dt_cn_le (P : Nat → Prop) : ∀ n, dt_cn P n ≤ n := by
  intro n
  induction n with
  | zero => exact Nat.le_refl _
  | succ n ih =>
    rw [dt_cn]
    by_cases h : P n
    · rw [dt_11 h]; omega
    · rw [dt_1z h]; omega
theorem dt_cn0 {P : Nat → Prop} : ∀ n, (∀ i, i < n → ¬ P i) → dt_cn P n = 0 := by
  intro n
  induction n with
  | zero => intro _; rfl
  | succ n ih => intro h; rw [dt_cn, ih (fun i hi => h i (by omega)), dt_1z (h n (by omega))]
theorem dt_cn_rm {P : Nat → Prop} {x : Nat} (hx : P x) : ∀ n, x < n → dt_cn P n = dt_cn (fun y => P y ∧ y ≠ x) n + 1 := by
  intro n
  induction n with
  | zero => intro h; omega
  | succ n ih =>
    intro h
    rw [dt_cn, dt_cn]
    by_cases e : x = n
    · subst e
      rw [dt_11 hx, dt_1z (c := P x ∧ x ≠ x) (fun z => z.2 rfl), dt_cnc (Q := fun y => P y ∧ y ≠ x) x (fun i hi => ⟨fun p => ⟨p, by omega⟩, fun p => p.1⟩)]
    · rw [ih (by omega), dt_1c (d := P n ∧ n ≠ x) ⟨fun p => ⟨p, fun z => e z.symm⟩, fun p => p.1⟩]
      omega
theorem dt_cn_rl {P : Nat → Prop} {x : Nat} : ∀ n, dt_cn P n ≤ dt_cn (fun y => P y ∧ y ≠ x) n + 1 := by
  intro n
  by_cases hx : P x
  · by_cases h : x < n
    · exact Nat.le_of_eq (dt_cn_rm hx n h)
    · rw [dt_cnc (Q := fun y => P y ∧ y ≠ x) n (fun i hi => ⟨fun p => ⟨p, by omega⟩, fun p => p.1⟩)]
      omega
  · rw [dt_cnc (Q := fun y => P y ∧ y ≠ x) n (fun i hi => ⟨fun p => ⟨p, fun z => hx (z ▸ p)⟩, fun p => p.1⟩)]
    omega
theorem dt_len_le {N : Nat} : ∀ (l : List Nat) (P : Nat → Prop), l.Nodup → (∀ x, x ∈ l → x < N ∧ P x) → l.length ≤ dt_cn P N := by
  intro l
  induction l with
  | nil => intro P _ _; exact Nat.zero_le _
  | cons x t ih =>
    intro P hn h
    have hx := h x (List.mem_cons_self ..)
    rw [dt_cn_rm hx.2 N hx.1, List.length_cons]
    rw [List.nodup_cons] at hn
    have := ih (fun y => P y ∧ y ≠ x) hn.2 (fun y hy => ⟨(h y (List.mem_cons_of_mem _ hy)).1, (h y (List.mem_cons_of_mem _ hy)).2, fun z => hn.1 (z ▸ hy)⟩)
    omega
theorem dt_len_ge {N : Nat} : ∀ (l : List Nat) (P : Nat → Prop), (∀ x, x < N → P x → x ∈ l) → dt_cn P N ≤ l.length := by
  intro l
  induction l with
  | nil => intro P h; rw [dt_cn0 N (fun i hi hp => nomatch h i hi hp)]; exact Nat.zero_le _
  | cons x t ih =>
    intro P h
    have := ih (fun y => P y ∧ y ≠ x) (fun y hy hp => by
      rcases List.mem_cons.mp (h y hy hp.1) with e | e
      · exact absurd e hp.2
      · exact e)
    have := dt_cn_rl (P := P) (x := x) N
    rw [List.length_cons]
    omega
/-! the climb -/
def dt_it (pa : Nat → Int32) : Nat → Int32 → Int32
  | 0, x => x
  | i + 1, x => dt_it pa i (pa x.toNatClampNeg)
def dt_Sub (pa : Nat → Int32) (top x : Int32) : Prop := ∃ i, dt_it pa i x = top
def dt_Up (pa : Nat → Int32) : Nat → Int32 → Prop
  | 0, x => x = -1
  | k + 1, x => ∃ j : Nat, j < 24 ∧ x = nI j ∧ dt_Up pa k (pa j)
theorem dt_it_m1 {pa : Nat → Int32} (h : pa 0 = -1) : ∀ i, dt_it pa i (-1) = -1 := by
  intro i
  induction i with
  | zero => rfl
  | succ i ih => rw [dt_it, show (-1 : Int32).toNatClampNeg = 0 from by decide, h]; exact ih
theorem dt_sub_m1 {pa : Nat → Int32} {top : Int32} (h : pa 0 = -1) (ht : ¬ top = -1) : ¬ dt_Sub pa top (-1) := by
  rintro ⟨i, e⟩
  rw [dt_it_m1 h] at e
  exact ht e.symm
theorem dt_sub_s {pa : Nat → Int32} {top : Int32} {j : Nat} (hj : j < 2 ^ 31) : dt_Sub pa top (nI j) ↔ (nI j = top ∨ dt_Sub pa top (pa j)) := by
  constructor
  · rintro ⟨i, e⟩
    cases i with
    | zero => exact Or.inl e
    | succ i => rw [dt_it, nI_clamp hj] at e; exact Or.inr ⟨i, e⟩
  · rintro (e | ⟨i, e⟩)
    · exact ⟨0, e⟩
    · exact ⟨i + 1, by rw [dt_it, nI_clamp hj]; exact e⟩
end
section
/-! the tree and its order -/
noncomputable def dt_nm (tk pa na : Nat → Int32) (p m : Int32) : Option Nat := dt_fd (fun e => tk e ≠ 0 ∧ pa e = p ∧ na e = m) 23 1
def dt_T0 (tk pa na : Nat → Int32) : Prop :=
  (tk 0 ≠ 0 ∧ pa 0 = -1) ∧
  (∀ e, 0 < e → e < 24 → tk e ≠ 0 → (∃ p : Nat, p < 24 ∧ tk p ≠ 0 ∧ pa e = nI p) ∧ (∃ m : Nat, m < 10 ∧ na e = nI m)) ∧
  (∀ e e', 0 < e → e < 24 → 0 < e' → e' < 24 → tk e ≠ 0 → tk e' ≠ 0 → pa e = pa e' → na e = na e' → e = e') ∧
  (∀ e, e < 24 → tk e ≠ 0 → ∃ k, dt_Up pa k (nI e))
/-- the children of e with the last d names, the least name first -/
noncomputable def dt_kf (tk pa na : Nat → Int32) (e : Nat) : Nat → List Nat
  | 0 => []
  | d + 1 => match dt_nm tk pa na (nI e) (nI (9 - d)) with
    | none => dt_kf tk pa na e d
    | some c => c :: dt_kf tk pa na e d
theorem dt_kf_n {tk pa na : Nat → Int32} {e d : Nat} (h : dt_nm tk pa na (nI e) (nI (9 - d)) = none) : dt_kf tk pa na e (d + 1) = dt_kf tk pa na e d := by rw [dt_kf, h]
theorem dt_kf_s {tk pa na : Nat → Int32} {e d c : Nat} (h : dt_nm tk pa na (nI e) (nI (9 - d)) = some c) : dt_kf tk pa na e (d + 1) = c :: dt_kf tk pa na e d := by rw [dt_kf, h]
theorem dt_kf_len {tk pa na : Nat → Int32} {e : Nat} : ∀ d d', d ≤ d' → (dt_kf tk pa na e d).length ≤ (dt_kf tk pa na e d').length := by
  intro d d' h
  induction d' with
  | zero => rw [show d = 0 by omega]; exact Nat.le_refl _
  | succ d' ih =>
    by_cases e1 : d = d' + 1
    · rw [e1]; exact Nat.le_refl _
    · have := ih (by omega)
      rcases hc : dt_nm tk pa na (nI e) (nI (9 - d')) with _ | c
      · rw [dt_kf_n hc]; exact this
      · rw [dt_kf_s hc, List.length_cons]; omega
theorem dt_nm_s {tk pa na : Nat → Int32} {p m : Int32} {c : Nat} (h : dt_nm tk pa na p m = some c) : 0 < c ∧ c < 24 ∧ tk c ≠ 0 ∧ pa c = p ∧ na c = m := by
  obtain ⟨a, b, c, d, e⟩ := dt_fds 23 1 h
  exact ⟨by omega, by omega, c, d, e⟩
theorem dt_kf_mem {tk pa na : Nat → Int32} {e : Nat} : ∀ d c, d ≤ 10 → c ∈ dt_kf tk pa na e d → 0 < c ∧ c < 24 ∧ tk c ≠ 0 ∧ pa c = nI e ∧ ∃ m : Nat, 10 - d ≤ m ∧ m < 10 ∧ na c = nI m := by
  intro d
  induction d with
  | zero => intro c _ h; exact nomatch h
  | succ d ih =>
    intro c hd h
    rcases hc : dt_nm tk pa na (nI e) (nI (9 - d)) with _ | x
    · rw [dt_kf_n hc] at h
      obtain ⟨a1, a2, a3, a4, m, m1, m2, m3⟩ := ih c (by omega) h
      exact ⟨a1, a2, a3, a4, m, by omega, m2, m3⟩
    · rw [dt_kf_s hc] at h
      rcases List.mem_cons.mp h with z | z
      · subst z
        obtain ⟨a1, a2, a3, a4, a5⟩ := dt_nm_s hc
        exact ⟨a1, a2, a3, a4, 9 - d, by omega, by omega, a5⟩
      · obtain ⟨a1, a2, a3, a4, m, m1, m2, m3⟩ := ih c (by omega) z
        exact ⟨a1, a2, a3, a4, m, by omega, m2, m3⟩
theorem dt_kf_nd {tk pa na : Nat → Int32} {e : Nat} : ∀ d, d ≤ 10 → (dt_kf tk pa na e d).Nodup := by
  intro d
  induction d with
  | zero => intro _; exact List.nodup_nil
  | succ d ih =>
    intro hd
    rcases hc : dt_nm tk pa na (nI e) (nI (9 - d)) with _ | x
    · rw [dt_kf_n hc]; exact ih (by omega)
    · rw [dt_kf_s hc, List.nodup_cons]
      refine ⟨fun h => ?_, ih (by omega)⟩
      obtain ⟨_, _, _, _, m, m1, m2, m3⟩ := dt_kf_mem d x (by omega) h
      obtain ⟨_, _, _, _, a5⟩ := dt_nm_s hc
      rw [a5, nI_eq (by omega) (by omega)] at m3
      omega
theorem dt_kf_in {tk pa na : Nat → Int32} (T : dt_T0 tk pa na) {e c m : Nat} (h0 : 0 < c) (h1 : c < 24) (h2 : tk c ≠ 0) (h3 : pa c = nI e) (h4 : na c = nI m) (hm : m < 10) : ∀ d, d ≤ 10 → 10 - d ≤ m → c ∈ dt_kf tk pa na e d := by
  intro d
  induction d with
  | zero => intro _ h; omega
  | succ d ih =>
    intro hd hm1
    rcases hc : dt_nm tk pa na (nI e) (nI (9 - d)) with _ | x
    · rw [dt_kf_n hc]
      by_cases z : m = 9 - d
      · subst z
        exact absurd ⟨h2, h3, h4⟩ (dt_fdz 23 1 hc c (by omega) (by omega))
      · exact ih (by omega) (by omega)
    · rw [dt_kf_s hc]
      by_cases z : m = 9 - d
      · subst z
        obtain ⟨a1, a2, a3, a4, a5⟩ := dt_nm_s hc
        rw [T.2.2.1 c x h0 h1 a1 a2 h2 a3 (h3.trans a4.symm) (h4.trans a5.symm)]
        exact List.mem_cons_self ..
      · exact List.mem_cons_of_mem _ (ih (by omega) (by omega))
/-- processed entries (the last first), and those that wait (the next first), after n steps -/
noncomputable def dt_st (tk pa na : Nat → Int32) : Nat → List Nat × List Nat
  | 0 => ([], [0])
  | n + 1 => match dt_st tk pa na n with
    | (R, []) => (R, [])
    | (R, e :: K) => (e :: R, dt_kf tk pa na e 10 ++ K)
theorem dt_st_s {tk pa na : Nat → Int32} {n e : Nat} {R K : List Nat} (h : dt_st tk pa na n = (R, e :: K)) : dt_st tk pa na (n + 1) = (e :: R, dt_kf tk pa na e 10 ++ K) := by rw [dt_st, h]
noncomputable def dt_at (tk pa na : Nat → Int32) (n : Nat) : Nat := (dt_st tk pa na n).2.headD 0
theorem dt_at_s {tk pa na : Nat → Int32} {n e : Nat} {R K : List Nat} (h : dt_st tk pa na n = (R, e :: K)) : dt_at tk pa na n = e := by rw [dt_at, h]; rfl
def dt_good (pa : Nat → Int32) : List Nat → Prop
  | [] => True
  | e :: R => (e = 0 ∨ ∃ p, p ∈ R ∧ pa e = nI p) ∧ dt_good pa R
def dt_Inv (tk pa na : Nat → Int32) (R K : List Nat) : Prop :=
  (R ++ K).Nodup ∧ (∀ x, x ∈ R ++ K → x < 24 ∧ tk x ≠ 0) ∧ dt_good pa R ∧
  (∀ x, x ∈ K → x = 0 ∨ ∃ p, p ∈ R ∧ pa x = nI p) ∧
  (∀ p c, p ∈ R → 0 < c → c < 24 → tk c ≠ 0 → pa c = nI p → c ∈ R ++ K) ∧ 0 ∈ R ++ K
theorem dt_good_p {pa : Nat → Int32} : ∀ {R : List Nat}, dt_good pa R → ∀ x, x ∈ R → x = 0 ∨ ∃ p, p ∈ R ∧ pa x = nI p := by
  intro R
  induction R with
  | nil => intro _ x h; exact nomatch h
  | cons e R ih =>
    intro g x h
    rcases List.mem_cons.mp h with z | z
    · subst z
      rcases g.1 with q | ⟨p, p1, p2⟩
      · exact Or.inl q
      · exact Or.inr ⟨p, List.mem_cons_of_mem _ p1, p2⟩
    · rcases ih g.2 x z with q | ⟨p, p1, p2⟩
      · exact Or.inl q
      · exact Or.inr ⟨p, List.mem_cons_of_mem _ p1, p2⟩
theorem dt_inv_s {tk pa na : Nat → Int32} (T : dt_T0 tk pa na) {e : Nat} {R K : List Nat} (I : dt_Inv tk pa na R (e :: K)) : dt_Inv tk pa na (e :: R) (dt_kf tk pa na e 10 ++ K) := by
  obtain ⟨nd, tkn, gd, up, cl, z0⟩ := I
  have he := tkn e (by simp)
  have heR : e ∉ R := by
    intro h
    rw [List.nodup_append] at nd
    exact nd.2.2 e h e (List.mem_cons_self ..) rfl
  have new : ∀ c, c ∈ dt_kf tk pa na e 10 → c ∉ R ++ e :: K := by
    intro c hc hin
    obtain ⟨a1, a2, a3, a4, _⟩ := dt_kf_mem 10 c (Nat.le_refl _) hc
    have hp : c = 0 ∨ ∃ p, p ∈ R ∧ pa c = nI p := by
      rcases List.mem_append.mp hin with z | z
      · exact dt_good_p gd c z
      · exact up c z
    rcases hp with q | ⟨p, p1, p2⟩
    · omega
    · rw [a4] at p2
      have hp24 := (tkn p (List.mem_append.mpr (Or.inl p1))).1
      rw [nI_eq (by omega) (by omega)] at p2
      rw [p2] at heR
      exact heR p1
  refine ⟨?_, ?_, ⟨?_, gd⟩, ?_, ?_, ?_⟩
  · have kn := dt_kf_nd (tk := tk) (pa := pa) (na := na) (e := e) 10 (Nat.le_refl _)
    rw [List.nodup_append] at nd
    obtain ⟨n1, n2, n3⟩ := nd
    rw [List.nodup_cons] at n2
    rw [List.cons_append, List.nodup_cons, List.nodup_append, List.nodup_append]
    refine ⟨?_, n1, ⟨kn, n2.2, ?_⟩, ?_⟩
    · intro h
      rcases List.mem_append.mp h with z | z
      · exact heR z
      · rcases List.mem_append.mp z with y | y
        · exact new e y (by simp)
        · exact n2.1 y
    · intro a ha b hb hab
      subst hab
      exact new a ha (by simp [hb])
    · intro a ha b hb hab
      subst hab
      rcases List.mem_append.mp hb with y | y
      · exact new a y (by simp [ha])
      · exact n3 a ha a (List.mem_cons_of_mem _ y) rfl
  · intro x hx
    rw [List.cons_append] at hx
    rcases List.mem_cons.mp hx with z | z
    · subst z; exact he
    · rcases List.mem_append.mp z with y | y
      · exact tkn x (by simp [y])
      · rcases List.mem_append.mp y with w | w
        · obtain ⟨a1, a2, a3, _⟩ := dt_kf_mem 10 x (Nat.le_refl _) w
          exact ⟨a2, a3⟩
        · exact tkn x (by simp [w])
  · exact up e (List.mem_cons_self ..)
  · intro x hx
    rcases List.mem_append.mp hx with w | w
    · obtain ⟨a1, a2, a3, a4, _⟩ := dt_kf_mem 10 x (Nat.le_refl _) w
      exact Or.inr ⟨e, List.mem_cons_self .., a4⟩
    · rcases up x (List.mem_cons_of_mem _ w) with q | ⟨p, p1, p2⟩
      · exact Or.inl q
      · exact Or.inr ⟨p, List.mem_cons_of_mem _ p1, p2⟩
  · intro p c hp h0 h1 h2 h3
    rcases List.mem_cons.mp hp with z | z
    · subst z
      obtain ⟨_, m, hm, h4⟩ := T.2.1 c h0 h1 h2
      have := dt_kf_in T h0 h1 h2 h3 h4 hm 10 (Nat.le_refl _) (by omega)
      simp [this]
    · have := cl p c z h0 h1 h2 h3
      rcases List.mem_append.mp this with y | y
      · simp [y]
      · rcases List.mem_cons.mp y with w | w
        · simp [w]
        · simp [w]
  · rcases List.mem_append.mp z0 with y | y
    · simp [y]
    · rcases List.mem_cons.mp y with w | w
      · simp [w]
      · simp [w]
theorem dt_inv_st {tk pa na : Nat → Int32} (T : dt_T0 tk pa na) : ∀ n, dt_Inv tk pa na (dt_st tk pa na n).1 (dt_st tk pa na n).2 := by
  intro n
  induction n with
  | zero =>
    refine ⟨by simp [dt_st], ?_, trivial, ?_, ?_, by simp [dt_st]⟩
    · intro x hx
      simp [dt_st] at hx
      subst hx
      exact ⟨by omega, T.1.1⟩
    · intro x hx
      simp [dt_st] at hx
      exact Or.inl hx
    · intro p c hp
      simp [dt_st] at hp
  | succ n ih =>
    rcases h : dt_st tk pa na n with ⟨R, _ | ⟨e, K⟩⟩
    · rw [h] at ih
      rw [dt_st, h]
      exact ih
    · rw [h] at ih
      rw [dt_st_s h]
      exact dt_inv_s T ih
noncomputable def dt_ec (tk : Nat → Int32) : Nat := dt_cn (fun e => tk e ≠ 0) 24
theorem dt_inv_len {tk pa na : Nat → Int32} {R K : List Nat} (I : dt_Inv tk pa na R K) : R.length + K.length ≤ dt_ec tk := by
  have := dt_len_le (N := 24) (R ++ K) (fun e => tk e ≠ 0) I.1 I.2.1
  rw [List.length_append] at this
  exact this
theorem dt_inv_all {tk pa na : Nat → Int32} (T : dt_T0 tk pa na) {R : List Nat} (I : dt_Inv tk pa na R []) : ∀ k x, x < 24 → tk x ≠ 0 → dt_Up pa k (nI x) → x ∈ R := by
  intro k
  induction k with
  | zero => intro x hx _ h; exact absurd h (dt_m1 (by omega))
  | succ k ih =>
    intro x hx ht hu
    by_cases z : x = 0
    · subst z
      have := I.2.2.2.2.2
      rw [List.append_nil] at this
      exact this
    · obtain ⟨p, hp, hpt, hpe⟩ := (T.2.1 x (by omega) hx ht).1
      obtain ⟨j, hj, ej, hu2⟩ := hu
      rw [nI_eq (by omega) (by omega)] at ej
      subst ej
      rw [hpe] at hu2
      have := I.2.2.2.2.1 p x (ih p hp hpt hu2) (by omega) hx ht hpe
      rw [List.append_nil] at this
      exact this
theorem dt_inv_ge {tk pa na : Nat → Int32} (T : dt_T0 tk pa na) {R : List Nat} (I : dt_Inv tk pa na R []) : dt_ec tk ≤ R.length :=
  dt_len_ge (N := 24) R (fun e => tk e ≠ 0) (fun x hx ht => by
    obtain ⟨k, hk⟩ := T.2.2.2 x hx ht
    exact dt_inv_all T I k x hx ht hk)
theorem dt_st_len {tk pa na : Nat → Int32} (T : dt_T0 tk pa na) : ∀ n, n ≤ dt_ec tk → (dt_st tk pa na n).1.length = n := by
  intro n
  induction n with
  | zero => intro _; rfl
  | succ n ih =>
    intro hn
    have hl := ih (by omega)
    have I := dt_inv_st T n
    rcases h : dt_st tk pa na n with ⟨R, _ | ⟨e, K⟩⟩
    · rw [h] at I hl
      have := dt_inv_ge T I
      have : R.length = n := hl
      omega
    · rw [h] at hl
      rw [dt_st_s h]
      show R.length + 1 = n + 1
      rw [show R.length = n from hl]
theorem dt_st_lt {tk pa na : Nat → Int32} (T : dt_T0 tk pa na) {n : Nat} (hn : n < dt_ec tk) : ∃ R e K, dt_st tk pa na n = (R, e :: K) ∧ R.length = n ∧ n + 1 + K.length ≤ dt_ec tk ∧ n + 1 + (dt_kf tk pa na e 10 ++ K).length ≤ dt_ec tk ∧ e < 24 ∧ tk e ≠ 0 := by
  have hl := dt_st_len T n (by omega)
  have I := dt_inv_st T n
  have I2 := dt_inv_st T (n + 1)
  rcases h : dt_st tk pa na n with ⟨R, _ | ⟨e, K⟩⟩
  · rw [h] at I hl
    have := dt_inv_ge T I
    have : R.length = n := hl
    omega
  · rw [h] at I hl
    rw [dt_st_s h] at I2
    have hl : R.length = n := hl
    have l1 := dt_inv_len I
    have l2 := dt_inv_len I2
    simp only [List.length_cons] at l1 l2
    have := I.2.1 e (by simp)
    exact ⟨R, e, K, rfl, hl, by omega, by omega, this⟩
theorem dt_st_end {tk pa na : Nat → Int32} (T : dt_T0 tk pa na) : ∃ R, dt_st tk pa na (dt_ec tk) = (R, []) ∧ R.length = dt_ec tk ∧ dt_Inv tk pa na R [] := by
  have hl := dt_st_len T (dt_ec tk) (Nat.le_refl _)
  have I := dt_inv_st T (dt_ec tk)
  rcases h : dt_st tk pa na (dt_ec tk) with ⟨R, _ | ⟨e, K⟩⟩
  · rw [h] at I hl
    exact ⟨R, rfl, hl, I⟩
  · rw [h] at I hl
    have l1 := dt_inv_len I
    have hl : R.length = dt_ec tk := hl
    simp only [List.length_cons] at l1
    omega
theorem dt_ec_pos {tk pa na : Nat → Int32} (T : dt_T0 tk pa na) : 0 < dt_ec tk := by
  have := dt_len_le (N := 24) [0] (fun e => tk e ≠ 0) (by simp) (fun x hx => by simp at hx; subst hx; exact ⟨by omega, T.1.1⟩)
  exact this
theorem dt_ec_le (tk : Nat → Int32) : dt_ec tk ≤ 24 := dt_cn_le _ 24
theorem dt_good_up {pa : Nat → Int32} (h0 : pa 0 = -1) : ∀ R : List Nat, dt_good pa R → (∀ x, x ∈ R → x < 24) → ∀ x, x ∈ R → ∃ k, k ≤ R.length ∧ dt_Up pa k (nI x) := by
  intro R
  induction R with
  | nil => intro _ _ x h; exact nomatch h
  | cons e R ih =>
    intro g hb x hx
    have hb2 := fun y hy => hb y (List.mem_cons_of_mem e hy)
    rcases List.mem_cons.mp hx with z | z
    · subst z
      rcases g.1 with q | ⟨p, p1, p2⟩
      · subst q
        exact ⟨1, by simp, 0, by omega, rfl, h0⟩
      · obtain ⟨k, hk, hu⟩ := ih g.2 hb2 p p1
        exact ⟨k + 1, by rw [List.length_cons]; omega, x, hb x (List.mem_cons_self ..), rfl, by rw [p2]; exact hu⟩
    · obtain ⟨k, hk, hu⟩ := ih g.2 hb2 x z
      exact ⟨k, by rw [List.length_cons]; omega, hu⟩
theorem dt_up24 {tk pa na : Nat → Int32} (T : dt_T0 tk pa na) {x : Nat} (hx : x < 24) (ht : tk x ≠ 0) : ∃ k, k ≤ 24 ∧ dt_Up pa k (nI x) := by
  obtain ⟨R, hR, hl, I⟩ := dt_st_end T
  obtain ⟨k0, hk0⟩ := T.2.2.2 x hx ht
  obtain ⟨k, hk, hu⟩ := dt_good_up T.1.2 R I.2.2.1 (fun y hy => (I.2.1 y (by simp [hy])).1) x (dt_inv_all T I k0 x hx ht hk0)
  have := dt_ec_le tk
  exact ⟨k, by omega, hu⟩
/-- how many of the first n entries of the order -/
noncomputable def dt_hits (tk pa na : Nat → Int32) (Q : Nat → Prop) (n : Nat) : Nat := dt_cn (fun i => Q (dt_at tk pa na i)) n
noncomputable def dt_lc (Q : Nat → Prop) : List Nat → Nat
  | [] => 0
  | e :: R => dt_lc Q R + dt_1 (Q e)
theorem dt_hits_l {tk pa na : Nat → Int32} (T : dt_T0 tk pa na) (Q : Nat → Prop) : ∀ n, n ≤ dt_ec tk → dt_hits tk pa na Q n = dt_lc Q (dt_st tk pa na n).1 := by
  intro n
  induction n with
  | zero => intro _; rfl
  | succ n ih =>
    intro hn
    obtain ⟨R, e, K, h, _⟩ := dt_st_lt T (show n < dt_ec tk by omega)
    have := ih (by omega)
    rw [h] at this
    rw [dt_st_s h]
    show dt_hits tk pa na Q n + dt_1 (Q (dt_at tk pa na n)) = dt_lc Q R + dt_1 (Q e)
    rw [this, dt_at_s h]
theorem dt_lc_cn {N : Nat} (Q : Nat → Prop) : ∀ (l : List Nat) (P : Nat → Prop), l.Nodup → (∀ x, x ∈ l ↔ (x < N ∧ P x)) → dt_lc Q l = dt_cn (fun x => P x ∧ Q x) N := by
  intro l
  induction l with
  | nil => intro P _ h; exact (dt_cn0 N (fun i hi z => nomatch (h i).mpr ⟨hi, z.1⟩)).symm
  | cons x t ih =>
    intro P hn h
    rw [List.nodup_cons] at hn
    have hx := (h x).mp (List.mem_cons_self ..)
    have := ih (fun y => P y ∧ y ≠ x) hn.2 (fun y => ⟨fun hy => ⟨((h y).mp (List.mem_cons_of_mem _ hy)).1, ((h y).mp (List.mem_cons_of_mem _ hy)).2, fun z => hn.1 (z ▸ hy)⟩, fun hy => by
      rcases List.mem_cons.mp ((h y).mpr ⟨hy.1, hy.2.1⟩) with z | z
      · exact absurd z hy.2.2
      · exact z⟩)
    rw [dt_lc, this]
    by_cases q : Q x
    · rw [dt_11 q, dt_cn_rm (P := fun x => P x ∧ Q x) (x := x) ⟨hx.2, q⟩ N hx.1]
      rw [dt_cnc (Q := fun y => (P y ∧ Q y) ∧ y ≠ x) N (fun i hi => ⟨fun z => ⟨⟨z.1.1, z.2⟩, z.1.2⟩, fun z => ⟨⟨z.1.1, z.2⟩, z.1.2⟩⟩)]
    · rw [dt_1z q]
      exact dt_cnc N (fun i hi => ⟨fun z => ⟨z.1.1, z.2⟩, fun z => ⟨⟨z.1, fun w => q (w ▸ z.2)⟩, z.2⟩⟩)
theorem dt_hits_all {tk pa na : Nat → Int32} (T : dt_T0 tk pa na) (Q : Nat → Prop) : dt_hits tk pa na Q (dt_ec tk) = dt_cn (fun x => tk x ≠ 0 ∧ Q x) 24 := by
  rw [dt_hits_l T Q _ (Nat.le_refl _)]
  obtain ⟨R, hR, hl, I⟩ := dt_st_end T
  rw [hR]
  refine dt_lc_cn Q R (fun x => tk x ≠ 0) (by have := I.1; rw [List.append_nil] at this; exact this) (fun x => ⟨fun hx => I.2.1 x (by simp [hx]), fun hx => ?_⟩)
  obtain ⟨k0, hk0⟩ := T.2.2.2 x hx.1 hx.2
  exact dt_inv_all T I k0 x hx.1 hx.2 hk0
end
section
/-! the small methods of both sides, each by its value -/
section
variable {ec tc fc : Int32} {tk pa na cl od al vc va tK tA tV tF : Nat → Int32}
variable {tn hh : Int32} {th pp nn kk aw co vb sk sa sw pt oy wt : Nat → Int32}
def dt_E (tk : Nat → Int32) (x : Int32) : Prop := ∃ j : Nat, j < 24 ∧ x = nI j ∧ tk j ≠ 0
theorem xe_t {post : Int32 → Prop} {j : Nat} (hj : j < 24) (ht : tk j ≠ 0) (hp : post 1) : wpX_isEntry post (ec, tc, fc, tk, pa, na, cl, od, al, vc, va, tK, tA, tV, tF) (nI j) := by
  unfold wpX_isEntry; dsimp only
  rw [nI_clamp (by omega)]
  exact br_f (nI_pos (by omega)) (br_f (nI_ge (b := 24) hj (by decide)) ⟨vp_in_nI hj (by decide), br_f ht hp⟩)
theorem xe_f {post : Int32 → Prop} {x : Int32} (h : ¬ dt_E tk x) (hp : post 0) : wpX_isEntry post (ec, tc, fc, tk, pa, na, cl, od, al, vc, va, tK, tA, tV, tF) x := by
  unfold wpX_isEntry; dsimp only
  rcases pk_ix x (n := 24) (by decide) with h0 | h0 | ⟨j, hj, rfl⟩
  · exact br_t h0 hp
  · exact br_f (dt_ge0 h0 (by decide)) (br_t h0 hp)
  · rw [nI_clamp (by omega)]
    exact br_f (nI_pos (by omega)) (br_f (nI_ge (b := 24) hj (by decide)) ⟨vp_in_nI hj (by decide), br_t (Classical.byContradiction fun z => h ⟨j, hj, rfl, z⟩) hp⟩)
theorem ye_t {post : Int32 → Prop} {j : Nat} (hj : j < 24) (ht : th j ≠ 0) (hp : post 1) : wpY_isEntry post (tn, hh, th, pp, nn, kk, aw, co, vb, sk, sa, sw, pt, oy, wt) (nI j) := by
  unfold wpY_isEntry; dsimp only
  rw [nI_clamp (by omega)]
  exact br_f (nI_pos (by omega)) (br_f (nI_nlt (a := 23) (by omega) (by decide)) ⟨vp_in_nI hj (by decide), br_f ht hp⟩)
theorem ye_f {post : Int32 → Prop} {x : Int32} (h : ¬ dt_E th x) (hp : post 0) : wpY_isEntry post (tn, hh, th, pp, nn, kk, aw, co, vb, sk, sa, sw, pt, oy, wt) x := by
  unfold wpY_isEntry; dsimp only
  rcases pk_ix x (n := 24) (by decide) with h0 | h0 | ⟨j, hj, rfl⟩
  · exact br_t h0 hp
  · exact br_f (dt_ge0 h0 (by decide)) (br_t (dt_gt (b := 23) h0 (by decide) (by decide)) hp)
  · rw [nI_clamp (by omega)]
    exact br_f (nI_pos (by omega)) (br_f (nI_nlt (a := 23) (by omega) (by decide)) ⟨vp_in_nI hj (by decide), br_t (Classical.byContradiction fun z => h ⟨j, hj, rfl, z⟩) hp⟩)
/-- x is one of the numbers below n -/
def dt_L (n : Nat) (x : Int32) : Prop := ∃ j : Nat, j < n ∧ x = nI j
theorem dt_L_f {n : Nat} {x : Int32} (hn : n < 2 ^ 31) (h : ¬ dt_L n x) : x < 0 ∨ (¬ x < 0 ∧ nI n ≤ x) := by
  rcases pk_ix x hn with h0 | h0 | h0
  · exact Or.inl h0
  · exact Or.inr ⟨dt_ge0 h0 hn, h0⟩
  · exact absurd h0 h
theorem xa_t {post : Int32 → Prop} {j : Nat} (hj : j < 6) (hp : post 1) : wpX_isAttribute post (nI j) :=
  br_f (nI_pos (by omega)) (br_f (nI_ge (b := 6) hj (by decide)) hp)
theorem xa_f {post : Int32 → Prop} {x : Int32} (h : ¬ dt_L 6 x) (hp : post 0) : wpX_isAttribute post x := by
  rcases dt_L_f (by decide) h with h0 | ⟨h1, h0⟩
  · exact br_t h0 hp
  · exact br_f h1 (br_t h0 hp)
theorem ya_t {post : Int32 → Prop} {j : Nat} (hj : j < 6) (hp : post 1) : wpY_isAttribute post (tn, hh, th, pp, nn, kk, aw, co, vb, sk, sa, sw, pt, oy, wt) (nI j) :=
  br_f (nI_pos (by omega)) (br_f (nI_nlt (a := 5) (by omega) (by decide)) hp)
theorem ya_f {post : Int32 → Prop} {x : Int32} (h : ¬ dt_L 6 x) (hp : post 0) : wpY_isAttribute post (tn, hh, th, pp, nn, kk, aw, co, vb, sk, sa, sw, pt, oy, wt) x := by
  rcases dt_L_f (by decide) h with h0 | ⟨h1, h0⟩
  · exact br_t h0 hp
  · exact br_f h1 (br_t (dt_gt (b := 5) h0 (by decide) (by decide)) hp)
theorem xc_t {post : Int32 → Prop} {j : Nat} (hj : j < 4) (hp : post 1) : wpX_isClass post (nI j) :=
  br_f (nI_pos (by omega)) (br_f (nI_ge (b := 4) hj (by decide)) hp)
theorem xc_f {post : Int32 → Prop} {x : Int32} (h : ¬ dt_L 4 x) (hp : post 0) : wpX_isClass post x := by
  rcases dt_L_f (by decide) h with h0 | ⟨h1, h0⟩
  · exact br_t h0 hp
  · exact br_f h1 (br_t h0 hp)
theorem xm_t {post : Int32 → Prop} {j : Nat} (hj : j < 10) (hp : post 1) : wpX_isName post (nI j) :=
  br_f (nI_pos (by omega)) (br_f (nI_ge (b := 10) hj (by decide)) hp)
theorem xm_f {post : Int32 → Prop} {x : Int32} (h : ¬ dt_L 10 x) (hp : post 0) : wpX_isName post x := by
  rcases dt_L_f (by decide) h with h0 | ⟨h1, h0⟩
  · exact br_t h0 hp
  · exact br_f h1 (br_t h0 hp)
/-- the form of Y's tests: x < 0, then x ≤ n - 1 -/
theorem yl_t {A B C : Prop} {n : Nat} {x : Int32} {j : Nat} (hx : x = nI j) (hj : j < n + 1) (hn : n < 2 ^ 31 - 1) (b : B) : (x < 0 → A) ∧ (¬ x < 0 → ((x ≤ nI n → B) ∧ (¬ x ≤ nI n → C))) := by
  subst hx
  exact br_f (nI_pos (by omega)) (br_t (nI_le (by omega) (by omega)) b)
theorem yl_f {A B : Prop} {n : Nat} {x : Int32} (h : ¬ dt_L (n + 1) x) (hn : n < 2 ^ 31 - 1) (a : A) : (x < 0 → A) ∧ (¬ x < 0 → ((x ≤ nI n → B) ∧ (¬ x ≤ nI n → A))) := by
  rcases dt_L_f (by omega) h with h0 | ⟨h1, h0⟩
  · exact br_t h0 a
  · exact br_f h1 (br_f (dt_ge h0 (by omega) (by omega)) a)
/-- entryNamed, child -/
theorem xn_l {x1 x2 : Int32} {post : Int32 → Prop} : ∀ d i : Nat, i + d = 24 → post (dt_o (-1) (dt_fd (fun e => tk e ≠ 0 ∧ pa e = x1 ∧ na e = x2) d i)) → wX_entryNamed_2 post x1 x2 ec tc fc tk pa na cl od al vc va tK tA tV tF (d + 1) (nI i) := by
  intro d
  induction d with
  | zero => intro i hi hp; exact br_t (nI_le (a := 24) (by omega) (by omega)) hp
  | succ d ih =>
    intro i hi hp
    have hn := ih (i + 1) (by omega)
    rw [wX_entryNamed_2]; dsimp only
    rw [nI_clamp (show i < 2 ^ 31 by omega)]
    have hv : vp_in (nI i) 24 := vp_in_nI (by omega) (by decide)
    refine br_f (nI_ge (b := 24) (by omega) (by decide)) ⟨hv, ?_⟩
    by_cases h1 : tk i = 0
    · rw [dt_fdn (fun z => z.1 h1)] at hp
      exact br_t h1 (nm_r (nI_1 i) (hn hp))
    · refine br_f h1 ⟨hv, ?_⟩
      by_cases h2 : pa i = x1
      · refine br_t h2 ⟨hv, ?_⟩
        by_cases h3 : na i = x2
        · rw [dt_fdy ⟨h1, h2, h3⟩] at hp
          exact br_t h3 hp
        · rw [dt_fdn (fun z => h3 z.2.2)] at hp
          exact br_f h3 (nm_r (nI_1 i) (hn hp))
      · rw [dt_fdn (fun z => h2 z.2.1)] at hp
        exact br_f h2 (nm_r (nI_1 i) (hn hp))
theorem xn_v {post : Int32 → Prop} {x1 x2 : Int32} (hp : post (dt_o (-1) (dt_nm tk pa na x1 x2))) : wpX_entryNamed post (ec, tc, fc, tk, pa, na, cl, od, al, vc, va, tK, tA, tV, tF) x1 x2 := ⟨24, xn_l 23 1 rfl hp⟩
theorem yn_l {x1 x2 : Int32} {post : Int32 → Prop} : ∀ d i : Nat, i + d = 24 → post (dt_o (-2) (dt_fd (fun e => th e ≠ 0 ∧ pp e = x1 ∧ nn e = x2) d i)) → wY_child_12 post x1 x2 tn hh th pp nn kk aw co vb sk sa sw pt oy wt (d + 1) (nI i) := by
  intro d
  induction d with
  | zero => intro i hi hp; exact br_t (nI_le (a := 24) (by omega) (by omega)) hp
  | succ d ih =>
    intro i hi hp
    have hn := ih (i + 1) (by omega)
    rw [wY_child_12]; dsimp only
    rw [nI_clamp (show i < 2 ^ 31 by omega)]
    have hv : vp_in (nI i) 24 := vp_in_nI (by omega) (by decide)
    refine br_f (nI_ge (b := 24) (by omega) (by decide)) ⟨hv, ?_⟩
    by_cases h1 : th i = 0
    · rw [dt_fdn (fun z => z.1 h1)] at hp
      exact br_t h1 (nm_r (nI_1 i) (hn hp))
    · refine br_f h1 ⟨hv, ?_⟩
      by_cases h2 : pp i = x1
      · refine br_t h2 ⟨hv, ?_⟩
        by_cases h3 : nn i = x2
        · rw [dt_fdy ⟨h1, h2, h3⟩] at hp
          exact br_t h3 hp
        · rw [dt_fdn (fun z => h3 z.2.2)] at hp
          exact br_f h3 (nm_r (nI_1 i) (hn hp))
      · rw [dt_fdn (fun z => h2 z.2.1)] at hp
        exact br_f h2 (nm_r (nI_1 i) (hn hp))
theorem yn_v {post : Int32 → Prop} {j : Nat} {x2 : Int32} (hj : j < 24) (ht : th j ≠ 0) (hp : post (dt_o (-2) (dt_nm th pp nn (nI j) x2))) : wpY_child post (tn, hh, th, pp, nn, kk, aw, co, vb, sk, sa, sw, pt, oy, wt) (nI j) x2 := by
  unfold wpY_child; dsimp only
  exact ye_t hj ht (br_f dt_10 ⟨24, yn_l 23 1 rfl hp⟩)
theorem yn_f {post : Int32 → Prop} {x1 x2 : Int32} (h : ¬ dt_E th x1) (hp : post (-1)) : wpY_child post (tn, hh, th, pp, nn, kk, aw, co, vb, sk, sa, sw, pt, oy, wt) x1 x2 := by
  unfold wpY_child; dsimp only
  exact ye_f h (br_t rfl hp)
/-- the least free number -/
theorem xf_l {post : Int32 → Prop} : ∀ d i : Nat, i + d = 24 → post (dt_o (-1) (dt_fd (fun e => tk e = 0) d i)) → wX_leastFreeNumber_2 post ec tc fc tk pa na cl od al vc va tK tA tV tF (d + 1) (nI i) := by
  intro d
  induction d with
  | zero => intro i hi hp; exact br_t (nI_le (a := 24) (by omega) (by omega)) hp
  | succ d ih =>
    intro i hi hp
    have hn := ih (i + 1) (by omega)
    rw [wX_leastFreeNumber_2]; dsimp only
    rw [nI_clamp (show i < 2 ^ 31 by omega)]
    have hv : vp_in (nI i) 24 := vp_in_nI (by omega) (by decide)
    refine br_f (nI_ge (b := 24) (by omega) (by decide)) ⟨hv, ?_⟩
    by_cases h1 : tk i = 0
    · rw [dt_fdy h1] at hp
      exact br_t h1 hp
    · rw [dt_fdn h1] at hp
      exact br_f h1 (nm_r (nI_1 i) (hn hp))
theorem xf_v {post : Int32 → Prop} (hp : post (dt_o (-1) (dt_fd (fun e => tk e = 0) 23 1))) : wpX_leastFreeNumber post (ec, tc, fc, tk, pa, na, cl, od, al, vc, va, tK, tA, tV, tF) := ⟨24, xf_l 23 1 rfl hp⟩
theorem yf_l {post : Int32 → Prop} : ∀ d i : Nat, i + d = 24 → post (dt_o (-1) (dt_fd (fun e => th e = 0) d i)) → wY_firstFree_2 post tn hh th pp nn kk aw co vb sk sa sw pt oy wt (d + 1) (nI i) := by
  intro d
  induction d with
  | zero => intro i hi hp; exact br_t (nI_le (a := 24) (by omega) (by omega)) hp
  | succ d ih =>
    intro i hi hp
    have hn := ih (i + 1) (by omega)
    rw [wY_firstFree_2]; dsimp only
    rw [nI_clamp (show i < 2 ^ 31 by omega)]
    have hv : vp_in (nI i) 24 := vp_in_nI (by omega) (by decide)
    refine br_f (nI_ge (b := 24) (by omega) (by decide)) ⟨hv, ?_⟩
    by_cases h1 : th i = 0
    · rw [dt_fdy h1] at hp
      exact br_t h1 hp
    · rw [dt_fdn h1] at hp
      exact br_f h1 (nm_r (nI_1 i) (hn hp))
theorem yf_v {post : Int32 → Prop} (h0 : th 0 ≠ 0) (hp : post (dt_o (-1) (dt_fd (fun e => th e = 0) 23 1))) : wpY_firstFree post (tn, hh, th, pp, nn, kk, aw, co, vb, sk, sa, sw, pt, oy, wt) := ⟨25, yf_l 24 0 rfl (by rw [dt_fdn h0]; exact hp)⟩
/-- the climb -/
theorem xs_l {t : Int32} {post : Int32 → Prop} (h0 : pa 0 = -1) (ht : ¬ t = -1) : ∀ (k s : Nat) (x : Int32), dt_Up pa k x → s + k ≤ 24 → post (dt_b (dt_Sub pa t x)) → wX_isInSubtree_5 post t ec tc fc tk pa na cl od al vc va tK tA tV tF (k + 1) x (nI s) := by
  intro k
  induction k with
  | zero =>
    intro s x hu hs hp
    have hu : x = -1 := hu
    subst hu
    rw [dt_b0 (dt_sub_m1 h0 ht)] at hp
    exact br_c (fun _ => hp) (fun _ => br_t rfl hp)
  | succ k ih =>
    intro s x hu hs hp
    obtain ⟨j, hj, rfl, hu⟩ := hu
    rw [wX_isInSubtree_5]; dsimp only
    rw [nI_clamp (show j < 2 ^ 31 by omega)]
    refine br_f (nI_ge (b := 24) (by omega) (by decide)) (br_f (dt_m1 (by omega)) ?_)
    by_cases e : nI j = t
    · rw [dt_b1 ⟨0, e⟩] at hp
      exact br_t e hp
    · have := dt_sub_s (pa := pa) (top := t) (j := j) (by omega)
      rw [dt_bc (d := dt_Sub pa t (pa j)) ⟨fun z => (this.mp z).resolve_left e, fun z => this.mpr (Or.inr z)⟩] at hp
      exact br_f e ⟨vp_in_nI hj (by decide), nm_e (nm_r (nI_1 s) (ih (s + 1) _ hu (by omega) hp))⟩
theorem xs_v {t j : Nat} {post : Int32 → Prop} (T : dt_T0 tk pa na) (ht : t < 24) (hj : j < 24) (hk : ∃ k, k ≤ 24 ∧ dt_Up pa k (nI j)) (hp : post (dt_b (dt_Sub pa (nI t) (nI j)))) {tk' na' : Nat → Int32} : wpX_isInSubtree post (ec, tc, fc, tk', pa, na', cl, od, al, vc, va, tK, tA, tV, tF) (nI j) (nI t) := by
  obtain ⟨k, hk, hu⟩ := hk
  exact ⟨k + 1, xs_l T.1.2 (dt_m1 (by omega)) k 0 _ hu (by omega) hp⟩
theorem ys_l {t : Int32} {post : Int32 → Prop} (h0 : pp 0 = -1) (ht : ¬ t = -1) : ∀ (k s : Nat) (x : Int32), dt_Up pp k x → s + k ≤ 24 → post (dt_b (dt_Sub pp t x)) → wY_isBelow_10 post t tn hh th pp nn kk aw co vb sk sa sw pt oy wt (k + 1) x (nI s) := by
  intro k
  induction k with
  | zero =>
    intro s x hu hs hp
    have hu : x = -1 := hu
    subst hu
    rw [dt_b0 (dt_sub_m1 h0 ht)] at hp
    exact br_c (fun _ => hp) (fun _ => br_t (by decide) hp)
  | succ k ih =>
    intro s x hu hs hp
    obtain ⟨j, hj, rfl, hu⟩ := hu
    rw [wY_isBelow_10]; dsimp only
    rw [nI_clamp (show j < 2 ^ 31 by omega)]
    refine br_f (nI_ge (b := 24) (by omega) (by decide)) (br_f (nI_pos (by omega)) ?_)
    by_cases e : nI j = t
    · rw [dt_b1 ⟨0, e⟩] at hp
      exact br_t e hp
    · have := dt_sub_s (pa := pp) (top := t) (j := j) (by omega)
      rw [dt_bc (d := dt_Sub pp t (pp j)) ⟨fun z => (this.mp z).resolve_left e, fun z => this.mpr (Or.inr z)⟩] at hp
      exact br_f e ⟨vp_in_nI hj (by decide), nm_e (nm_r (nI_1 s) (ih (s + 1) _ hu (by omega) hp))⟩
theorem ys_v {t j : Nat} {post : Int32 → Prop} (T : dt_T0 th pp nn) (ht : t < 24) (hj : j < 24) (hk : ∃ k, k ≤ 24 ∧ dt_Up pp k (nI j)) (hp : post (dt_b (dt_Sub pp (nI t) (pp j)))) {th' nn' : Nat → Int32} : wpY_isBelow post (tn, hh, th', pp, nn', kk, aw, co, vb, sk, sa, sw, pt, oy, wt) (nI j) (nI t) := by
  obtain ⟨k, hk, hu⟩ := hk
  cases k with
  | zero => exact absurd hu (dt_m1 (by omega))
  | succ k =>
    obtain ⟨i, hi, ei, hu⟩ := hu
    rw [nI_eq (by omega) (by omega)] at ei
    subst ei
    unfold wpY_isBelow; dsimp only
    rw [nI_clamp (show j < 2 ^ 31 by omega)]
    exact ⟨vp_in_nI hj (by decide), nm_e ⟨k + 1, ys_l T.1.2 (dt_m1 (by omega)) k 0 _ hu (by omega) hp⟩⟩
end
end
section
/-! putInOrder and findOrder: both make the order -/
def dt_seq (o : Nat → Int32) : Nat → List Nat → Prop
  | _, [] => True
  | n, e :: K => o n = nI e ∧ dt_seq o (n + 1) K
def dt_stk (w : Nat → Int32) : List Nat → Prop
  | [] => True
  | e :: K => w K.length = nI e ∧ dt_stk w K
theorem dt_seq_ins {o o' : Nat → Int32} {p : Nat} (h : ∀ j, p < j → j < 24 → o' j = o (j - 1)) : ∀ (L : List Nat) (s : Nat), p ≤ s → s + L.length < 24 → dt_seq o s L → dt_seq o' (s + 1) L := by
  intro L
  induction L with
  | nil => intro s _ _ _; trivial
  | cons e K ih =>
    intro s hs hl hq
    rw [List.length_cons] at hl
    refine ⟨?_, ih (s + 1) (by omega) (by omega) hq.2⟩
    rw [h (s + 1) (by omega) (by omega)]
    exact hq.1
theorem dt_stk_upd {w : Nat → Int32} {k : Nat} {x : Int32} : ∀ L : List Nat, L.length ≤ k → dt_stk w L → dt_stk (upd w k x) L := by
  intro L
  induction L with
  | nil => intro _ _; trivial
  | cons e K ih =>
    intro hl hq
    rw [List.length_cons] at hl
    refine ⟨?_, ih (by omega) hq.2⟩
    rw [pk_un (by omega)]
    exact hq.1
section
variable {ec tc fc : Int32} {tk pa na cl od al vc va tK tA tV tF : Nat → Int32}
variable {tn hh : Int32} {th pp nn kk aw co vb sk sa sw pt oy wt : Nat → Int32}
theorem xi_l {p : Nat} {x : Int32} {post : SX → Prop} (hp : p < 24) (H : ∀ o' : Nat → Int32, (∀ j, j < p → o' j = od j) → o' p = x → (∀ j, p < j → j < 24 → o' j = od (j - 1)) → post (ec, tc, fc, tk, pa, na, cl, o', al, vc, va, tK, tA, tV, tF)) : ∀ (d : Nat) (c : Nat → Int32), p + d < 24 → (∀ j, j ≤ p + d → c j = od j) → (∀ j, p + d < j → j < 24 → c j = od (j - 1)) → wX_insertInOrder_3 post (nI p) x ec tc fc (d + 1) (nI (p + d)) tk pa na cl c al vc va tK tA tV tF := by
  intro d
  induction d with
  | zero =>
    intro c _ h1 h2
    rw [wX_insertInOrder_3]; dsimp only
    rw [nI_clamp (show p < 2 ^ 31 by omega)]
    refine br_t (nI_le (by omega) (by omega)) ⟨vp_in_nI hp (by decide), nm_e (H _ ?_ pk_us ?_)⟩
    · intro j hj
      rw [pk_un (by omega)]
      exact h1 j (by omega)
    · intro j hj hj2
      rw [pk_un (by omega)]
      exact h2 j (by omega) hj2
  | succ d ih =>
    intro c hd h1 h2
    rw [wX_insertInOrder_3]; dsimp only
    rw [show p + (d + 1) = p + d + 1 from rfl, nI_pred, pk_m1, nI_clamp (show p + d < 2 ^ 31 by omega), nI_clamp (show p + d + 1 < 2 ^ 31 by omega)]
    refine br_f (nI_ge (by omega) (by omega)) ⟨vp_in_nI (by omega) (by decide), vp_in_nI (by omega) (by decide), nm_e (nm_e (ih _ (by omega) ?_ ?_))⟩
    · intro j hj
      rw [pk_un (by omega)]
      exact h1 j (by omega)
    · intro j hj hj2
      by_cases e : j = p + d + 1
      · subst e
        rw [pk_us]
        exact h1 (p + d) (by omega)
      · rw [pk_un e]
        exact h2 j (by omega) hj2
theorem xi_v {p : Nat} {x : Int32} {post : SX → Prop} (hp : p < 24) (H : ∀ o' : Nat → Int32, (∀ j, j < p → o' j = od j) → o' p = x → (∀ j, p < j → j < 24 → o' j = od (j - 1)) → post (ec, tc, fc, tk, pa, na, cl, o', al, vc, va, tK, tA, tV, tF)) : wpX_insertInOrder post (ec, tc, fc, tk, pa, na, cl, od, al, vc, va, tK, tA, tV, tF) (nI p) x := by
  obtain ⟨d, hd⟩ : ∃ d, p + d = 23 := ⟨23 - p, by omega⟩
  have := xi_l hp H d od (by omega) (fun _ _ => rfl) (fun j h1 h2 => by omega)
  rw [hd] at this
  exact ⟨_, this⟩
theorem xo_in {n e : Nat} {K : List Nat} {post : SX → Prop} {J9 : Int32 → Int32 → Int32 → Int32 → (Nat → Int32) → (Nat → Int32) → (Nat → Int32) → (Nat → Int32) → (Nat → Int32) → (Nat → Int32) → (Nat → Int32) → (Nat → Int32) → (Nat → Int32) → (Nat → Int32) → (Nat → Int32) → (Nat → Int32) → Prop} (hl : n + 1 + (dt_kf tk pa na e 10 ++ K).length ≤ 24) (he : od n = nI e) (H : ∀ o' : Nat → Int32, (∀ i, i ≤ n → o' i = od i) → dt_seq o' (n + 1) (dt_kf tk pa na e 10 ++ K) → J9 (nI (n + 1)) ec tc fc tk pa na cl o' al vc va tK tA tV tF) : ∀ (j : Nat) (o : Nat → Int32), j ≤ 10 → (∀ i, i ≤ n → o i = od i) → dt_seq o (n + 1) (dt_kf tk pa na e (10 - j) ++ K) → wX_putInOrder_22 post J9 (nI n) (j + 1) (nI j + (-1)) ec tc fc tk pa na cl o al vc va tK tA tV tF := by
  intro j
  induction j with
  | zero =>
    intro o _ h1 h2
    exact br_t (show nI 0 + (-1) < 0 by decide) (nm_r (nI_1 n) (H o h1 h2))
  | succ j ih =>
    intro o hj h1 h2
    have hlen := dt_kf_len (tk := tk) (pa := pa) (na := na) (e := e) (10 - j) 10 (by omega)
    rw [List.length_append] at hl
    rw [wX_putInOrder_22]; dsimp only
    rw [pk_m1, nI_clamp (show n < 2 ^ 31 by omega), h1 n (Nat.le_refl _), he]
    refine br_f (nI_pos (by omega)) ⟨vp_in_nI (by omega) (by decide), xn_v ?_⟩
    have e9 : 9 - (9 - j) = j := by omega
    have e10 : 10 - j = 9 - j + 1 := by omega
    have e11 : 10 - (j + 1) = 9 - j := by omega
    rw [e11] at h2
    rcases hc : dt_nm tk pa na (nI e) (nI j) with _ | c
    · refine br_t rfl (nm_e (ih o (by omega) h1 ?_))
      rw [e10, dt_kf_n (by rw [e9]; exact hc)]
      exact h2
    · have hcs := dt_kf_s (tk := tk) (pa := pa) (na := na) (e := e) (d := 9 - j) (by rw [e9]; exact hc)
      rw [e10] at hlen ih
      rw [hcs] at hlen ih
      rw [List.length_cons] at hlen
      have hc24 := (dt_nm_s hc).2.1
      refine br_f (dt_m1 (by omega)) ?_
      rw [nI_1]
      refine xi_v (by omega) ?_
      intro o' a1 a2 a3
      dsimp only
      refine nm_e (ih o' (by omega) ?_ ⟨a2, ?_⟩)
      · intro i hi
        rw [a1 i (by omega)]
        exact h1 i hi
      · exact dt_seq_ins a3 (dt_kf tk pa na e (9 - j) ++ K) (n + 1) (Nat.le_refl _) (by rw [List.length_append]; omega) h2
theorem xo_l {post : SX → Prop} (T : dt_T0 tk pa na) (H : ∀ o' : Nat → Int32, (∀ i, i < dt_ec tk → o' i = nI (dt_at tk pa na i)) → post (nI (dt_ec tk), tc, fc, tk, pa, na, cl, o', al, vc, va, tK, tA, tV, tF)) : ∀ (d n : Nat) (o : Nat → Int32), n + d + 1 = dt_ec tk → dt_seq o n (dt_st tk pa na n).2 → (∀ i, i < n → o i = nI (dt_at tk pa na i)) → wX_putInOrder_9 post (d + 1) (nI n) (nI (dt_ec tk)) tc fc tk pa na cl o al vc va tK tA tV tF := by
  intro d
  induction d with
  | zero =>
    intro n o hn h1 h2
    obtain ⟨R, e, K, hst, hR, hl1, hl2, he, _⟩ := dt_st_lt T (show n < dt_ec tk by omega)
    have := dt_ec_le tk
    rw [hst] at h1
    refine br_t ?_ (H o ?_)
    · rw [← hn, Nat.add_zero, nI_pred]
      exact nI_le (Nat.le_refl _) (by omega)
    · intro i hi
      by_cases z : i = n
      · subst z
        rw [dt_at_s hst]
        exact h1.1
      · exact h2 i (by omega)
  | succ d ih =>
    intro n o hn h1 h2
    obtain ⟨R, e, K, hst, hR, hl1, hl2, he, _⟩ := dt_st_lt T (show n < dt_ec tk by omega)
    have := dt_ec_le tk
    rw [hst] at h1
    refine br_f ?_ ⟨11, ?_⟩
    · rw [← hn, nI_pred]
      exact nI_ge (by omega) (by omega)
    · have := xo_in (n := n) (e := e) (K := K) (od := o) (ec := nI (dt_ec tk)) (tc := tc) (fc := fc) (cl := cl) (al := al) (vc := vc) (va := va) (tK := tK) (tA := tA) (tV := tV) (tF := tF) (post := post) (J9 := wX_putInOrder_9 post (d + 1)) (by omega) h1.1 (fun o' a1 a2 => ih (n + 1) o' (by omega) (by rw [dt_st_s hst]; exact a2) (fun i hi => by
          rw [a1 i (by omega)]
          by_cases z : i = n
          · subst z
            rw [dt_at_s hst]
            exact h1.1
          · exact h2 i (by omega))) 10 o (Nat.le_refl _) (fun _ _ => rfl) h1.2
      rw [show nI 10 + (-1) = (9 : Int32) from by decide] at this
      exact this
theorem xo_v {post : SX → Prop} (T : dt_T0 tk pa na) (he : ec = nI (dt_ec tk)) (H : ∀ o' : Nat → Int32, (∀ i, i < dt_ec tk → o' i = nI (dt_at tk pa na i)) → post (ec, tc, fc, tk, pa, na, cl, o', al, vc, va, tK, tA, tV, tF)) : wpX_putInOrder post (ec, tc, fc, tk, pa, na, cl, od, al, vc, va, tK, tA, tV, tF) := by
  subst he
  have := dt_ec_pos T
  unfold wpX_putInOrder; dsimp only
  exact nm_e ⟨dt_ec tk - 1 + 1, xo_l T H (dt_ec tk - 1) 0 _ (by omega) ⟨pk_us, trivial⟩ (fun i hi => by omega)⟩
theorem yo_in {e : Nat} {K : List Nat} {x1 : Int32} {post : SY → Prop} {J11 : Int32 → Int32 → (Nat → Int32) → (Nat → Int32) → (Nat → Int32) → (Nat → Int32) → (Nat → Int32) → (Nat → Int32) → (Nat → Int32) → (Nat → Int32) → (Nat → Int32) → (Nat → Int32) → (Nat → Int32) → (Nat → Int32) → (Nat → Int32) → Prop} (he : e < 24) (ht : th e ≠ 0) (hl : (dt_kf th pp nn e 10 ++ K).length ≤ 24) (H : ∀ w' : Nat → Int32, dt_stk w' (dt_kf th pp nn e 10 ++ K) → J11 x1 (nI (dt_kf th pp nn e 10 ++ K).length) th pp nn kk aw co vb sk sa sw pt oy w') : ∀ (j : Nat) (w : Nat → Int32), j ≤ 10 → dt_stk w (dt_kf th pp nn e (10 - j) ++ K) → wY_findOrder_45 post J11 x1 (nI e) tn hh (j + 1) (nI (dt_kf th pp nn e (10 - j) ++ K).length) (nI j + (-1)) th pp nn kk aw co vb sk sa sw pt oy w := by
  intro j
  induction j with
  | zero =>
    intro w _ h2
    exact br_t (show nI 0 + (-1) < 0 by decide) (H w h2)
  | succ j ih =>
    intro w hj h2
    have hlen := dt_kf_len (tk := th) (pa := pp) (na := nn) (e := e) (10 - j) 10 (by omega)
    rw [List.length_append] at hl
    rw [wY_findOrder_45]; dsimp only
    rw [pk_m1]
    refine br_f (nI_pos (by omega)) (yn_v he ht ?_)
    have e9 : 9 - (9 - j) = j := by omega
    have e10 : 10 - j = 9 - j + 1 := by omega
    have e11 : 10 - (j + 1) = 9 - j := by omega
    rw [e11] at h2 ⊢
    rcases hc : dt_nm th pp nn (nI e) (nI j) with _ | c
    · refine br_t (show (-2 : Int32) < 0 by decide) (nm_e ?_)
      have := ih w (by omega)
      rw [e10, dt_kf_n (by rw [e9]; exact hc)] at this
      exact this h2
    · have hcs := dt_kf_s (tk := th) (pa := pp) (na := nn) (e := e) (d := 9 - j) (by rw [e9]; exact hc)
      rw [e10] at hlen ih
      rw [hcs] at hlen ih
      rw [List.length_cons] at hlen
      have hc24 := (dt_nm_s hc).2.1
      have hb : (dt_kf th pp nn e (9 - j) ++ K).length < 48 := by rw [List.length_append]; omega
      refine br_f (nI_pos (by omega)) ⟨vp_in_nI hb (by decide), ?_⟩
      rw [nI_clamp (by omega)]
      refine nm_e (nm_r (nI_1 _) (nm_e ?_))
      exact ih _ (by omega) ⟨pk_us, dt_stk_upd _ (Nat.le_refl _) h2⟩
theorem yo_l {post : SY → Prop} (T : dt_T0 th pp nn) (H : ∀ o' w' : Nat → Int32, (∀ i, i < dt_ec th → o' i = nI (dt_at th pp nn i)) → post (tn, hh, th, pp, nn, kk, aw, co, vb, sk, sa, sw, pt, o', w')) : ∀ (d n : Nat) (o w : Nat → Int32), n + d = dt_ec th → dt_stk w (dt_st th pp nn n).2 → (∀ i, i < n → o i = nI (dt_at th pp nn i)) → wY_findOrder_11 post tn hh (d + 1) (nI n) (nI (dt_st th pp nn n).2.length) th pp nn kk aw co vb sk sa sw pt o w := by
  intro d
  induction d with
  | zero =>
    intro n o w hn h1 h2
    obtain ⟨R, hst, _⟩ := dt_st_end T
    have hn : n = dt_ec th := hn
    rw [hn, hst]
    exact br_t (show nI 0 ≤ 0 by decide) (H o w (by rw [← hn]; exact h2))
  | succ d ih =>
    intro n o w hn h1 h2
    obtain ⟨R, e, K, hst, hR, hl1, hl2, he, ht⟩ := dt_st_lt T (show n < dt_ec th by omega)
    have := dt_ec_le th
    rw [hst] at h1 ⊢
    rw [wY_findOrder_11]; dsimp only
    rw [List.length_cons, pk_m1]
    refine br_f (nI_nle (by omega) (by omega)) (br_f (nI_ge (b := 24) (by omega) (by decide)) (nm_e ⟨vp_in_nI (by omega) (by decide), ?_⟩))
    rw [nI_clamp (by omega), h1.1]
    refine nm_e ⟨vp_in_nI (by omega) (by decide), ?_⟩
    rw [nI_clamp (by omega)]
    refine nm_e (nm_r (nI_1 n) ⟨11, ?_⟩)
    have := yo_in (e := e) (K := K) (x1 := nI (n + 1)) (th := th) (pp := pp) (nn := nn) (oy := upd o n (nI e)) (tn := tn) (hh := hh) (kk := kk) (aw := aw) (co := co) (vb := vb) (sk := sk) (sa := sa) (sw := sw) (pt := pt) (post := post) (J11 := wY_findOrder_11 post tn hh (d + 1)) he ht (by omega) (fun w' a => by
        have := ih (n + 1) (upd o n (nI e)) w' (by omega) (by rw [dt_st_s hst]; exact a) (fun i hi => by
          by_cases z : i = n
          · subst z
            rw [dt_at_s hst, pk_us]
          · rw [pk_un z]
            exact h2 i (by omega))
        rw [dt_st_s hst] at this
        exact this) 10 w (Nat.le_refl _) h1.2
    rw [show nI 10 + (-1) = (9 : Int32) from by decide] at this
    exact this
theorem yo_v {post : SY → Prop} (T : dt_T0 th pp nn) (H : ∀ o' w' : Nat → Int32, (∀ i, i < dt_ec th → o' i = nI (dt_at th pp nn i)) → post (tn, hh, th, pp, nn, kk, aw, co, vb, sk, sa, sw, pt, o', w')) : wpY_findOrder post (tn, hh, th, pp, nn, kk, aw, co, vb, sk, sa, sw, pt, oy, wt) := by
  unfold wpY_findOrder; dsimp only
  exact nm_e ⟨dt_ec th + 1, yo_l T H (dt_ec th) 0 _ _ (by omega) ⟨pk_us, trivial⟩ (fun i hi => by omega)⟩
end
end
section
/-! words, ranks, beginnings: both sides by one value -/
def dt_lt (n k : Nat) : Nat := if k = 0 then n % 6 else if k = 1 then n / 6 % 6 else n / 36
def dt_ln (n : Nat) : Nat := if n % 6 = 0 then 0 else if n / 6 % 6 = 0 then 1 else if n / 36 = 0 then 2 else 3
def dt_W (n : Nat) : Prop := n < 216 ∧ (n % 6 ≠ 0 ∨ n = 0) ∧ (n / 6 % 6 ≠ 0 ∨ n < 36)
def dt_Wi (v : Int32) : Prop := ∃ n : Nat, v = nI n ∧ dt_W n
def dt_CB (a v : Int32) : Prop := (4 ≤ a ∧ ¬ v < -999 ∧ ¬ 999 < v) ∨ (¬ 4 ≤ a ∧ dt_Wi v)
def dt_rk (a v : Int32) : Int32 := if a < 4 then (v - v / 6 * 6) * 36 + (v / 6 - v / 6 / 6 * 6) * 6 + v / 36 else v
def dt_sp (m : Nat) : Nat := if m < 6 then 6 else if m < 36 then 36 else 216
def dt_BW (n m : Nat) : Bool := m == 0 || n % dt_sp m == m
def dt_SA (w v p : Nat) : Bool := decide (p + dt_ln v ≤ dt_ln w) && (List.range (dt_ln v)).all (fun k => dt_lt w (p + k) == dt_lt v k)
def dt_wb (n : Nat) : Bool := (n % 6 != 0 || n == 0) && (n / 6 % 6 != 0 || decide (n < 36))
def dt_ck (n m : Nat) : Bool := !(dt_wb n) || !(dt_wb m) || ((dt_SA n m 0 == dt_BW n m) && ((dt_SA n m 0 || dt_SA n m 1 || dt_SA n m 2) == (dt_BW n m || dt_BW (n / 6) m || dt_BW (n / 36) m)))
theorem dt_ck_all : (List.range 216).all (fun n => (List.range 216).all (fun m => dt_ck n m)) = true := by decide +kernel
theorem dt_W_wb {n : Nat} (h : dt_W n) : dt_wb n = true := by
  obtain ⟨_, h2, h3⟩ := h
  simp [dt_wb, h2, h3]
theorem dt_ck2 {n m : Nat} (hn : dt_W n) (hm : dt_W m) : dt_SA n m 0 = dt_BW n m ∧ (dt_SA n m 0 || dt_SA n m 1 || dt_SA n m 2) = (dt_BW n m || dt_BW (n / 6) m || dt_BW (n / 36) m) := by
  have h := List.all_eq_true.mp dt_ck_all n (List.mem_range.mpr hn.1)
  have h := List.all_eq_true.mp h m (List.mem_range.mpr hm.1)
  unfold dt_ck at h
  rw [dt_W_wb hn, dt_W_wb hm] at h
  simpa using h
end
section
/-! words, ranks, beginnings: the walks -/
section
variable {ec tc fc : Int32} {tk pa na cl od al vc va tK tA tV tF : Nat → Int32}
variable {tn hh : Int32} {th pp nn kk aw co vb sk sa sw pt oy wt : Nat → Int32}
theorem xw_51 {post : Int32 → Prop} {a b : Int32} (hp : post (dt_b (¬ a = 0 ∧ ¬ b = 0))) : wX_isWord_51 post a b := by
  unfold wX_isWord_51
  by_cases h1 : a = 0
  · rw [dt_b0 (fun z => z.1 h1)] at hp; exact br_t h1 hp
  · by_cases h2 : b = 0
    · rw [dt_b0 (fun z => z.2 h2)] at hp; exact br_f h1 (br_t h2 hp)
    · rw [dt_b1 ⟨h1, h2⟩] at hp; exact br_f h1 (br_f h2 hp)
theorem xw_29 {post : Int32 → Prop} {n : Nat} {z : Int32} (hn : n < 216) (hp : post (dt_b (¬ z = 0 ∧ (n / 6 % 6 ≠ 0 ∨ n < 36)))) : wX_isWord_29 post (nI n) z := by
  unfold wX_isWord_29
  have e1 : nI n / 6 = nI (n / 6) := pk_div (d := 6) (by omega) (by decide) (by decide)
  rw [e1]
  have e2 : nI (n / 6) - nI (n / 6) / 6 * 6 = nI (n / 6 % 6) := pk_rem (d := 6) (by omega) (by decide) (by decide)
  rw [e2]
  refine ⟨by decide, by decide, ?_⟩
  by_cases h1 : n / 6 % 6 = 0
  · refine br_t (by rw [h1]; rfl) ?_
    by_cases h2 : n < 36
    · exact br_f (nI_ge (b := 36) h2 (by decide)) (xw_51 (by rw [dt_bc (d := ¬ z = 0 ∧ (n / 6 % 6 ≠ 0 ∨ n < 36)) ⟨fun q => ⟨q.1, Or.inr h2⟩, fun q => ⟨q.1, dt_10⟩⟩]; exact hp))
    · exact br_t (nI_le (a := 36) (by omega) (by omega)) (xw_51 (by rw [dt_bc (d := ¬ z = 0 ∧ (n / 6 % 6 ≠ 0 ∨ n < 36)) ⟨fun q => absurd rfl q.2, fun q => absurd q.2 (by omega)⟩]; exact hp))
  · exact br_f (nI_ne0 (by omega) (by omega)) (xw_51 (by rw [dt_bc (d := ¬ z = 0 ∧ (n / 6 % 6 ≠ 0 ∨ n < 36)) ⟨fun q => ⟨q.1, Or.inl h1⟩, fun q => ⟨q.1, dt_10⟩⟩]; exact hp))
theorem dt_Wi_n {n : Nat} (hn : n < 216) : dt_Wi (nI n) ↔ dt_W n := by
  constructor
  · rintro ⟨m, e, h⟩
    have := h.1
    rw [nI_eq (by omega) (by omega)] at e
    rw [e]; exact h
  · intro h; exact ⟨n, rfl, h⟩
theorem dt_Wi_neg {v : Int32} (h : v < 0) : ¬ dt_Wi v := by
  rintro ⟨m, rfl, hm⟩
  have := hm.1
  exact nI_pos (by omega) h
theorem dt_Wi_big {v : Int32} (h : nI 216 ≤ v) : ¬ dt_Wi v := by
  rintro ⟨m, rfl, hm⟩
  have := hm.1
  exact nI_ge (b := 216) this (by decide) h
theorem xw_v {post : Int32 → Prop} {v : Int32} (hp : post (dt_b (dt_Wi v))) : wpX_isWord post v := by
  unfold wpX_isWord
  rcases pk_ix v (n := 216) (by decide) with h0 | h0 | ⟨n, hn, rfl⟩
  · rw [dt_b0 (dt_Wi_neg h0)] at hp
    exact br_t h0 hp
  · rw [dt_b0 (dt_Wi_big h0)] at hp
    exact br_f (dt_ge0 h0 (by decide)) (br_f (Int32.not_lt.mpr h0) hp)
  · rw [dt_bc (dt_Wi_n hn)] at hp
    refine br_f (nI_pos (by omega)) (br_t (nI_lt (b := 216) hn (by decide)) ⟨by decide, ?_⟩)
    have e2 : nI n - nI n / 6 * 6 = nI (n % 6) := pk_rem (d := 6) (by omega) (by decide) (by decide)
    rw [e2]
    by_cases h1 : n % 6 = 0
    · refine br_t (by rw [h1]; rfl) ?_
      by_cases h2 : n = 0
      · exact br_t (by rw [h2]; rfl) (xw_29 hn (by rw [dt_bc (d := dt_W n) ⟨fun q => ⟨hn, Or.inr h2, q.2⟩, fun q => ⟨dt_10, q.2.2⟩⟩]; exact hp))
      · exact br_f (nI_ne0 (by omega) (by omega)) (xw_29 hn (by rw [dt_bc (d := dt_W n) ⟨fun q => absurd rfl q.1, fun q => absurd q.2.1 (by omega)⟩]; exact hp))
    · exact br_f (nI_ne0 (by omega) (by omega)) (xw_29 hn (by rw [dt_bc (d := dt_W n) ⟨fun q => ⟨hn, Or.inl h1, q.2⟩, fun q => ⟨dt_10, q.2.2⟩⟩]; exact hp))
theorem xb_v {post : Int32 → Prop} {a v : Int32} (hp : post (dt_b (dt_CB a v))) : wpX_canBeValue post a v := by
  unfold wpX_canBeValue
  by_cases ha : 4 ≤ a
  · refine br_t ha ?_
    by_cases h1 : v < -999
    · rw [dt_b0 (fun z => z.elim (fun q => q.2.1 h1) (fun q => q.1 ha))] at hp; exact br_t h1 hp
    · by_cases h2 : 999 < v
      · rw [dt_b0 (fun z => z.elim (fun q => q.2.2 h2) (fun q => q.1 ha))] at hp; exact br_f h1 (br_t h2 hp)
      · rw [dt_b1 (c := dt_CB a v) (Or.inl ⟨ha, h1, h2⟩)] at hp; exact br_f h1 (br_f h2 hp)
  · rw [dt_bc (c := dt_CB a v) (d := dt_Wi v) ⟨fun z => z.elim (fun q => absurd q.1 ha) (fun q => q.2), fun z => Or.inr ⟨ha, z⟩⟩] at hp
    exact br_f ha (xw_v ⟨dt_bn _, hp⟩)
theorem y_let {post : Int32 → Prop} {n k : Nat} (hn : n < 2 ^ 31) (hk : k < 2 ^ 31) (hp : post (nI (dt_lt n k))) : wpY_letter post (tn, hh, th, pp, nn, kk, aw, co, vb, sk, sa, sw, pt, oy, wt) (nI n) (nI k) := by
  unfold wpY_letter; dsimp only
  have e1 : nI n / 6 = nI (n / 6) := pk_div (d := 6) (by omega) (by decide) (by decide)
  have e2 : nI (n / 6) - nI (n / 6) / 6 * 6 = nI (n / 6 % 6) := pk_rem (d := 6) (by omega) (by decide) (by decide)
  have e3 : nI n - nI n / 6 * 6 = nI (n % 6) := pk_rem (d := 6) (by omega) (by decide) (by decide)
  have e4 : nI n / 36 = nI (n / 36) := pk_div (d := 36) (by omega) (by decide) (by decide)
  rw [e3, e1, e2, e4]
  unfold dt_lt at hp
  by_cases h0 : k = 0
  · rw [if_pos h0] at hp
    exact br_t (by rw [h0]; rfl) ⟨by decide, hp⟩
  · rw [if_neg h0] at hp
    refine br_f (nI_ne0 (by omega) hk) ?_
    by_cases h1 : k = 1
    · rw [if_pos h1] at hp
      exact br_t (by rw [h1]; rfl) ⟨by decide, by decide, hp⟩
    · rw [if_neg h1] at hp
      exact br_f (fun z => h1 ((nI_eq (b := 1) hk (by decide)).mp z)) ⟨by decide, hp⟩
theorem y_len {post : Int32 → Prop} {n : Nat} (hn : n < 2 ^ 31) (hp : post (nI (dt_ln n))) : wpY_length post (tn, hh, th, pp, nn, kk, aw, co, vb, sk, sa, sw, pt, oy, wt) (nI n) := by
  unfold wpY_length; dsimp only
  unfold dt_ln at hp
  refine y_let (k := 0) hn (by decide) ?_
  rw [show dt_lt n 0 = n % 6 from rfl]
  by_cases h0 : n % 6 = 0
  · rw [if_pos h0] at hp
    exact br_t (by rw [h0]; rfl) hp
  · rw [if_neg h0] at hp
    refine br_f (nI_ne0 (by omega) (by omega)) (y_let (k := 1) hn (by decide) ?_)
    rw [show dt_lt n 1 = n / 6 % 6 from rfl]
    by_cases h1 : n / 6 % 6 = 0
    · rw [if_pos h1] at hp
      exact br_t (by rw [h1]; rfl) hp
    · rw [if_neg h1] at hp
      refine br_f (nI_ne0 (by omega) (by omega)) (y_let (k := 2) hn (by decide) ?_)
      rw [show dt_lt n 2 = n / 36 from rfl]
      by_cases h2 : n / 36 = 0
      · rw [if_pos h2] at hp
        exact br_t (by rw [h2]; rfl) hp
      · rw [if_neg h2] at hp
        exact br_f (nI_ne0 (by omega) (by omega)) hp
theorem yw_l {post : Int32 → Prop} {n : Nat} (hn : n < 216) : ∀ (d k : Nat) (g : Prop), k + d = 3 → post (dt_b (g ∧ ∀ i, k ≤ i → i < 3 → dt_lt n i = 0)) → wY_isWord_24 post (nI n) tn hh th pp nn kk aw co vb sk sa sw pt oy wt (d + 1) (dt_b g) (nI k) := by
  intro d
  induction d with
  | zero =>
    intro k g hk hp
    rw [dt_bc (d := g) ⟨fun z => z.1, fun z => ⟨z, fun i h1 h2 => by omega⟩⟩] at hp
    exact br_t (nI_le (a := 3) (by omega) (by omega)) ⟨dt_bn _, hp⟩
  | succ d ih =>
    intro k g hk hp
    rw [wY_isWord_24]; dsimp only
    refine br_f (nI_ge (b := 3) (by omega) (by decide)) ?_
    by_cases hg : g
    · refine dt_tru hg (y_let (by omega) (by omega) ?_)
      have hb : dt_lt n k < 2 ^ 31 := by
        unfold dt_lt
        by_cases h0 : k = 0
        · rw [if_pos h0]; omega
        · rw [if_neg h0]
          by_cases h1 : k = 1
          · rw [if_pos h1]; omega
          · rw [if_neg h1]; omega
      by_cases h : dt_lt n k = 0
      · refine br_t (by rw [h]; rfl) (nm_r (nI_1 k) ?_)
        have := ih (k + 1) True (by omega) (by
          rw [dt_bc (d := g ∧ ∀ i, k ≤ i → i < 3 → dt_lt n i = 0) ⟨fun z => ⟨hg, fun i h1 h2 => if e : i = k then by rw [e]; exact h else z.2 i (by omega) h2⟩, fun z => ⟨trivial, fun i h1 h2 => z.2 i (by omega) h2⟩⟩]
          exact hp)
        rw [dt_b1 trivial] at this
        exact this
      · refine br_f (nI_ne0 (by omega) hb) (nm_r (nI_1 k) ?_)
        have := ih (k + 1) False (by omega) (by
          rw [dt_bc (d := g ∧ ∀ i, k ≤ i → i < 3 → dt_lt n i = 0) ⟨fun z => z.1.elim, fun z => absurd (z.2 k (by omega) (by omega)) h⟩]
          exact hp)
        rw [dt_b0 (fun z => z)] at this
        exact this
    · refine dt_fls hg (nm_r (nI_1 k) ?_)
      have := ih (k + 1) False (by omega) (by
        rw [dt_bc (d := g ∧ ∀ i, k ≤ i → i < 3 → dt_lt n i = 0) ⟨fun z => z.1.elim, fun z => absurd z.1 hg⟩]
        exact hp)
      rw [dt_b0 (fun z => z)] at this
      exact this
theorem dt_W_ln {n : Nat} (hn : n < 216) : (True ∧ ∀ i, dt_ln n ≤ i → i < 3 → dt_lt n i = 0) ↔ dt_W n := by
  have l0 : dt_lt n 0 = n % 6 := rfl
  have l1 : dt_lt n 1 = n / 6 % 6 := rfl
  have l2 : dt_lt n 2 = n / 36 := rfl
  constructor
  · rintro ⟨_, h⟩
    have h0 := h 0
    have h1 := h 1
    have h2 := h 2
    rw [l0] at h0; rw [l1] at h1; rw [l2] at h2
    unfold dt_ln at h0 h1 h2
    refine ⟨hn, ?_, ?_⟩
    · by_cases e0 : n % 6 = 0
      · rw [if_pos e0] at h0 h1 h2
        have := h1 (by omega) (by omega)
        have := h2 (by omega) (by omega)
        right; omega
      · exact Or.inl e0
    · by_cases e1 : n / 6 % 6 = 0
      · by_cases e0 : n % 6 = 0
        · rw [if_pos e0] at h0 h1 h2
          have := h2 (by omega) (by omega)
          right; omega
        · rw [if_neg e0, if_pos e1] at h0 h1 h2
          have := h2 (by omega) (by omega)
          right; omega
      · exact Or.inl e1
  · rintro ⟨_, h2, h3⟩
    refine ⟨trivial, fun i a b => ?_⟩
    unfold dt_ln at a
    have hi : i = 0 ∨ i = 1 ∨ i = 2 := by omega
    by_cases e0 : n % 6 = 0
    · have : n = 0 := by omega
      subst this
      rcases hi with rfl | rfl | rfl <;> rfl
    · rw [if_neg e0] at a
      by_cases e1 : n / 6 % 6 = 0
      · rw [if_pos e1] at a
        rcases hi with rfl | rfl | rfl
        · omega
        · rw [l1]; omega
        · rw [l2]; omega
      · rw [if_neg e1] at a
        by_cases e2 : n / 36 = 0
        · rw [if_pos e2] at a
          rcases hi with rfl | rfl | rfl
          · omega
          · omega
          · rw [l2]; omega
        · rw [if_neg e2] at a
          omega
theorem dt_ln3 (n : Nat) : dt_ln n ≤ 3 := by
  unfold dt_ln
  by_cases e0 : n % 6 = 0
  · rw [if_pos e0]; omega
  · rw [if_neg e0]
    by_cases e1 : n / 6 % 6 = 0
    · rw [if_pos e1]; omega
    · rw [if_neg e1]
      by_cases e2 : n / 36 = 0
      · rw [if_pos e2]; omega
      · rw [if_neg e2]; omega
theorem yw_v {post : Int32 → Prop} {v : Int32} (hp : post (dt_b (dt_Wi v))) : wpY_isWord post (tn, hh, th, pp, nn, kk, aw, co, vb, sk, sa, sw, pt, oy, wt) v := by
  unfold wpY_isWord; dsimp only
  rcases pk_ix v (n := 216) (by decide) with h0 | h0 | ⟨n, hn, rfl⟩
  · rw [dt_b0 (dt_Wi_neg h0)] at hp
    exact br_t h0 hp
  · rw [dt_b0 (dt_Wi_big h0)] at hp
    exact br_f (dt_ge0 h0 (by decide)) (br_f (dt_ge (b := 215) h0 (by decide) (by decide)) hp)
  · rw [dt_bc (dt_Wi_n hn), ← dt_bc (dt_W_ln hn)] at hp
    refine br_f (nI_pos (by omega)) (br_t (nI_le (b := 215) (by omega) (by decide)) (y_len (by omega) ?_))
    have := dt_ln3 n
    have := yw_l (tn := tn) (hh := hh) (th := th) (pp := pp) (nn := nn) (kk := kk) (aw := aw) (co := co) (vb := vb) (sk := sk) (sa := sa) (sw := sw) (pt := pt) (oy := oy) (wt := wt) hn (3 - dt_ln n) (dt_ln n) True (by omega) hp
    rw [dt_b1 trivial] at this
    exact ⟨_, this⟩
theorem yb_v {post : Int32 → Prop} {a v : Int32} (hp : post (dt_b (dt_CB a v))) : wpY_canBe post (tn, hh, th, pp, nn, kk, aw, co, vb, sk, sa, sw, pt, oy, wt) a v := by
  unfold wpY_canBe; dsimp only
  by_cases ha : 4 ≤ a
  · refine br_t ha ?_
    by_cases h1 : v < -999
    · rw [dt_b0 (fun z => z.elim (fun q => q.2.1 h1) (fun q => q.1 ha))] at hp; exact br_t h1 hp
    · by_cases h2 : 999 < v
      · rw [dt_b0 (fun z => z.elim (fun q => q.2.2 h2) (fun q => q.1 ha))] at hp; exact br_f h1 (br_t h2 hp)
      · rw [dt_b1 (c := dt_CB a v) (Or.inl ⟨ha, h1, h2⟩)] at hp; exact br_f h1 (br_f h2 hp)
  · rw [dt_bc (c := dt_CB a v) (d := dt_Wi v) ⟨fun z => z.elim (fun q => absurd q.1 ha) (fun q => q.2), fun z => Or.inr ⟨ha, z⟩⟩] at hp
    exact br_f ha (yw_v ⟨dt_bn _, hp⟩)
theorem xr_v {post : Int32 → Prop} {a v : Int32} (hp : post (dt_rk a v)) : wpX_rankOf post a v := by
  unfold wpX_rankOf
  unfold dt_rk at hp
  by_cases h : a < 4
  · rw [if_pos h] at hp
    exact br_t h ⟨by decide, by decide, by decide, by decide, hp⟩
  · rw [if_neg h] at hp
    exact br_f h hp
theorem y_let0 {post : Int32 → Prop} {v : Int32} (hp : post (v - v / 6 * 6)) : wpY_letter post (tn, hh, th, pp, nn, kk, aw, co, vb, sk, sa, sw, pt, oy, wt) v 0 := br_t rfl ⟨by decide, hp⟩
theorem y_let1 {post : Int32 → Prop} {v : Int32} (hp : post (v / 6 - v / 6 / 6 * 6)) : wpY_letter post (tn, hh, th, pp, nn, kk, aw, co, vb, sk, sa, sw, pt, oy, wt) v 1 := br_f dt_10 (br_t rfl ⟨by decide, by decide, hp⟩)
theorem y_let2 {post : Int32 → Prop} {v : Int32} (hp : post (v / 36)) : wpY_letter post (tn, hh, th, pp, nn, kk, aw, co, vb, sk, sa, sw, pt, oy, wt) v 2 := br_f (by decide) (br_f (by decide) ⟨by decide, hp⟩)
theorem dt_34 (a : Int32) : a ≤ 3 ↔ a < 4 := by
  rw [Int32.le_iff_toInt_le, Int32.lt_iff_toInt_lt, show (3 : Int32).toInt = 3 from by decide, show (4 : Int32).toInt = 4 from by decide]
  omega
theorem yr_v {post : Int32 → Prop} {a v : Int32} (hp : post (dt_rk a v)) : wpY_rank post (tn, hh, th, pp, nn, kk, aw, co, vb, sk, sa, sw, pt, oy, wt) a v := by
  unfold wpY_rank; dsimp only
  unfold dt_rk at hp
  by_cases h : a < 4
  · rw [if_pos h] at hp
    refine br_t ((dt_34 a).mpr h) (y_let0 (y_let1 (y_let2 ?_)))
    rw [Int32.mul_comm 36, Int32.mul_comm 6]
    exact hp
  · rw [if_neg h] at hp
    exact br_f (fun z => h ((dt_34 a).mp z)) hp
theorem xg_31 {post : Int32 → Prop} {n m s : Nat} (hn : n < 2 ^ 31) (hm : m < 2 ^ 31) (h0 : 0 < s) (hs : s < 2 ^ 31) (hp : post (dt_b (n % s = m))) : wX_beginsWith_31 post (nI n) (nI m) (nI s) := by
  unfold wX_beginsWith_31
  rw [pk_rem hn h0 hs]
  have := Nat.mod_lt n h0
  refine ⟨nI_ne0 h0 hs, ?_⟩
  by_cases h : n % s = m
  · rw [dt_b1 h] at hp
    exact br_t (by rw [h]) hp
  · rw [dt_b0 h] at hp
    exact br_f (fun z => h ((nI_eq (by omega) hm).mp z)) hp
theorem xg_v {post : Int32 → Prop} {n m : Nat} (hn : n < 2 ^ 31) (hm : m < 2 ^ 31) (hp : post (dt_b (dt_BW n m = true))) : wpX_beginsWith post (nI n) (nI m) := by
  unfold wpX_beginsWith
  by_cases h0 : m = 0
  · rw [dt_b1 (by rw [h0]; rfl)] at hp
    exact br_t (by rw [h0]; rfl) hp
  · refine br_f (nI_ne0 (by omega) hm) ?_
    have e : (dt_BW n m = true) ↔ n % dt_sp m = m := by simp [dt_BW, h0]
    rw [dt_bc e] at hp
    unfold dt_sp at hp
    by_cases h1 : m < 6
    · rw [if_pos h1] at hp
      exact br_f (nI_ge (b := 6) h1 (by decide)) (xg_31 (s := 6) hn hm (by decide) (by decide) hp)
    · rw [if_neg h1] at hp
      refine br_t (nI_le (a := 6) (by omega) hm) ?_
      by_cases h2 : m < 36
      · rw [if_pos h2] at hp
        exact br_f (nI_ge (b := 36) h2 (by decide)) (xg_31 (s := 36) hn hm (by decide) (by decide) hp)
      · rw [if_neg h2] at hp
        exact br_t (nI_le (a := 36) (by omega) hm) (xg_31 (s := 216) hn hm (by decide) (by decide) hp)
end
end
section
/-! matches, what a kind allows, places of values -/
theorem dt_ltb {n k : Nat} (hn : n < 2 ^ 31) : dt_lt n k < 2 ^ 31 := by
  unfold dt_lt
  by_cases h0 : k = 0
  · rw [if_pos h0]; omega
  · rw [if_neg h0]
    by_cases h1 : k = 1
    · rw [if_pos h1]; omega
    · rw [if_neg h1]; omega
theorem dt_SA_iff {w v p : Nat} : dt_SA w v p = true ↔ (p + dt_ln v ≤ dt_ln w ∧ ∀ k, k < dt_ln v → dt_lt w (p + k) = dt_lt v k) := by
  simp [dt_SA]
section
variable {tn hh : Int32} {th pp nn kk aw co vb sk sa sw pt oy wt : Nat → Int32}
theorem y_sl {post : Int32 → Prop} {w v p : Nat} (hw : w < 216) (hv : v < 216) (hp3 : p < 3) : ∀ (d k : Nat) (g : Prop), k + d = dt_ln v → post (dt_b (g ∧ ∀ i, k ≤ i → i < dt_ln v → dt_lt w (p + i) = dt_lt v i)) → wY_standsAt_27 post (nI w) (nI v) (nI p) (nI (dt_ln v)) tn hh th pp nn kk aw co vb sk sa sw pt oy wt (d + 1) (dt_b g) (nI k) := by
  have hl3 := dt_ln3 v
  intro d
  induction d with
  | zero =>
    intro k g hk hp
    rw [dt_bc (d := g) ⟨fun z => z.1, fun z => ⟨z, fun i h1 h2 => by omega⟩⟩] at hp
    exact br_t (nI_le (by omega) (by omega)) ⟨dt_bn _, hp⟩
  | succ d ih =>
    intro k g hk hp
    rw [wY_standsAt_27]; dsimp only
    refine br_f (nI_ge (by omega) (by omega)) ?_
    by_cases hg : g
    · refine dt_tru hg ?_
      rw [nI_add]
      refine y_let (by omega) (by omega) (y_let (by omega) (by omega) ?_)
      by_cases h : dt_lt w (p + k) = dt_lt v k
      · refine br_t (by rw [h]) (nm_r (nI_1 k) ?_)
        have := ih (k + 1) True (by omega) (by
          rw [dt_bc (d := g ∧ ∀ i, k ≤ i → i < dt_ln v → dt_lt w (p + i) = dt_lt v i) ⟨fun z => ⟨hg, fun i h1 h2 => if e : i = k then by rw [e]; exact h else z.2 i (by omega) h2⟩, fun z => ⟨trivial, fun i h1 h2 => z.2 i (by omega) h2⟩⟩]
          exact hp)
        rw [dt_b1 trivial] at this
        exact this
      · refine br_f (fun z => h ((nI_eq (dt_ltb (by omega)) (dt_ltb (by omega))).mp z)) (nm_r (nI_1 k) ?_)
        have := ih (k + 1) False (by omega) (by
          rw [dt_bc (d := g ∧ ∀ i, k ≤ i → i < dt_ln v → dt_lt w (p + i) = dt_lt v i) ⟨fun z => z.1.elim, fun z => absurd (z.2 k (by omega) (by omega)) h⟩]
          exact hp)
        rw [dt_b0 (fun z => z)] at this
        exact this
    · refine dt_fls hg (nm_r (nI_1 k) ?_)
      have := ih (k + 1) False (by omega) (by
        rw [dt_bc (d := g ∧ ∀ i, k ≤ i → i < dt_ln v → dt_lt w (p + i) = dt_lt v i) ⟨fun z => z.1.elim, fun z => absurd z.1 hg⟩]
        exact hp)
      rw [dt_b0 (fun z => z)] at this
      exact this
theorem y_sv {post : Int32 → Prop} {w v p : Nat} (hw : w < 216) (hv : v < 216) (hp3 : p < 3) (hp : post (dt_b (dt_SA w v p = true))) : wpY_standsAt post (tn, hh, th, pp, nn, kk, aw, co, vb, sk, sa, sw, pt, oy, wt) (nI w) (nI v) (nI p) := by
  unfold wpY_standsAt; dsimp only
  refine y_len (by omega) (y_len (by omega) ?_)
  have l1 := dt_ln3 v
  have l2 := dt_ln3 w
  rw [nI_add]
  by_cases h : p + dt_ln v ≤ dt_ln w
  · refine br_t (nI_le h (by omega)) ?_
    have := y_sl (tn := tn) (hh := hh) (th := th) (pp := pp) (nn := nn) (kk := kk) (aw := aw) (co := co) (vb := vb) (sk := sk) (sa := sa) (sw := sw) (pt := pt) (oy := oy) (wt := wt) (post := post) hw hv hp3 (dt_ln v) 0 True (by omega) (by
      rw [dt_bc (d := dt_SA w v p = true) ⟨fun z => dt_SA_iff.mpr ⟨h, fun k hk => z.2 k (by omega) hk⟩, fun z => ⟨trivial, fun i _ hi => (dt_SA_iff.mp z).2 i hi⟩⟩]
      exact hp)
    rw [dt_b1 trivial] at this
    exact ⟨_, this⟩
  · rw [dt_b0 (fun z => h (dt_SA_iff.mp z).1)] at hp
    exact br_f (nI_ge (by omega) (by omega)) hp
theorem y_ml {post : Int32 → Prop} {w v : Nat} (hw : w < 216) (hv : v < 216) : ∀ (d k : Nat) (g : Prop), k + d = 3 → post (dt_b (g ∨ ∃ i, k ≤ i ∧ i < 3 ∧ dt_SA w v i = true)) → wY_meets_63 post 4 (nI w) (nI v) tn hh th pp nn kk aw co vb sk sa sw pt oy wt (d + 1) (dt_b g) (nI k) := by
  intro d
  induction d with
  | zero =>
    intro k g hk hp
    rw [dt_bc (d := g) ⟨fun z => z.elim id (fun ⟨i, a, b, _⟩ => by omega), Or.inl⟩] at hp
    exact br_t (nI_le (a := 3) (by omega) (by omega)) ⟨dt_bn _, hp⟩
  | succ d ih =>
    intro k g hk hp
    rw [wY_meets_63]; dsimp only
    refine br_f (nI_ge (b := 3) (by omega) (by decide)) (br_t rfl ?_)
    by_cases hg : g
    · refine dt_tru hg (nm_r (nI_1 k) ?_)
      have := ih (k + 1) True (by omega) (by
        rw [dt_bc (d := g ∨ ∃ i, k ≤ i ∧ i < 3 ∧ dt_SA w v i = true) ⟨fun _ => Or.inl hg, fun _ => Or.inl trivial⟩]
        exact hp)
      rw [dt_b1 trivial] at this
      exact this
    · refine dt_fls hg (y_sv hw hv (by omega) ?_)
      by_cases h : dt_SA w v k = true
      · refine dt_tru h (nm_r (nI_1 k) ?_)
        have := ih (k + 1) True (by omega) (by
          rw [dt_bc (d := g ∨ ∃ i, k ≤ i ∧ i < 3 ∧ dt_SA w v i = true) ⟨fun _ => Or.inr ⟨k, by omega, by omega, h⟩, fun _ => Or.inl trivial⟩]
          exact hp)
        rw [dt_b1 trivial] at this
        exact this
      · refine dt_fls h (nm_r (nI_1 k) ?_)
        have := ih (k + 1) False (by omega) (by
          rw [dt_bc (d := g ∨ ∃ i, k ≤ i ∧ i < 3 ∧ dt_SA w v i = true) ⟨fun z => z.elim False.elim (fun ⟨i, a, b, c⟩ => Or.inr ⟨i, by omega, b, c⟩), fun z => z.elim (fun q => absurd q hg) (fun ⟨i, a, b, c⟩ => Or.inr ⟨i, by
            by_cases e : i = k
            · subst e; exact absurd c h
            · omega, b, c⟩)⟩]
          exact hp)
        rw [dt_b0 (fun z => z)] at this
        exact this
/-- one truth for both sides' matches -/
theorem m_v {j : Nat} (hj : j < 5) {a val v : Int32} (hw : 2 < j → dt_Wi val ∧ dt_Wi v) : ∃ c : Prop, (∀ post : Int32 → Prop, post (dt_b c) → wpX_isMatch post (nI j) a val v) ∧ (∀ (post : Int32 → Prop) (tn hh : Int32) (th pp nn kk aw co vb sk sa sw pt oy wt : Nat → Int32), post (dt_b c) → wpY_meets post (tn, hh, th, pp, nn, kk, aw, co, vb, sk, sa, sw, pt, oy, wt) (nI j) a val v) := by
  have hj5 : j = 0 ∨ j = 1 ∨ j = 2 ∨ j = 3 ∨ j = 4 := by omega
  rcases hj5 with rfl | rfl | rfl | rfl | rfl
  · refine ⟨True, fun post hp => ?_, fun post tn hh th pp nn kk aw co vb sk sa sw pt oy wt hp => ?_⟩
    · rw [dt_b1 trivial] at hp
      exact br_f (by decide) (br_f (by decide) (br_t rfl hp))
    · rw [dt_b1 trivial] at hp
      exact br_t rfl hp
  · refine ⟨val = v, fun post hp => ?_, fun post tn hh th pp nn kk aw co vb sk sa sw pt oy wt hp => ?_⟩
    · refine br_f (by decide) (br_f (by decide) (br_f (by decide) (br_t rfl ?_)))
      by_cases h : val = v
      · rw [dt_b1 h] at hp; exact br_t h hp
      · rw [dt_b0 h] at hp; exact br_f h hp
    · refine br_f (by decide) (br_t rfl ?_)
      by_cases h : val = v
      · rw [dt_b1 h] at hp; exact br_t h hp
      · rw [dt_b0 h] at hp; exact br_f h hp
  · refine ⟨¬ dt_rk a val < dt_rk a v, fun post hp => ?_, fun post tn hh th pp nn kk aw co vb sk sa sw pt oy wt hp => ?_⟩
    · refine br_f (by decide) (br_f (by decide) (br_f (by decide) (br_f (by decide) (br_t rfl (xr_v (xr_v ?_))))))
      by_cases h : dt_rk a val < dt_rk a v
      · rw [dt_b0 (fun z => z h)] at hp; exact br_t h hp
      · rw [dt_b1 h] at hp; exact br_f h hp
    · refine br_f (by decide) (br_f (by decide) (br_t rfl (yr_v (yr_v ?_))))
      by_cases h : dt_rk a val < dt_rk a v
      · rw [dt_b0 (fun z => z h)] at hp; exact br_t h hp
      · rw [dt_b1 h] at hp; exact br_f h hp
  · obtain ⟨⟨n, rfl, hn⟩, ⟨m, rfl, hm⟩⟩ := hw (by omega)
    have n216 := hn.1
    have m216 := hm.1
    refine ⟨dt_BW n m = true, fun post hp => ?_, fun post tn hh th pp nn kk aw co vb sk sa sw pt oy wt hp => ?_⟩
    · exact br_f (by decide) (br_f (by decide) (br_f (by decide) (br_f (by decide) (br_f (by decide) (br_t rfl (xg_v (by omega) (by omega) ⟨dt_bn _, hp⟩))))))
    · refine br_f (by decide) (br_f (by decide) (br_f (by decide) (y_sv (p := 0) n216 m216 (by decide) ⟨1, ?_⟩)))
      rw [(dt_ck2 hn hm).1]
      exact br_f (by decide) (br_f (by decide) ⟨dt_bn _, hp⟩)
  · obtain ⟨⟨n, rfl, hn⟩, ⟨m, rfl, hm⟩⟩ := hw (by omega)
    have n216 := hn.1
    have m216 := hm.1
    refine ⟨(dt_BW n m || dt_BW (n / 6) m || dt_BW (n / 36) m) = true, fun post hp => ?_, fun post tn hh th pp nn kk aw co vb sk sa sw pt oy wt hp => ?_⟩
    · refine br_f (by decide) (br_t (by decide) (xg_v (by omega) (by omega) ?_))
      by_cases h1 : dt_BW n m = true
      · rw [dt_b1 (by rw [h1]; rfl)] at hp
        exact dt_tru h1 hp
      · refine dt_fls h1 ⟨by decide, ?_⟩
        rw [show nI n / 6 = nI (n / 6) from pk_div (d := 6) (by omega) (by decide) (by decide)]
        refine xg_v (by omega) (by omega) ?_
        by_cases h2 : dt_BW (n / 6) m = true
        · rw [dt_b1 (by rw [h2]; simp)] at hp
          exact dt_tru h2 hp
        · refine dt_fls h2 ⟨by decide, ?_⟩
          rw [show nI n / 36 = nI (n / 36) from pk_div (d := 36) (by omega) (by decide) (by decide)]
          refine xg_v (by omega) (by omega) ?_
          by_cases h3 : dt_BW (n / 36) m = true
          · rw [dt_b1 (by rw [h3]; simp)] at hp
            exact dt_tru h3 hp
          · rw [dt_b0 (by simp [h1, h2, h3])] at hp
            exact dt_fls h3 hp
    · rw [← (dt_ck2 hn hm).2] at hp
      refine br_f (by decide) (br_f (by decide) (br_f (by decide) (y_sv (p := 0) n216 m216 (by decide) ⟨3, ?_⟩)))
      exact y_ml n216 m216 2 1 (dt_SA n m 0 = true) rfl (by
        rw [dt_bc (d := (dt_SA n m 0 || dt_SA n m 1 || dt_SA n m 2) = true) ⟨fun z => by
          rcases z with z | ⟨i, a1, a2, a3⟩
          · simp [z]
          · rcases (show i = 1 ∨ i = 2 by omega) with rfl | rfl <;> simp [a3], fun z => by
          simp only [Bool.or_eq_true] at z
          rcases z with (z | z) | z
          · exact Or.inl z
          · exact Or.inr ⟨1, by omega, by omega, z⟩
          · exact Or.inr ⟨2, by omega, by omega, z⟩⟩]
        exact hp)
end
section
variable {ec tc fc : Int32} {tk pa na cl od al vc va tK tA tV tF : Nat → Int32}
variable {tn hh : Int32} {th pp nn kk aw co vb sk sa sw pt oy wt : Nat → Int32}
def dt_al (al cl : Nat → Int32) (e : Nat) (a : Int32) : Prop := ((al (cl e).toNatClampNeg) >>> (a &&& 31)) &&& 1 = 1
theorem xl_v {post : Int32 → Prop} {e : Nat} {a : Int32} (he : e < 24) (hc : dt_L 4 (cl e)) (hp : post (dt_b (dt_al al cl e a))) : wpX_isAllowed post (ec, tc, fc, tk, pa, na, cl, od, al, vc, va, tK, tA, tV, tF) (nI e) a := by
  unfold wpX_isAllowed; dsimp only
  rw [nI_clamp (by omega)]
  obtain ⟨c, hc4, ec⟩ := hc
  refine ⟨vp_in_nI he (by decide), by rw [ec]; exact vp_in_nI hc4 (by decide), ?_⟩
  by_cases h : dt_al al cl e a
  · rw [dt_b1 h] at hp; exact br_t h hp
  · rw [dt_b0 h] at hp; exact br_f h hp
theorem yl_v {post : Int32 → Prop} {e : Nat} {a : Int32} (he : e < 24) (hc : dt_L 4 (kk e)) (hp : post (dt_b (dt_al aw kk e a))) : wpY_allows post (tn, hh, th, pp, nn, kk, aw, co, vb, sk, sa, sw, pt, oy, wt) (nI e) a := by
  unfold wpY_allows; dsimp only
  rw [nI_clamp (by omega)]
  obtain ⟨c, hc4, ec⟩ := hc
  refine ⟨vp_in_nI he (by decide), by rw [ec]; exact vp_in_nI hc4 (by decide), ?_⟩
  by_cases h : dt_al aw kk e a
  · rw [dt_b1 h] at hp; exact br_t h hp
  · rw [dt_b0 h] at hp; exact br_f h hp
noncomputable def dt_pl (va : Nat → Int32) (s c : Nat) (v : Int32) : Option Nat := dt_fd (fun k => va (s * 4 + k) = v) c 0
theorem xp_l {post : Int32 → Prop} {s c : Nat} {v : Int32} (hs : s < 144) (hc : vc s = nI c) (hc4 : c ≤ 4) : ∀ d k : Nat, k + d = c → post (dt_o (-1) (dt_fd (fun k => va (s * 4 + k) = v) d k)) → wX_placeOf_2 post (nI s) v ec tc fc tk pa na cl od al vc va tK tA tV tF (d + 1) (nI k) := by
  intro d
  induction d with
  | zero =>
    intro k hk hp
    rw [wX_placeOf_2]; dsimp only
    rw [nI_clamp (by omega), hc]
    exact ⟨vp_in_nI hs (by decide), br_t (nI_le (by omega) (by omega)) hp⟩
  | succ d ih =>
    intro k hk hp
    have e1 : nI s * 4 + nI k = nI (s * 4 + k) := by rw [show nI s * 4 = nI (s * 4) from pk_mul s 4, nI_add]
    rw [wX_placeOf_2]; dsimp only
    rw [nI_clamp (by omega), hc, e1, nI_clamp (by omega)]
    refine ⟨vp_in_nI hs (by decide), br_f (nI_ge (by omega) (by omega)) ⟨vp_in_nI (by omega) (by decide), ?_⟩⟩
    by_cases h : va (s * 4 + k) = v
    · rw [dt_fdy h] at hp; exact br_t h hp
    · rw [dt_fdn h] at hp; exact br_f h (nm_r (nI_1 k) (ih (k + 1) (by omega) hp))
theorem xp_v {post : Int32 → Prop} {s c : Nat} {v : Int32} (hs : s < 144) (hc : vc s = nI c) (hc4 : c ≤ 4) (hp : post (dt_o (-1) (dt_pl va s c v))) : wpX_placeOf post (ec, tc, fc, tk, pa, na, cl, od, al, vc, va, tK, tA, tV, tF) (nI s) v := ⟨c + 1, xp_l hs hc hc4 c 0 (by omega) hp⟩
theorem yp_l {post : Int32 → Prop} {s c : Nat} {v : Int32} (hs : s < 144) (hc : co s = nI c) (hc4 : c ≤ 4) : ∀ d k : Nat, k + d = c → post (dt_o (-1) (dt_fd (fun k => vb (s * 4 + k) = v) d k)) → wY_placeOf_11 post v (nI s) tn hh th pp nn kk aw co vb sk sa sw pt oy wt (d + 1) (nI k) := by
  intro d
  induction d with
  | zero =>
    intro k hk hp
    rw [wY_placeOf_11]; dsimp only
    rw [nI_clamp (by omega), hc]
    exact ⟨vp_in_nI hs (by decide), br_t (nI_le (by omega) (by omega)) hp⟩
  | succ d ih =>
    intro k hk hp
    have e1 : 4 * nI s + nI k = nI (s * 4 + k) := by rw [Int32.mul_comm, show nI s * 4 = nI (s * 4) from pk_mul s 4, nI_add]
    rw [wY_placeOf_11]; dsimp only
    rw [nI_clamp (by omega), hc, e1, nI_clamp (by omega)]
    refine ⟨vp_in_nI hs (by decide), br_f (nI_ge (by omega) (by omega)) ⟨vp_in_nI (by omega) (by decide), ?_⟩⟩
    by_cases h : vb (s * 4 + k) = v
    · rw [dt_fdy h] at hp; exact br_t h hp
    · rw [dt_fdn h] at hp; exact br_f h (nm_r (nI_1 k) (ih (k + 1) (by omega) hp))
theorem dt_6x (e a : Nat) : nI e * 6 + nI a = nI (e * 6 + a) := by rw [show nI e * 6 = nI (e * 6) from pk_mul e 6, nI_add]
theorem dt_6y (e a : Nat) : 6 * nI e + nI a = nI (e * 6 + a) := by rw [Int32.mul_comm, dt_6x]
theorem dt_4x (e a : Nat) : nI e * 4 + nI a = nI (e * 4 + a) := by rw [show nI e * 4 = nI (e * 4) from pk_mul e 4, nI_add]
theorem dt_4y (e a : Nat) : 4 * nI e + nI a = nI (e * 4 + a) := by rw [Int32.mul_comm, dt_4x]
theorem yp_v {post : Int32 → Prop} {e a c : Nat} {v : Int32} (he : e < 24) (ha : a < 6) (hc : co (e * 6 + a) = nI c) (hc4 : c ≤ 4) (hp : post (dt_o (-1) (dt_pl vb (e * 6 + a) c v))) : wpY_placeOf post (tn, hh, th, pp, nn, kk, aw, co, vb, sk, sa, sw, pt, oy, wt) (nI e) (nI a) v := by
  unfold wpY_placeOf; dsimp only
  exact nm_r (dt_6y e a) ⟨c + 1, yp_l (by omega) hc hc4 c 0 (by omega) hp⟩
end
end
section
/-! simple filters and the stack: one value on both sides -/
def dt_fit (j : Nat) (a v : Int32) : Prop := j = 0 ∨ ((j < 3 ∨ a < 4) ∧ dt_CB a v)
def dt_V (tk vc co va : Nat → Int32) : Prop := ∀ e, e < 24 → ∀ a, a < 6 → ∃ c : Nat, c ≤ 4 ∧ vc (e * 6 + a) = nI c ∧ (tk e ≠ 0 → co (e * 6 + a) = nI c) ∧ (tk e = 0 → c = 0) ∧ (a < 4 → ∀ k, k < c → dt_Wi (va ((e * 6 + a) * 4 + k)))
def dt_K (tc fc : Nat) (tK tA tV tF : Nat → Int32) : Prop := ∃ h : Nat → Nat, h 0 = 0 ∧ h tc = fc ∧ tc ≤ 20 ∧ fc ≤ 6 ∧ ∀ t, t < tc → h (t + 1) ≤ 6 ∧ ∃ j : Nat, j < 8 ∧ tK t = nI j ∧ (j < 5 → h (t + 1) = h t + 1 ∧ dt_L 6 (tA t) ∧ tF t = dt_b (dt_fit j (tA t) (tV t))) ∧ (j = 5 → 1 ≤ h t ∧ h (t + 1) = h t) ∧ (5 < j → 2 ≤ h t ∧ h (t + 1) + 1 = h t)
section
variable {ec tc fc : Int32} {tk pa na cl od al vc va tK tA tV tF : Nat → Int32} {co pt oy wt : Nat → Int32}
/-- the loops over an entry's values -/
theorem s_l2 {e a c j : Nat} {v : Int32} (he : e < 24) (ha : a < 6) (hx : vc (e * 6 + a) = nI c) (hy : co (e * 6 + a) = nI c) (hc4 : c ≤ 4) (hj : j < 5) (hw : 2 < j → dt_Wi v ∧ ∀ k, k < c → dt_Wi (va ((e * 6 + a) * 4 + k))) : ∀ d k : Nat, k + d = c → ∃ g : Prop, (∀ post : Int32 → Prop, post (dt_b g) → wX_compared_55 post (nI j) (nI a) v (nI (e * 6 + a)) ec tc fc tk pa na cl od al vc va tK tA tV tF (d + 1) (nI k)) ∧ (∀ (post : Int32 → Prop) (pt oy wt : Nat → Int32), post (dt_b g) → wY_simple_47 post (nI j) (nI a) v (nI (e * 6 + a)) tc fc tk pa na cl al co va tK tA tV pt oy wt (d + 1) (nI k)) := by
  intro d
  induction d with
  | zero =>
    intro k hk
    refine ⟨False, fun post hp => ?_, fun post pt oy wt hp => ?_⟩
    · rw [dt_b0 (fun z => z)] at hp
      rw [wX_compared_55]; dsimp only
      rw [nI_clamp (by omega), hx]
      exact ⟨vp_in_nI (by omega) (by decide), br_t (nI_le (by omega) (by omega)) hp⟩
    · rw [dt_b0 (fun z => z)] at hp
      rw [wY_simple_47]; dsimp only
      rw [nI_clamp (by omega), hy]
      exact ⟨vp_in_nI (by omega) (by decide), br_t (nI_le (by omega) (by omega)) hp⟩
  | succ d ih =>
    intro k hk
    obtain ⟨g, gx, gy⟩ := ih (k + 1) (by omega)
    obtain ⟨c1, cx, cy⟩ := m_v hj (a := nI a) (val := va ((e * 6 + a) * 4 + k)) (v := v) (fun h => ⟨(hw h).2 k (by omega), (hw h).1⟩)
    refine ⟨c1 ∨ g, fun post hp => ?_, fun post pt oy wt hp => ?_⟩
    · rw [wX_compared_55]; dsimp only
      rw [nI_clamp (show e * 6 + a < 2 ^ 31 by omega), hx, dt_4x, nI_clamp (by omega)]
      refine ⟨vp_in_nI (by omega) (by decide), br_f (nI_ge (by omega) (by omega)) ⟨vp_in_nI (by omega) (by decide), cx _ ?_⟩⟩
      by_cases h : c1
      · rw [dt_b1 (Or.inl h)] at hp
        exact dt_tru h hp
      · rw [dt_bc (d := g) ⟨fun z => z.resolve_left h, Or.inr⟩] at hp
        exact dt_fls h (nm_r (nI_1 k) (gx post hp))
    · rw [wY_simple_47]; dsimp only
      rw [nI_clamp (show e * 6 + a < 2 ^ 31 by omega), hy, dt_4y, nI_clamp (by omega)]
      refine ⟨vp_in_nI (by omega) (by decide), br_f (nI_ge (by omega) (by omega)) ⟨vp_in_nI (by omega) (by decide), cy _ _ _ _ _ _ _ _ _ _ _ _ _ _ _ _ ?_⟩⟩
      by_cases h : c1
      · rw [dt_b1 (Or.inl h)] at hp
        exact dt_tru h hp
      · rw [dt_bc (d := g) ⟨fun z => z.resolve_left h, Or.inr⟩] at hp
        exact dt_fls h (nm_r (nI_1 k) (gy post pt oy wt hp))
theorem dt_CB4 {a : Nat} {v : Int32} (ha : a < 4) (h : dt_CB (nI a) v) : dt_Wi v := by
  rcases h with h | h
  · exact absurd h.1 (nI_ge (b := 4) ha (by decide))
  · exact h.2
theorem s_v {e t j : Nat} (he : e < 24) (ht : tk e ≠ 0) (hc : ∀ e, e < 24 → dt_L 4 (cl e)) (V : dt_V tk vc co va) (ht20 : t < 20) (hj : j < 5) (hk : tK t = nI j) (ha : dt_L 6 (tA t)) (hf : tF t = dt_b (dt_fit j (tA t) (tV t))) : ∃ r : Nat, r < 3 ∧ (∀ post : Int32 → Prop, post (nI r) → wpX_compared post (ec, tc, fc, tk, pa, na, cl, od, al, vc, va, tK, tA, tV, tF) (nI e) (nI t)) ∧ (∀ (post : Int32 → Prop) (pt oy wt : Nat → Int32), post (nI r) → wpY_simple post (tc, fc, tk, pa, na, cl, al, co, va, tK, tA, tV, pt, oy, wt) (tK t) (tA t) (tV t) (nI e)) := by
  obtain ⟨a, ha6, ea⟩ := ha
  obtain ⟨c, hc4, hx, hy, _, hww⟩ := V e he a ha6
  have hy := hy ht
  rw [ea] at hf
  have hvt : vp_in (nI t) 20 := vp_in_nI ht20 (by decide)
  by_cases hF : dt_fit j (nI a) (tV t)
  · by_cases hA : dt_al al cl e (nI a)
    · have hw : 2 < j → a < 4 := fun h => by
        rcases hF with q | ⟨q, _⟩
        · omega
        · rcases q with q | q
          · omega
          · exact (nI_ltI (b := 4) (by omega) (by decide)).mp q
      obtain ⟨g, gx, gy⟩ := s_l2 (ec := ec) (tc := tc) (fc := fc) (tk := tk) (pa := pa) (na := na) (cl := cl) (od := od) (al := al) (vc := vc) (va := va) (tK := tK) (tA := tA) (tV := tV) (tF := tF) (co := co) (v := tV t) he ha6 hx hy hc4 hj (fun h => ⟨by
        rcases hF with q | ⟨_, q⟩
        · omega
        · exact dt_CB4 (hw h) q, hww (hw h)⟩) c 0 (by omega)
      have hr : ∃ r : Nat, r < 3 ∧ dt_b g = nI r := by
        rcases dt_b01 g with q | q
        · exact ⟨0, by omega, q⟩
        · exact ⟨1, by omega, q⟩
      obtain ⟨r, hr3, er⟩ := hr
      refine ⟨r, hr3, fun post hp => ?_, fun post pt oy wt hp => ?_⟩
      · rw [← er] at hp
        unfold wpX_compared; dsimp only
        rw [nI_clamp (by omega), hf, hk, ea]
        refine ⟨hvt, nm_e ⟨hvt, nm_e ⟨hvt, nm_e ⟨hvt, dt_tru hF (xl_v he (hc e he) (dt_tru hA ?_))⟩⟩⟩⟩
        unfold wpX_setOf
        rw [dt_6x]
        exact ⟨_, gx post hp⟩
      · rw [← er] at hp
        unfold wpY_simple; dsimp only
        rw [hk, ea]
        have h35 : wY_simple_35 post (nI j) (nI a) (tV t) (nI e) tc fc tk pa na cl al co va tK tA tV pt oy wt := nm_r (dt_6y e a) ⟨_, gy post pt oy wt hp⟩
        have h23 : wY_simple_23 post (nI j) (nI a) (tV t) (nI e) tc fc tk pa na cl al co va tK tA tV pt oy wt := by
          unfold wY_simple_23
          by_cases h2 : 2 < j
          · have := hw h2
            exact br_f (nI_ge (a := 2) h2 (by omega)) (br_t (nI_le (b := 3) (by omega) (by decide)) h35)
          · exact br_t (nI_le (b := 2) (by omega) (by decide)) h35
        refine yl_v he (hc e he) (dt_tru hA ?_)
        by_cases h0 : j = 0
        · exact br_t (by rw [h0]; decide) h23
        · refine br_f (nI_nle (by omega) (by omega)) (yb_v ?_)
          rcases hF with q | ⟨_, q⟩
          · omega
          · exact dt_tru q h23
    · refine ⟨2, by omega, fun post hp => ?_, fun post pt oy wt hp => ?_⟩
      · unfold wpX_compared; dsimp only
        rw [nI_clamp (by omega), hf, hk, ea]
        exact ⟨hvt, nm_e ⟨hvt, nm_e ⟨hvt, nm_e ⟨hvt, dt_tru hF (xl_v he (hc e he) (dt_fls hA hp))⟩⟩⟩⟩
      · unfold wpY_simple; dsimp only
        rw [hk, ea]
        exact yl_v he (hc e he) (dt_fls hA hp)
  · refine ⟨2, by omega, fun post hp => ?_, fun post pt oy wt hp => ?_⟩
    · unfold wpX_compared; dsimp only
      rw [nI_clamp (by omega), hf, hk, ea]
      exact ⟨hvt, nm_e ⟨hvt, nm_e ⟨hvt, nm_e ⟨hvt, dt_fls hF hp⟩⟩⟩⟩
    · unfold wpY_simple; dsimp only
      rw [hk, ea]
      refine yl_v he (hc e he) ?_
      by_cases hA : dt_al al cl e (nI a)
      · have h0 : j ≠ 0 := fun z => hF (Or.inl z)
        refine dt_tru hA (br_f (nI_nle (by omega) (by omega)) (yb_v ?_))
        by_cases hB : dt_CB (nI a) (tV t)
        · refine dt_tru hB ?_
          unfold wY_simple_23
          have h2 : 2 < j := Classical.byContradiction fun z => hF (Or.inr ⟨Or.inl (by omega), hB⟩)
          have h4 : 3 < a := Classical.byContradiction fun z => hF (Or.inr ⟨Or.inr (nI_lt (b := 4) (by omega) (by decide)), hB⟩)
          exact br_f (nI_ge (a := 2) h2 (by omega)) (br_f (nI_ge (a := 3) h4 (by omega)) hp)
        · exact dt_fls hB hp
      · exact dt_fls hA hp
end
/-! three truth values -/
def dt_neg (f : Nat) : Nat := if f = 2 then 2 else 1 - f
def dt_and (f g : Nat) : Nat := if f = 0 ∨ g = 0 then 0 else if f = 1 ∧ g = 1 then 1 else 2
def dt_orr (f g : Nat) : Nat := if f = 1 ∨ g = 1 then 1 else if f = 0 ∧ g = 0 then 0 else 2
theorem dt_c3 {P : Nat → Prop} (h0 : P 0) (h1 : P 1) (h2 : P 2) {f : Nat} (hf : f < 3) : P f := by
  rcases (show f = 0 ∨ f = 1 ∨ f = 2 by omega) with rfl | rfl | rfl <;> assumption
theorem dt_neg3 {f : Nat} (hf : f < 3) : dt_neg f < 3 := dt_c3 (P := fun f => dt_neg f < 3) (by decide) (by decide) (by decide) hf
theorem dt_and3 {f g : Nat} : dt_and f g < 3 := by
  unfold dt_and
  by_cases h1 : f = 0 ∨ g = 0
  · rw [if_pos h1]; omega
  · rw [if_neg h1]
    by_cases h2 : f = 1 ∧ g = 1
    · rw [if_pos h2]; omega
    · rw [if_neg h2]; omega
theorem dt_orr3 {f g : Nat} : dt_orr f g < 3 := by
  unfold dt_orr
  by_cases h1 : f = 1 ∨ g = 1
  · rw [if_pos h1]; omega
  · rw [if_neg h1]
    by_cases h2 : f = 0 ∧ g = 0
    · rw [if_pos h2]; omega
    · rw [if_neg h2]; omega
theorem dt_dm {f g : Nat} (hf : f < 3) (hg : g < 3) : dt_neg (dt_and (dt_neg f) (dt_neg g)) = dt_orr f g := by
  rcases (show f = 0 ∨ f = 1 ∨ f = 2 by omega) with rfl | rfl | rfl <;> rcases (show g = 0 ∨ g = 1 ∨ g = 2 by omega) with rfl | rfl | rfl <;> rfl
section
variable {ec tc fc : Int32} {tk pa na cl od al vc va tK tA tV tF : Nat → Int32}
variable {tn hh : Int32} {th pp nn kk aw co vb sk sa sw pt oy wt : Nat → Int32}
theorem xt_neg {post : Int32 → Prop} {f : Nat} (hf : f < 3) (hp : post (nI (dt_neg f))) : wpX_negated post (nI f) := by
  rcases (show f = 0 ∨ f = 1 ∨ f = 2 by omega) with rfl | rfl | rfl
  · exact br_f (by decide) (br_f (by decide) hp)
  · exact br_f (by decide) (br_t rfl hp)
  · exact br_t rfl hp
theorem yt_neg {post : Int32 → Prop} {f : Nat} (hf : f < 3) (hp : post (nI (dt_neg f))) : wpY_turned post (tn, hh, th, pp, nn, kk, aw, co, vb, sk, sa, sw, pt, oy, wt) (nI f) := by
  rcases (show f = 0 ∨ f = 1 ∨ f = 2 by omega) with rfl | rfl | rfl
  · exact br_f (by decide) hp
  · exact br_f (by decide) hp
  · exact br_t rfl hp
theorem xt_and {post : Int32 → Prop} {f g : Nat} (hf : f < 3) (hg : g < 3) (hp : post (nI (dt_and f g))) : wpX_both post (nI f) (nI g) := by
  rcases (show f = 0 ∨ f = 1 ∨ f = 2 by omega) with rfl | rfl | rfl <;> rcases (show g = 0 ∨ g = 1 ∨ g = 2 by omega) with rfl | rfl | rfl <;>
  first
  | exact br_t rfl hp
  | exact br_f (by decide) (br_t rfl hp)
  | exact br_f (by decide) (br_f (by decide) (br_t rfl (br_t rfl hp)))
  | exact br_f (by decide) (br_f (by decide) (br_t rfl (br_f (by decide) hp)))
  | exact br_f (by decide) (br_f (by decide) (br_f (by decide) hp))
theorem yt_and {post : Int32 → Prop} {f g : Nat} (hf : f < 3) (hg : g < 3) (hp : post (nI (dt_and f g))) : wpY_both post (tn, hh, th, pp, nn, kk, aw, co, vb, sk, sa, sw, pt, oy, wt) (nI f) (nI g) := by
  rcases (show f = 0 ∨ f = 1 ∨ f = 2 by omega) with rfl | rfl | rfl <;> rcases (show g = 0 ∨ g = 1 ∨ g = 2 by omega) with rfl | rfl | rfl <;>
  first
  | exact br_t rfl hp
  | exact br_f (by decide) (br_t rfl hp)
  | exact br_f (by decide) (br_f (by decide) (br_t rfl (br_t rfl hp)))
  | exact br_f (by decide) (br_f (by decide) (br_t rfl (br_f (by decide) hp)))
  | exact br_f (by decide) (br_f (by decide) (br_f (by decide) hp))
theorem xt_or {post : Int32 → Prop} {f g : Nat} (hf : f < 3) (hg : g < 3) (hp : post (nI (dt_orr f g))) : wpX_either post (nI f) (nI g) := by
  rcases (show f = 0 ∨ f = 1 ∨ f = 2 by omega) with rfl | rfl | rfl <;> rcases (show g = 0 ∨ g = 1 ∨ g = 2 by omega) with rfl | rfl | rfl <;>
  first
  | exact br_t rfl hp
  | exact br_f (by decide) (br_t rfl hp)
  | exact br_f (by decide) (br_f (by decide) (br_t rfl (br_t rfl hp)))
  | exact br_f (by decide) (br_f (by decide) (br_t rfl (br_f (by decide) hp)))
  | exact br_f (by decide) (br_f (by decide) (br_f (by decide) hp))
end
/-! the packed stack -/
def dt_enc : List Nat → Nat
  | [] => 0
  | x :: L => dt_enc L * 4 + x
theorem dt_enc_lt : ∀ L : List Nat, (∀ x, x ∈ L → x < 3) → dt_enc L < 4 ^ L.length := by
  intro L
  induction L with
  | nil => intro _; decide
  | cons x L ih =>
    intro h
    have h1 := ih (fun y hy => h y (List.mem_cons_of_mem _ hy))
    have h2 := h x (List.mem_cons_self ..)
    rw [dt_enc, List.length_cons, Nat.pow_succ]
    omega
theorem dt_enc6 {L : List Nat} (h : ∀ x, x ∈ L → x < 3) (hl : L.length ≤ 6) : dt_enc L < 4096 :=
  Nat.lt_of_lt_of_le (dt_enc_lt L h) (Nat.pow_le_pow_right (by decide) hl)
theorem dt_or {b a : Nat} (ha : a < 4) (h : b * 4 + a < 2 ^ 31) : nI (b * 4) ||| nI a = nI (b * 4 + a) := by
  apply Int32.toBitVec_inj.mp
  apply BitVec.eq_of_toNat_eq
  have h1 : b * 2 ^ 2 ||| a = b * 2 ^ 2 + a := by rw [← Nat.shiftLeft_eq, Nat.shiftLeft_add_eq_or_of_lt (show a < 2 ^ 2 from ha)]
  rw [Int32.toBitVec_or, BitVec.toNat_or, pk_tn (by omega), pk_tn (by omega), pk_tn (by omega)]
  exact h1
theorem dt_shl {b : Nat} (h : b < 2 ^ 29) : nI b <<< ((2 : Int32) &&& 31) = nI (b * 4) := pk_shlN (n := b) _ 2 (by decide) (by omega)
theorem dt_shr {b : Nat} (h : b < 2 ^ 31) : nI b >>> ((2 : Int32) &&& 31) = nI (b / 4) := pk_shrN (n := b) h _ 2 (by decide)
theorem dt_and3' {b : Nat} (h : b < 2 ^ 31) : nI b &&& 3 = nI (b % 4) := pk_andN (n := b) (by omega) 2 (by decide)
section
variable {ec tc fc : Int32} {tk pa na cl od al vc va tK tA tV tF : Nat → Int32} {co pt oy wt : Nat → Int32}
theorem t_l {e fcn tcn : Nat} {h : Nat → Nat} (he : e < 24) (ht : tk e ≠ 0) (hc : ∀ e, e < 24 → dt_L 4 (cl e)) (V : dt_V tk vc co va) (hf : h tcn = fcn) (hf1 : 1 ≤ fcn) (h20 : tcn ≤ 20) (hh : ∀ t, t < tcn → h (t + 1) ≤ 6 ∧ ∃ j : Nat, j < 8 ∧ tK t = nI j ∧ (j < 5 → h (t + 1) = h t + 1 ∧ dt_L 6 (tA t) ∧ tF t = dt_b (dt_fit j (tA t) (tV t))) ∧ (j = 5 → 1 ≤ h t ∧ h (t + 1) = h t) ∧ (5 < j → 2 ≤ h t ∧ h (t + 1) + 1 = h t)) : ∀ (d t : Nat) (L : List Nat), t + d = tcn → L.length = h t → L.length ≤ 6 → (∀ x, x ∈ L → x < 3) → ∃ r : Nat, r < 3 ∧ (∀ post : Int32 → Prop, post (nI r) → wX_topFor_4 post (nI e) ec (nI tcn) fc tk pa na cl od al vc va tK tA tV tF (d + 1) (nI (dt_enc L)) (nI t)) ∧ (∀ (post : Int32 → SY → Prop) (pt oy wt : Nat → Int32), dt_stk pt L → (∀ pt' : Nat → Int32, post (nI r) (nI tcn, fc, tk, pa, na, cl, al, co, va, tK, tA, tV, pt', oy, wt)) → wY_truth_4 post (nI e) (nI tcn) fc (d + 1) (nI L.length) (nI t) tk pa na cl al co va tK tA tV pt oy wt) := by
  intro d
  induction d with
  | zero =>
    intro t L htd hL hL6 h3
    have e1 : t = tcn := by omega
    subst e1
    cases L with
    | nil => simp only [List.length_nil] at hL; omega
    | cons x L =>
      have hx := h3 x (List.mem_cons_self ..)
      have hb := dt_enc6 h3 hL6
      refine ⟨x, hx, fun post hp => ?_, fun post pt oy wt hs hp => ?_⟩
      · rw [wX_topFor_4]; dsimp only
        rw [dt_and3' (by omega), show dt_enc (x :: L) % 4 = x by rw [dt_enc]; omega]
        exact br_t (nI_le (by omega) (by omega)) hp
      · rw [wY_truth_4]; dsimp only
        rw [List.length_cons] at hL6 ⊢
        rw [nI_pred, nI_clamp (by omega), hs.1]
        exact br_t (nI_le (by omega) (by omega)) ⟨vp_in_nI (by omega) (by decide), hp pt⟩
  | succ d ih =>
    intro t L htd hL hL6 h3
    obtain ⟨hh6, j, hj8, hK, hj5, hj6, hj7⟩ := hh t (by omega)
    have hb := dt_enc6 h3 hL6
    have hv : vp_in (nI t) 20 := vp_in_nI (by omega) (by decide)
    have hnx : ¬ nI tcn ≤ nI t := nI_ge (by omega) (by omega)
    by_cases c5 : j < 5
    · obtain ⟨q1, q2, q3⟩ := hj5 c5
      obtain ⟨r0, hr0, rx, ry⟩ := s_v (ec := ec) (tc := nI tcn) (fc := fc) (pa := pa) (na := na) (od := od) (al := al) (e := e) (t := t) he ht hc V (by omega) c5 hK q2 q3
      have h3' : ∀ x, x ∈ r0 :: L → x < 3 := fun x hx => by
        rcases List.mem_cons.mp hx with z | z
        · rw [z]; exact hr0
        · exact h3 x z
      obtain ⟨r, hr, ix, iy⟩ := ih (t + 1) (r0 :: L) (by omega) (by rw [List.length_cons]; omega) (by rw [List.length_cons]; omega) h3'
      refine ⟨r, hr, fun post hp => ?_, fun post pt oy wt hs hp => ?_⟩
      · rw [wX_topFor_4]; dsimp only
        rw [nI_clamp (by omega), hK, dt_shl (by omega)]
        refine br_f hnx ⟨hv, nm_e (nm_e (nm_e (br_f (nI_nlt (a := 4) (by omega) (by decide)) ?_)))⟩
        exact rx _ (nm_r (dt_or (by omega) (by omega)) (nm_r (nI_1 t) (ix post hp)))
      · rw [wY_truth_4]; dsimp only
        rw [nI_clamp (show t < 2 ^ 31 by omega)]
        refine br_f hnx ⟨hv, br_f (by rw [hK]; exact nI_ge (b := 5) c5 (by decide)) ⟨hv, hv, hv, ry _ _ _ _ ⟨vp_in_nI (by omega) (by decide), ?_⟩⟩⟩
        rw [nI_clamp (by omega)]
        exact nm_e (nm_r (nI_1 _) (nm_r (nI_1 t) (iy post _ oy wt ⟨pk_us, dt_stk_upd L (Nat.le_refl _) hs⟩ hp)))
    · by_cases c6 : j = 5
      · obtain ⟨q1, q2⟩ := hj6 c6
        cases L with
        | nil => simp only [List.length_nil] at hL; omega
        | cons x L =>
          have hx := h3 x (List.mem_cons_self ..)
          have hbL : dt_enc (x :: L) = dt_enc L * 4 + x := rfl
          have h3' : ∀ y, y ∈ dt_neg x :: L → y < 3 := fun y hy => by
            rcases List.mem_cons.mp hy with z | z
            · rw [z]; exact dt_neg3 hx
            · exact h3 y (List.mem_cons_of_mem _ z)
          have hn3 := dt_neg3 hx
          rw [List.length_cons] at hL hL6
          obtain ⟨r, hr, ix, iy⟩ := ih (t + 1) (dt_neg x :: L) (by omega) (by rw [List.length_cons]; omega) (by rw [List.length_cons]; omega) h3'
          refine ⟨r, hr, fun post hp => ?_, fun post pt oy wt hs hp => ?_⟩
          · rw [wX_topFor_4]; dsimp only
            rw [nI_clamp (by omega), hK, dt_shr (by omega), dt_and3' (by omega), show dt_enc (x :: L) / 4 = dt_enc L by omega, show dt_enc (x :: L) % 4 = x by omega]
            refine br_f hnx ⟨hv, nm_e (nm_e (nm_e (br_t (nI_lt (a := 4) (by omega) (by omega)) (br_t (by rw [c6]; rfl) (xt_neg hx ?_)))))⟩
            rw [dt_shl (by omega)]
            exact nm_r (dt_or (by omega) (by omega)) (nm_r (nI_1 t) (ix post hp))
          · rw [wY_truth_4]; dsimp only
            rw [List.length_cons, nI_clamp (show t < 2 ^ 31 by omega), nI_pred, nI_clamp (show L.length < 2 ^ 31 by omega), hs.1]
            have hv2 : vp_in (nI L.length) 20 := vp_in_nI (by omega) (by decide)
            refine br_f hnx ⟨hv, br_t (by rw [hK]; exact nI_le (a := 5) (by omega) (by omega)) ⟨hv, br_t (by rw [hK, c6]; rfl) ⟨hv2, yt_neg hx ⟨hv2, nm_e (nm_r (nI_1 t) ?_)⟩⟩⟩⟩
            have := iy post (upd pt L.length (nI (dt_neg x))) oy wt ⟨pk_us, dt_stk_upd L (Nat.le_refl _) hs.2⟩ hp
            exact this
      · obtain ⟨q1, q2⟩ := hj7 (by omega)
        match L, hL, hL6, h3, hb with
        | [], hL, _, _, _ => simp only [List.length_nil] at hL; omega
        | [_], hL, _, _, _ => simp only [List.length_cons, List.length_nil] at hL; omega
        | g :: f :: L, hL, hL6, h3, hb =>
          have hg := h3 g (List.mem_cons_self ..)
          have hf3 := h3 f (List.mem_cons_of_mem _ (List.mem_cons_self ..))
          have hbL : dt_enc (g :: f :: L) = (dt_enc L * 4 + f) * 4 + g := rfl
          rw [List.length_cons, List.length_cons] at hL hL6
          have ihL := fun (r0 : Nat) (hr0 : r0 < 3) => ih (t + 1) (r0 :: L) (by omega) (by rw [List.length_cons]; omega) (by rw [List.length_cons]; omega) (fun y hy => by
            rcases List.mem_cons.mp hy with z | z
            · rw [z]; exact hr0
            · exact h3 y (List.mem_cons_of_mem _ (List.mem_cons_of_mem _ z)))
          have ea : nI (L.length + 1 + 1) - 2 = nI L.length := pk_sub (a := L.length + 1 + 1) (b := 2) (by omega)
          have eb : nI (L.length + 1 + 1) + (-1) = nI (L.length + 1) := pk_m1 _
          have ec2 : nI (L.length + 1 + 1) - 1 = nI (L.length + 1) := nI_pred _
          have hv1 : vp_in (nI (L.length + 1)) 20 := vp_in_nI (by omega) (by decide)
          have hv2 : vp_in (nI L.length) 20 := vp_in_nI (by omega) (by decide)
          by_cases c7 : j = 6
          · have hr0 := dt_and3 (f := f) (g := g)
            obtain ⟨r, hr, ix, iy⟩ := ihL (dt_and f g) hr0
            refine ⟨r, hr, fun post hp => ?_, fun post pt oy wt hs hp => ?_⟩
            · rw [wX_topFor_4]; dsimp only
              rw [nI_clamp (by omega), hK, dt_shr (by omega), dt_and3' (by omega), show dt_enc (g :: f :: L) / 4 = dt_enc L * 4 + f by omega, show dt_enc (g :: f :: L) % 4 = g by omega]
              refine br_f hnx ⟨hv, nm_e (nm_e (nm_e (br_t (nI_lt (a := 4) (by omega) (by omega)) (br_f (fun z => c6 ((nI_eq (b := 5) (by omega) (by decide)).mp z)) ?_))))⟩
              rw [dt_and3' (by omega), show (dt_enc L * 4 + f) % 4 = f by omega]
              refine nm_e (br_t (by rw [c7]; rfl) (xt_and hf3 hg ?_))
              unfold wX_topFor_100
              rw [dt_shr (by omega), show (dt_enc L * 4 + f) / 4 = dt_enc L by omega, dt_shl (by omega)]
              exact nm_r (dt_or (by omega) (by omega)) (nm_r (nI_1 t) (ix post hp))
            · rw [wY_truth_4]; dsimp only
              rw [List.length_cons, List.length_cons, nI_clamp (show t < 2 ^ 31 by omega), ea, ec2, nI_clamp (show L.length < 2 ^ 31 by omega), nI_clamp (show L.length + 1 < 2 ^ 31 by omega), hs.2.1, show pt (L.length + 1) = nI g from hs.1]
              refine br_f hnx ⟨hv, br_t (by rw [hK]; exact nI_le (a := 5) (by omega) (by omega)) ⟨hv, br_f (fun z => c6 ((nI_eq (b := 5) (by omega) (by decide)).mp (hK ▸ z))) ⟨hv2, nm_e ⟨hv1, nm_e ⟨hv, br_f (fun z => by have := (nI_eq (b := 7) (by omega) (by decide)).mp (hK ▸ z); omega) ?_⟩⟩⟩⟩⟩
              unfold wY_truth_130
              refine br_t rfl ?_
              unfold wY_truth_149
              refine br_t rfl ?_
              unfold wY_truth_165
              refine yt_and hf3 hg (br_t rfl ?_)
              rw [ea, eb, nI_clamp (show L.length < 2 ^ 31 by omega)]
              exact ⟨hv2, nm_e (nm_e (nm_r (nI_1 t) (iy post (upd pt L.length (nI (dt_and f g))) oy wt ⟨pk_us, dt_stk_upd L (Nat.le_refl _) hs.2.2⟩ hp)))⟩
          · have hr0 := dt_orr3 (f := f) (g := g)
            obtain ⟨r, hr, ix, iy⟩ := ihL (dt_orr f g) hr0
            refine ⟨r, hr, fun post hp => ?_, fun post pt oy wt hs hp => ?_⟩
            · rw [wX_topFor_4]; dsimp only
              rw [nI_clamp (by omega), hK, dt_shr (by omega), dt_and3' (by omega), show dt_enc (g :: f :: L) / 4 = dt_enc L * 4 + f by omega, show dt_enc (g :: f :: L) % 4 = g by omega]
              refine br_f hnx ⟨hv, nm_e (nm_e (nm_e (br_t (nI_lt (a := 4) (by omega) (by omega)) (br_f (fun z => c6 ((nI_eq (b := 5) (by omega) (by decide)).mp z)) ?_))))⟩
              rw [dt_and3' (by omega), show (dt_enc L * 4 + f) % 4 = f by omega]
              refine nm_e (br_f (fun z => c7 ((nI_eq (b := 6) (by omega) (by decide)).mp z)) (xt_or hf3 hg ?_))
              unfold wX_topFor_100
              rw [dt_shr (by omega), show (dt_enc L * 4 + f) / 4 = dt_enc L by omega, dt_shl (by omega)]
              exact nm_r (dt_or (by omega) (by omega)) (nm_r (nI_1 t) (ix post hp))
            · rw [wY_truth_4]; dsimp only
              rw [List.length_cons, List.length_cons, nI_clamp (show t < 2 ^ 31 by omega), ea, ec2, nI_clamp (show L.length < 2 ^ 31 by omega), nI_clamp (show L.length + 1 < 2 ^ 31 by omega), hs.2.1, show pt (L.length + 1) = nI g from hs.1]
              refine br_f hnx ⟨hv, br_t (by rw [hK]; exact nI_le (a := 5) (by omega) (by omega)) ⟨hv, br_f (fun z => c6 ((nI_eq (b := 5) (by omega) (by decide)).mp (hK ▸ z))) ⟨hv2, nm_e ⟨hv1, nm_e ⟨hv, br_t (by rw [hK, show j = 7 by omega]; rfl) ?_⟩⟩⟩⟩⟩
              unfold wY_truth_130
              refine br_f dt_10 (yt_neg hf3 ?_)
              unfold wY_truth_149
              refine br_f dt_10 (yt_neg hg ?_)
              unfold wY_truth_165
              refine yt_and (dt_neg3 hf3) (dt_neg3 hg) (br_f dt_10 (yt_neg dt_and3 ?_))
              rw [ea, eb, nI_clamp (show L.length < 2 ^ 31 by omega), dt_dm hf3 hg]
              exact ⟨hv2, nm_e (nm_e (nm_r (nI_1 t) (iy post (upd pt L.length (nI (dt_orr f g))) oy wt ⟨pk_us, dt_stk_upd L (Nat.le_refl _) hs.2.2⟩ hp)))⟩
/-- the top of the stack for an entry, on both sides -/
theorem t_v {e fcn tcn : Nat} (he : e < 24) (ht : tk e ≠ 0) (hc : ∀ e, e < 24 → dt_L 4 (cl e)) (V : dt_V tk vc co va) (hK : dt_K tcn fcn tK tA tV tF) (hf1 : 1 ≤ fcn) : ∃ r : Nat, r < 3 ∧ (∀ post : Int32 → Prop, post (nI r) → wpX_topFor post (ec, nI tcn, fc, tk, pa, na, cl, od, al, vc, va, tK, tA, tV, tF) (nI e)) ∧ (∀ (post : Int32 → SY → Prop) (pt oy wt : Nat → Int32), (∀ pt' : Nat → Int32, post (nI r) (nI tcn, fc, tk, pa, na, cl, al, co, va, tK, tA, tV, pt', oy, wt)) → wpY_truth post (nI tcn, fc, tk, pa, na, cl, al, co, va, tK, tA, tV, pt, oy, wt) (nI e)) := by
  obtain ⟨h, h0, hf, h20, h6, hh⟩ := hK
  obtain ⟨r, hr, rx, ry⟩ := t_l (ec := ec) (fc := fc) (pa := pa) (na := na) (od := od) (al := al) he ht hc V hf hf1 h20 hh tcn 0 [] (by omega) (by rw [h0]; rfl) (by simp) (fun x hx => nomatch hx)
  exact ⟨r, hr, fun post hp => ⟨_, rx post hp⟩, fun post pt oy wt hp => ⟨_, ry post pt oy wt trivial hp⟩⟩
end
end
section
/-! the relation, and the methods that leave the tree and the values alone -/
def dt_R (tcn fcn : Nat) (tk pa na cl od vc va tK tA tV tF co : Nat → Int32) : Prop :=
  dt_T0 tk pa na ∧ (∀ e, e < 24 → dt_L 4 (cl e)) ∧ (∀ i, i < dt_ec tk → od i = nI (dt_at tk pa na i)) ∧ dt_V tk vc co va ∧ dt_K tcn fcn tK tA tV tF
def i_Rel (k : Nat) (u : SX) (v : SY) : Prop := ∃ (tcn fcn : Nat) (tk pa na cl od al vc va tK tA tV tF co pt oy wt : Nat → Int32), u = (nI (dt_ec tk), nI tcn, nI fcn, tk, pa, na, cl, od, al, vc, va, tK, tA, tV, tF) ∧ v = (nI tcn, nI fcn, tk, pa, na, cl, al, co, va, tK, tA, tV, pt, oy, wt) ∧ dt_R tcn fcn tk pa na cl od vc va tK tA tV tF co
theorem i_up {k : Nat} {u : SX} {v : SY} (h : i_Rel k u v) : i_Rel (k + 4) u v := h
section
variable {ec tc fc : Int32} {tk pa na cl od al vc va tK tA tV tF : Nat → Int32} {co pt oy wt : Nat → Int32}
variable {tcn fcn k : Nat}
theorem rl_mk (h : dt_R tcn fcn tk pa na cl od vc va tK tA tV tF co) : i_Rel k (nI (dt_ec tk), nI tcn, nI fcn, tk, pa, na, cl, od, al, vc, va, tK, tA, tV, tF) (nI tcn, nI fcn, tk, pa, na, cl, al, co, va, tK, tA, tV, pt, oy, wt) :=
  ⟨tcn, fcn, tk, pa, na, cl, od, al, vc, va, tK, tA, tV, tF, co, pt, oy, wt, rfl, rfl, h⟩
theorem rl_mk' {E F T F' T' : Int32} (h : dt_R tcn fcn tk pa na cl od vc va tK tA tV tF co) (e1 : E = nI (dt_ec tk)) (e2 : T = nI tcn) (e3 : F = nI fcn) (e4 : T' = nI tcn) (e5 : F' = nI fcn) : i_Rel k (E, T, F, tk, pa, na, cl, od, al, vc, va, tK, tA, tV, tF) (T', F', tk, pa, na, cl, al, co, va, tK, tA, tV, pt, oy, wt) := by
  subst e1 e2 e3 e4 e5
  exact rl_mk h
end
theorem dt_vnb : vp_nar .boolean 1 = 1 := rfl
theorem dt_vn0 : vp_nar .boolean 0 = 0 := rfl
theorem dt_vnd (c : Prop) : vp_nar .boolean (dt_b c) = dt_b c := by rcases dt_b01 c with h | h <;> rw [h] <;> rfl
theorem dt_K0 (tK tA tV tF : Nat → Int32) : dt_K 0 0 tK tA tV tF := ⟨fun _ => 0, rfl, rfl, by omega, by omega, fun t ht => by omega⟩
theorem dt_T0_0 : dt_T0 (upd (fun _ => 0) 0 1) (upd (fun _ => 0) 0 (-1)) (fun _ => 0) := by
  have hz : ∀ e, 0 < e → upd (fun _ => (0 : Int32)) 0 1 e = 0 := fun e he => pk_un (by omega)
  refine ⟨⟨by rw [pk_us]; decide, pk_us⟩, fun e h0 _ ht => absurd (hz e h0) ht, fun e e' h0 _ _ _ ht => absurd (hz e h0) ht, fun e _ ht => ?_⟩
  by_cases z : e = 0
  · subst z; exact ⟨1, 0, by omega, rfl, pk_us⟩
  · exact absurd (hz e (by omega)) ht
theorem dt_ec_0 : dt_ec (upd (fun _ => 0) 0 1) = 1 := by
  have a := dt_ec_pos dt_T0_0
  have b := dt_len_ge (N := 24) [0] (fun e => upd (fun _ => (0 : Int32)) 0 1 e ≠ 0) (fun x _ hx => by
    by_cases z : x = 0
    · simp [z]
    · exact absurd (pk_un z) hx)
  have b : dt_ec (upd (fun _ => 0) 0 1) ≤ 1 := b
  omega
theorem i_vc0 : wpX_init (fun u => wpY_init (fun v => i_Rel 0 u v)) := by
  unfold wpX_init
  rw [dt_vnb]
  refine nm_e (nm_e ⟨5, br_f (by decide) ⟨vp_in_iff.mpr (by decide), nm_e (nm_e (br_f (by decide) ⟨vp_in_iff.mpr (by decide), nm_e (nm_e (br_f (by decide) ⟨vp_in_iff.mpr (by decide), nm_e (nm_e (br_f (by decide) ⟨vp_in_iff.mpr (by decide), nm_e (nm_e (br_t (by decide) ?_))⟩))⟩))⟩))⟩⟩)
  unfold wpY_init
  rw [dt_vnb]
  refine nm_e (nm_e ⟨5, br_f (by decide) ⟨vp_in_iff.mpr (by decide), nm_e (nm_e (br_f (by decide) ⟨vp_in_iff.mpr (by decide), nm_e (nm_e (br_f (by decide) ⟨vp_in_iff.mpr (by decide), nm_e (nm_e (br_f (by decide) ⟨vp_in_iff.mpr (by decide), nm_e (nm_e (br_t (by decide) ?_))⟩))⟩))⟩))⟩⟩)
  refine rl_mk' (tcn := 0) (fcn := 0) ⟨dt_T0_0, fun e _ => ⟨0, by omega, rfl⟩, ?_, ?_, dt_K0 _ _ _ _⟩ (by rw [dt_ec_0]; rfl) rfl rfl rfl rfl
  · intro i hi
    rw [dt_ec_0] at hi
    rw [show i = 0 by omega]
    rfl
  · intro e _ a _
    exact ⟨0, by omega, rfl, fun _ => rfl, fun _ => rfl, fun _ k hk => by omega⟩
theorem i_vc_clear {k : Nat} {u : SX} {v : SY} (I : i_Rel k u v) (hk : k + 4 ≤ 2048) : wpX_clear (fun r u' => wpY_clear (fun r' v' => r' = r ∧ i_Rel (k + 4) u' v') v) u := by
  obtain ⟨tcn, fcn, tk, pa, na, cl, od, al, vc, va, tK, tA, tV, tF, co, pt, oy, wt, rfl, rfl, R⟩ := I
  unfold wpX_clear wpY_clear; dsimp only
  exact ⟨rfl, rl_mk' (tcn := 0) (fcn := 0) ⟨R.1, R.2.1, R.2.2.1, R.2.2.2.1, dt_K0 _ _ _ _⟩ rfl rfl rfl rfl rfl⟩
section
variable {tn hh : Int32} {th pp nn kk aw co vb sk sa sw pt oy wt : Nat → Int32}
theorem ye_l {post : Int32 → Prop} (hp : post (nI (dt_ec th))) : ∀ d i : Nat, i + d = 24 → wY_entries_4 post tn hh th pp nn kk aw co vb sk sa sw pt oy wt (d + 1) (nI (dt_cn (fun e => th e ≠ 0) i)) (nI i) := by
  intro d
  induction d with
  | zero =>
    intro i hi
    rw [show i = 24 by omega]
    exact br_t (nI_le (a := 24) (b := 24) (by omega) (by decide)) hp
  | succ d ih =>
    intro i hi
    have h1 := ih (i + 1) (by omega)
    rw [wY_entries_4]; dsimp only
    rw [nI_clamp (by omega)]
    refine br_f (nI_ge (b := 24) (by omega) (by decide)) ⟨vp_in_nI (by omega) (by decide), ?_⟩
    rw [dt_cn] at h1
    by_cases h : th i = 0
    · rw [dt_1z (c := th i ≠ 0) (fun z => z h)] at h1
      exact br_t h (nm_r (nI_1 i) h1)
    · rw [dt_11 (c := th i ≠ 0) h] at h1
      exact br_f h (nm_r (nI_1 _) (nm_r (nI_1 i) h1))
theorem ye_v {post : Int32 → Prop} (hp : post (nI (dt_ec th))) : wpY_entries post (tn, hh, th, pp, nn, kk, aw, co, vb, sk, sa, sw, pt, oy, wt) := ⟨25, ye_l hp 24 0 rfl⟩
end
theorem i_vc_entries {k : Nat} {u : SX} {v : SY} (I : i_Rel k u v) (hk : k + 4 ≤ 2048) : wpX_entries (fun r => wpY_entries (fun r' => r' = r ∧ i_Rel (k + 4) u v) v) u := by
  have I0 := I
  obtain ⟨tcn, fcn, tk, pa, na, cl, od, al, vc, va, tK, tA, tV, tF, co, pt, oy, wt, rfl, rfl, R⟩ := I
  unfold wpX_entries; dsimp only
  exact ye_v ⟨rfl, I0⟩
theorem i_vc_entryAt {k : Nat} {u : SX} {v : SY} (I : i_Rel k u v) (hk : k + 4 ≤ 2048) (v1 : Int32) : wpX_entryAt (fun r => wpY_entryAt (fun r' v' => r' = r ∧ i_Rel (k + 4) u v') v v1) u v1 := by
  obtain ⟨tcn, fcn, tk, pa, na, cl, od, al, vc, va, tK, tA, tV, tF, co, pt, oy, wt, rfl, rfl, R⟩ := I
  have h24 := dt_ec_le tk
  unfold wpX_entryAt wpY_entryAt; dsimp only
  rcases pk_ix v1 (n := dt_ec tk) (by omega) with h0 | h0 | ⟨j, hj, rfl⟩
  · refine br_t h0 (yo_v R.1 fun o' w' ho => ?_)
    dsimp only
    exact br_t h0 ⟨rfl, rl_mk R⟩
  · have h1 := dt_ge0 h0 (by omega)
    refine br_f h1 (br_f (Int32.not_lt.mpr h0) (yo_v R.1 fun o' w' ho => ?_))
    dsimp only
    exact br_f h1 (ye_v (br_t h0 ⟨rfl, rl_mk R⟩))
  · rw [nI_clamp (by omega)]
    have h1 : ¬ nI j < 0 := nI_pos (by omega)
    have hv : vp_in (nI j) 24 := vp_in_nI (by omega) (by decide)
    refine br_f h1 (br_t (nI_lt hj (by omega)) ⟨hv, yo_v R.1 fun o' w' ho => ?_⟩)
    dsimp only
    exact br_f h1 (ye_v (br_f (nI_ge hj (by omega)) ⟨hv, by rw [ho j hj, R.2.2.1 j hj], rl_mk R⟩))
theorem i_vc_child {k : Nat} {u : SX} {v : SY} (I : i_Rel k u v) (hk : k + 4 ≤ 2048) (v1 : Int32) (v2 : Int32) : wpX_child (fun r => wpY_child (fun r' => r' = r ∧ i_Rel (k + 4) u v) v v1 v2) u v1 v2 := by
  have I0 := I
  obtain ⟨tcn, fcn, tk, pa, na, cl, od, al, vc, va, tK, tA, tV, tF, co, pt, oy, wt, rfl, rfl, R⟩ := I
  unfold wpX_child; dsimp only
  by_cases hE : dt_E tk v1
  · obtain ⟨j, hj, rfl, ht⟩ := hE
    refine xe_t hj ht (br_f dt_10 (xn_v ?_))
    rcases hc : dt_nm tk pa na (nI j) v2 with _ | c
    · exact br_t rfl (yn_v hj ht (by rw [hc]; exact ⟨rfl, I0⟩))
    · have := (dt_nm_s hc).2.1
      exact br_f (dt_m1 (by omega)) (yn_v hj ht (by rw [hc]; exact ⟨rfl, I0⟩))
  · exact xe_f hE (br_t rfl (yn_f hE ⟨rfl, I0⟩))
theorem dt_24 (e a k : Nat) : 24 * nI e + 4 * nI a + nI k = nI ((e * 6 + a) * 4 + k) := by
  rw [show (24 : Int32) * nI e = nI (24 * e) from pk_mul 24 e, show (4 : Int32) * nI a = nI (4 * a) from pk_mul 4 a, nI_add, nI_add]
  exact congrArg nI (by omega)
theorem i_vc_valueAt {k : Nat} {u : SX} {v : SY} (I : i_Rel k u v) (hk : k + 4 ≤ 2048) (v1 : Int32) (v2 : Int32) (v3 : Int32) : wpX_valueAt (fun r => wpY_valueAt (fun r' => r' = r ∧ i_Rel (k + 4) u v) v v1 v2 v3) u v1 v2 v3 := by
  have I0 := I
  obtain ⟨tcn, fcn, tk, pa, na, cl, od, al, vc, va, tK, tA, tV, tF, co, pt, oy, wt, rfl, rfl, R⟩ := I
  unfold wpX_valueAt wpY_valueAt; dsimp only
  by_cases hE : dt_E tk v1
  · obtain ⟨j, hj, rfl, ht⟩ := hE
    refine xe_t hj ht (br_f dt_10 ?_)
    by_cases hA : dt_L 6 v2
    · obtain ⟨a, ha, rfl⟩ := hA
      obtain ⟨c, hc4, hx, hy, _, _⟩ := R.2.2.2.1 j hj a ha
      have hy := hy ht
      refine xa_t ha (br_f dt_10 ?_)
      unfold wpX_setOf
      rw [dt_6x, dt_6y]; dsimp only
      rw [nI_clamp (by omega), hx, hy]
      have hv : vp_in (nI (j * 6 + a)) 144 := vp_in_nI (by omega) (by decide)
      rcases pk_ix v3 (n := c) (by omega) with h0 | h0 | ⟨i, hi, rfl⟩
      · exact br_t h0 (ye_t hj ht (br_f dt_10 (ya_t ha (br_f dt_10 (br_t h0 ⟨rfl, I0⟩)))))
      · have h1 := dt_ge0 h0 (by omega)
        have h2 := Int32.not_lt.mpr h0
        exact br_f h1 ⟨hv, br_f h2 (ye_t hj ht (br_f dt_10 (ya_t ha (br_f dt_10 (br_f h1 ⟨hv, br_f h2 ⟨rfl, I0⟩⟩)))))⟩
      · have h1 : ¬ nI i < 0 := nI_pos (by omega)
        have h2 : nI i < nI c := nI_lt hi (by omega)
        rw [dt_4x, dt_24]
        have hv2 : vp_in (nI ((j * 6 + a) * 4 + i)) 576 := vp_in_nI (by omega) (by decide)
        exact br_f h1 ⟨hv, br_t h2 ⟨hv2, ye_t hj ht (br_f dt_10 (ya_t ha (br_f dt_10 (br_f h1 ⟨hv, br_t h2 ⟨hv2, rfl, I0⟩⟩))))⟩⟩
    · exact xa_f hA (br_t rfl (ye_t hj ht (br_f dt_10 (ya_f hA (br_t rfl ⟨rfl, I0⟩)))))
  · exact xe_f hE (br_t rfl (ye_f hE (br_t rfl ⟨rfl, I0⟩)))
theorem i_vc_test {k : Nat} {u : SX} {v : SY} (I : i_Rel k u v) (hk : k + 4 ≤ 2048) (v1 : Int32) : wpX_test (fun r => wpY_test (fun r' v' => r' = r ∧ i_Rel (k + 4) u v') v v1) u v1 := by
  obtain ⟨tcn, fcn, tk, pa, na, cl, od, al, vc, va, tK, tA, tV, tF, co, pt, oy, wt, rfl, rfl, R⟩ := I
  have hK := R.2.2.2.2
  have hf6 : fcn ≤ 6 := by obtain ⟨_, _, _, _, h, _⟩ := hK; exact h
  unfold wpX_test wpY_test; dsimp only
  by_cases hE : dt_E tk v1
  · obtain ⟨j, hj, rfl, ht⟩ := hE
    refine xe_t hj ht (br_f dt_10 ?_)
    by_cases h0 : fcn = 0
    · have e0 : nI fcn = 0 := by rw [h0]; rfl
      exact br_t e0 (ye_t hj ht (br_f dt_10 (br_t e0 ⟨rfl, rl_mk R⟩)))
    · have e0 : ¬ nI fcn = 0 := nI_ne0 (by omega) (by omega)
      obtain ⟨r, hr, rx, ry⟩ := t_v (ec := nI (dt_ec tk)) (fc := nI fcn) (pa := pa) (na := na) (od := od) (al := al) hj ht R.2.1 R.2.2.2.1 hK (by omega)
      exact br_f e0 (rx _ (ye_t hj ht (br_f dt_10 (br_f e0 (ry _ _ _ _ fun pt' => ⟨rfl, rl_mk R⟩)))))
  · exact xe_f hE (br_t rfl (ye_f hE (br_t rfl ⟨rfl, rl_mk R⟩)))
end
section
/-! token -/
def dt_tk (j : Nat) : Nat := if j < 5 then 0 else if j = 5 then 1 else 2
theorem dt_tk2 (j : Nat) : dt_tk j ≤ 2 := by
  unfold dt_tk
  by_cases h1 : j < 5
  · rw [if_pos h1]; omega
  · rw [if_neg h1]
    by_cases h2 : j = 5
    · rw [if_pos h2]; omega
    · rw [if_neg h2]; omega
theorem dt_K_ext {t f j : Nat} {a v : Int32} {tK tA tV tF : Nat → Int32} (K : dt_K t f tK tA tV tF) (ht : t < 20) (hj : j < 8) (hf : dt_tk j ≤ f) (h6 : dt_tk j = 0 → f ≠ 6) (ha : j < 5 → dt_L 6 a) : dt_K (t + 1) (f - dt_tk j + 1) (upd tK t (nI j)) (upd tA t a) (upd tV t v) (upd tF t (dt_b (dt_fit j a v))) := by
  obtain ⟨h, h0, hft, h20, hf6, hh⟩ := K
  have hf' : f - dt_tk j + 1 ≤ 6 := by
    by_cases z : dt_tk j = 0
    · have := h6 z; omega
    · omega
  refine ⟨fun i => if i = t + 1 then f - dt_tk j + 1 else h i, ?_, ?_, by omega, hf', ?_⟩
  · show (if (0 : Nat) = t + 1 then _ else h 0) = 0
    rw [if_neg (by omega)]; exact h0
  · show (if t + 1 = t + 1 then _ else h (t + 1)) = _
    rw [if_pos rfl]
  · intro i hi
    dsimp only
    by_cases e : i = t
    · subst e
      rw [if_pos rfl, if_neg (show ¬ i = i + 1 by omega), pk_us, pk_us, pk_us, pk_us]
      refine ⟨hf', j, hj, rfl, fun c => ?_, fun c => ?_, fun c => ?_⟩
      · have : dt_tk j = 0 := by unfold dt_tk; rw [if_pos c]
        exact ⟨by omega, ha c, rfl⟩
      · have : dt_tk j = 1 := by unfold dt_tk; rw [if_neg (by omega), if_pos c]
        omega
      · have : dt_tk j = 2 := by unfold dt_tk; rw [if_neg (by omega), if_neg (by omega)]
        omega
    · rw [if_neg (show ¬ i + 1 = t + 1 by omega), if_neg (show ¬ i = t + 1 by omega), pk_un e, pk_un e, pk_un e, pk_un e]
      exact hh i (by omega)
section
variable {ec tc fc : Int32} {tk pa na cl od al vc va tK tA tV tF : Nat → Int32} {co pt oy wt : Nat → Int32}
theorem xk_v {post : Int32 → Prop} {j : Nat} {a v : Int32} (hj : j < 8) (hp : post (dt_b (dt_fit j a v))) : wpX_canCompare post (nI j) a v := by
  unfold wpX_canCompare
  by_cases h0 : j = 0
  · rw [dt_b1 (c := dt_fit j a v) (Or.inl h0)] at hp
    exact br_t (by rw [h0]; rfl) hp
  · refine br_f (nI_ne0 (by omega) (by omega)) ?_
    have key : (j < 3 ∨ a < 4) → wX_canCompare_18 post a v := fun h => by
      unfold wX_canCompare_18
      rw [dt_bc (c := dt_fit j a v) (d := dt_CB a v) ⟨fun z => z.elim (fun q => absurd q h0) (fun q => q.2), fun z => Or.inr ⟨h, z⟩⟩] at hp
      exact xb_v ⟨dt_bn _, hp⟩
    by_cases h3 : j < 3
    · exact br_t (nI_lt (b := 3) h3 (by decide)) (key (Or.inl h3))
    · refine br_f (nI_nlt (b := 3) (by omega) (by omega)) ?_
      by_cases h4 : a < 4
      · exact br_t h4 (key (Or.inr h4))
      · rw [dt_b0 (fun z => z.elim h0 (fun q => q.1.elim h3 h4))] at hp
        exact br_f h4 hp
theorem xk_t {post : Int32 → Prop} {j : Nat} (hj : j < 8) (hp : post (nI (dt_tk j))) : wpX_filtersTaken post (nI j) := by
  unfold wpX_filtersTaken
  unfold dt_tk at hp
  by_cases h1 : j < 5
  · rw [if_pos h1] at hp
    exact br_f (nI_nlt (a := 4) (by omega) (by decide)) hp
  · rw [if_neg h1] at hp
    refine br_t (nI_lt (a := 4) (by omega) (by omega)) ?_
    by_cases h2 : j = 5
    · rw [if_pos h2] at hp
      exact br_t (by rw [h2]; rfl) hp
    · rw [if_neg h2] at hp
      exact br_f (fun z => h2 ((nI_eq (b := 5) (by omega) (by decide)).mp z)) hp
theorem dt_hx {f s : Nat} (h : s ≤ f) : nI f + (1 - nI s) = nI (f - s + 1) := by
  rw [← nI_1, ← pk_sub h]
  grind
theorem dt_hy {f s : Nat} (h : s ≤ f) : nI f - nI s + 1 = nI (f - s + 1) := by
  rw [← nI_1, ← pk_sub h]
theorem tk_j {k t f j : Nat} {a v : Int32} (R : dt_R t f tk pa na cl od vc va tK tA tV tF co) (hj : j < 8) (ha : j < 5 → dt_L 6 a) (hY : ∀ post : Int32 → SY → Prop, wY_token_25 post (nI j) a v (nI t) (nI f) tk pa na cl al co va tK tA tV pt oy wt → wpY_token post (nI t, nI f, tk, pa, na, cl, al, co, va, tK, tA, tV, pt, oy, wt) (nI j) a v) : wX_token_24 (fun r u' => wpY_token (fun r' v' => r' = r ∧ i_Rel k u' v') (nI t, nI f, tk, pa, na, cl, al, co, va, tK, tA, tV, pt, oy, wt) (nI j) a v) (nI j) a v (nI (dt_ec tk)) (nI t) (nI f) tk pa na cl od al vc va tK tA tV tF := by
  have K := R.2.2.2.2
  have h20 : t ≤ 20 ∧ f ≤ 6 := by obtain ⟨_, _, _, h, h', _⟩ := K; exact ⟨h, h'⟩
  have h2 := dt_tk2 j
  unfold wX_token_24
  by_cases c20 : t = 20
  · have e : nI t = 20 := by rw [c20]; rfl
    refine br_t e (hY _ ?_)
    exact br_t e ⟨rfl, rl_mk R⟩
  · have e20 : ¬ nI t = 20 := fun z => c20 ((nI_eq (b := 20) (by omega) (by decide)).mp z)
    have hY2 : ∀ post : Int32 → SY → Prop, wY_token_56 post (nI j) a v (nI (dt_tk j)) (nI t) (nI f) tk pa na cl al co va tK tA tV pt oy wt → wpY_token post (nI t, nI f, tk, pa, na, cl, al, co, va, tK, tA, tV, pt, oy, wt) (nI j) a v := fun post hp => hY post (by
      unfold wY_token_25
      unfold dt_tk at hp
      refine br_f e20 ?_
      by_cases h1 : j < 5
      · rw [if_pos h1] at hp
        exact br_f (nI_ge (b := 5) h1 (by decide)) hp
      · rw [if_neg h1] at hp
        refine br_t (nI_le (a := 5) (by omega) (by omega)) ?_
        by_cases h2 : j = 5
        · rw [if_pos h2] at hp
          exact br_t (by rw [h2]; rfl) hp
        · rw [if_neg h2] at hp
          exact br_f (fun z => h2 ((nI_eq (b := 5) (by omega) (by decide)).mp z)) hp)
    refine br_f e20 (xk_t hj ?_)
    by_cases hle : dt_tk j ≤ f
    · have ele : nI (dt_tk j) ≤ nI f := nI_le hle (by omega)
      have core : (dt_tk j = 0 → f ≠ 6) → (∀ post : Int32 → SY → Prop, wY_token_87 post (nI j) a v (nI (dt_tk j)) (nI t) (nI f) tk pa na cl al co va tK tA tV pt oy wt → wpY_token post (nI t, nI f, tk, pa, na, cl, al, co, va, tK, tA, tV, pt, oy, wt) (nI j) a v) → wX_token_71 (fun r u' => wpY_token (fun r' v' => r' = r ∧ i_Rel k u' v') (nI t, nI f, tk, pa, na, cl, al, co, va, tK, tA, tV, pt, oy, wt) (nI j) a v) (nI j) a v (nI (dt_tk j)) (nI (dt_ec tk)) (nI t) (nI f) tk pa na cl od al vc va tK tA tV tF := by
        intro h6 hY3
        have hv : vp_in (nI t) 20 := vp_in_nI (by omega) (by decide)
        unfold wX_token_71
        rw [nI_clamp (by omega)]
        refine ⟨hv, nm_e ⟨hv, nm_e ⟨hv, nm_e (xk_v hj ⟨hv, nm_r (by rw [dt_vnd]) (nm_r (nI_1 t) (nm_r (dt_hx hle) (hY3 _ ?_)))⟩)⟩⟩⟩
        unfold wY_token_87
        rw [nI_clamp (by omega)]
        exact ⟨hv, nm_e ⟨hv, nm_e ⟨hv, nm_e (nm_r (nI_1 t) (nm_r (dt_hy hle) ⟨rfl, rl_mk ⟨R.1, R.2.1, R.2.2.1, R.2.2.2.1, dt_K_ext K (by omega) hj hle h6 ha⟩⟩))⟩⟩⟩
      refine br_t ele ?_
      by_cases h0 : dt_tk j = 0
      · have e0 : nI (dt_tk j) = 0 := by rw [h0]; rfl
        refine br_t e0 ?_
        by_cases c6 : f = 6
        · have e6 : nI f = 6 := by rw [c6]; rfl
          exact br_t e6 (hY2 _ (br_t ele (br_t e0 (br_t e6 ⟨rfl, rl_mk R⟩))))
        · have e6 : ¬ nI f = 6 := fun z => c6 ((nI_eq (b := 6) (by omega) (by decide)).mp z)
          exact br_f e6 (core (fun _ => c6) (fun post hp => hY2 post (br_t ele (br_t e0 (br_f e6 hp)))))
      · have e0 : ¬ nI (dt_tk j) = 0 := nI_ne0 (by omega) (by omega)
        exact br_f e0 (core (fun z => absurd z h0) (fun post hp => hY2 post (br_t ele (br_f e0 hp))))
    · have ele : ¬ nI (dt_tk j) ≤ nI f := nI_ge (by omega) (by omega)
      exact br_f ele (hY2 _ (br_f ele ⟨rfl, rl_mk R⟩))
end
theorem i_vc_token {k : Nat} {u : SX} {v : SY} (I : i_Rel k u v) (hk : k + 4 ≤ 2048) (v1 : Int32) (v2 : Int32) (v3 : Int32) : wpX_token (fun r u' => wpY_token (fun r' v' => r' = r ∧ i_Rel (k + 4) u' v') v v1 v2 v3) u v1 v2 v3 := by
  obtain ⟨tcn, fcn, tk, pa, na, cl, od, al, vc, va, tK, tA, tV, tF, co, pt, oy, wt, rfl, rfl, R⟩ := I
  unfold wpX_token; dsimp only
  rcases pk_ix v1 (n := 8) (by decide) with h0 | h0 | ⟨j, hj, rfl⟩
  · exact br_t h0 (br_t h0 ⟨rfl, rl_mk R⟩)
  · have h1 := dt_ge0 h0 (by decide)
    exact br_f h1 (br_t h0 (br_f h1 (br_t (dt_gt (b := 7) h0 (by decide) (by decide)) ⟨rfl, rl_mk R⟩)))
  · have h1 : ¬ nI j < 0 := nI_pos (by omega)
    have h7 : ¬ 7 < nI j := nI_nlt (a := 7) (by omega) (by decide)
    refine br_f h1 (br_f (nI_ge (b := 8) hj (by decide)) ?_)
    by_cases c : j < 5
    · have h5 : ¬ 5 ≤ nI j := nI_ge (b := 5) c (by decide)
      refine br_f (nI_nlt (a := 4) (by omega) (by decide)) ?_
      by_cases hA : dt_L 6 v2
      · obtain ⟨a, ha, rfl⟩ := hA
        refine xa_t ha (br_f dt_10 (tk_j R hj (fun _ => ⟨a, ha, rfl⟩) fun post hp => ?_))
        exact br_f h1 (br_f h7 (br_f h5 (ya_t ha (br_f dt_10 hp))))
      · exact xa_f hA (br_t rfl (br_f h1 (br_f h7 (br_f h5 (ya_f hA (br_t rfl ⟨rfl, rl_mk R⟩))))))
    · have h5 : 5 ≤ nI j := nI_le (a := 5) (by omega) (by omega)
      refine br_t (nI_lt (a := 4) (by omega) (by omega)) (tk_j R hj (fun z => absurd z c) fun post hp => ?_)
      exact br_f h1 (br_f h7 (br_t h5 hp))
end
section
/-! make, remove, move: the tree stays a tree -/
theorem dt_cn_sp {P Q G : Nat → Prop} : ∀ n, (∀ i, i < n → (P i ↔ (Q i ∨ G i)) ∧ ¬ (Q i ∧ G i)) → dt_cn P n = dt_cn Q n + dt_cn G n := by
  intro n
  induction n with
  | zero => intro _; rfl
  | succ n ih =>
    intro h
    obtain ⟨h1, h2⟩ := h n (by omega)
    rw [dt_cn, dt_cn, dt_cn, ih (fun i hi => h i (by omega))]
    by_cases q : Q n
    · by_cases g : G n
      · exact absurd ⟨q, g⟩ h2
      · rw [dt_11 (h1.mpr (Or.inl q)), dt_11 q, dt_1z g]; omega
    · by_cases g : G n
      · rw [dt_11 (h1.mpr (Or.inr g)), dt_1z q, dt_11 g]; omega
      · rw [dt_1z (fun z => (h1.mp z).elim q g), dt_1z q, dt_1z g]; omega
theorem dt_ec_mk {tk : Nat → Int32} {e : Nat} (he : e < 24) (h : tk e = 0) : dt_ec (upd tk e 1) = dt_ec tk + 1 := by
  unfold dt_ec
  rw [dt_cn_rm (P := fun x => upd tk e 1 x ≠ 0) (x := e) (by show upd tk e 1 e ≠ 0; rw [pk_us]; decide) 24 he]
  congr 1
  refine dt_cnc 24 (fun i _ => ?_)
  by_cases z : i = e
  · subst z
    exact ⟨fun q => absurd rfl q.2, fun q => absurd h q⟩
  · show (upd tk e 1 i ≠ 0 ∧ i ≠ e) ↔ _
    rw [pk_un z]
    exact ⟨fun q => q.1, fun q => ⟨q, z⟩⟩
theorem dt_T0_mk {tk pa na : Nat → Int32} (T : dt_T0 tk pa na) {e p m : Nat} (h0 : 0 < e) (he : e < 24) (hz : tk e = 0) (hp : p < 24) (hpt : tk p ≠ 0) (hm : m < 10) (hn : dt_nm tk pa na (nI p) (nI m) = none) : dt_T0 (upd tk e 1) (upd pa e (nI p)) (upd na e (nI m)) := by
  obtain ⟨⟨t0, p0⟩, t1, t2, t3⟩ := T
  have hpe : p ≠ e := fun z => hpt (z ▸ hz)
  have tke : ∀ x, upd tk e 1 x ≠ 0 → x ≠ e → tk x ≠ 0 := fun x h z => by rw [pk_un z] at h; exact h
  have none : ∀ x, 0 < x → x < 24 → tk x ≠ 0 → pa x = nI p → na x = nI m → False := fun x a b c d f => dt_fdz 23 1 hn x (by omega) (by omega) ⟨c, d, f⟩
  have up : ∀ k x, x < 24 → tk x ≠ 0 → dt_Up pa k (nI x) → dt_Up (upd pa e (nI p)) k (nI x) := by
    intro k
    induction k with
    | zero => intro x _ _ h; exact h
    | succ k ih =>
      intro x hx ht hu
      obtain ⟨j, hj, ej, hu⟩ := hu
      rw [nI_eq (by omega) (by omega)] at ej
      subst ej
      have hxe : x ≠ e := fun z => ht (z ▸ hz)
      refine ⟨x, hx, rfl, ?_⟩
      rw [pk_un hxe]
      by_cases z : x = 0
      · subst z
        rw [p0] at hu ⊢
        cases k with
        | zero => exact hu
        | succ k =>
          obtain ⟨j, hj, ej, _⟩ := hu
          exact absurd ej.symm (dt_m1 (by omega))
      · obtain ⟨⟨q, hq, hqt, hqe⟩, _⟩ := t1 x (by omega) hx ht
        rw [hqe] at hu ⊢
        exact ih q hq hqt hu
  refine ⟨⟨by rw [pk_un (by omega)]; exact t0, by rw [pk_un (by omega)]; exact p0⟩, ?_, ?_, ?_⟩
  · intro x hx0 hx ht
    by_cases z : x = e
    · subst z
      exact ⟨⟨p, hp, by rw [pk_un hpe]; exact hpt, pk_us⟩, m, hm, pk_us⟩
    · obtain ⟨⟨q, hq, hqt, hqe⟩, m', hm', e'⟩ := t1 x hx0 hx (tke x ht z)
      refine ⟨⟨q, hq, ?_, by rw [pk_un z]; exact hqe⟩, m', hm', by rw [pk_un z]; exact e'⟩
      by_cases w : q = e
      · rw [w, pk_us]; decide
      · rw [pk_un w]; exact hqt
  · intro x y hx0 hx hy0 hy htx hty hpa hna
    by_cases z : x = e
    · by_cases w : y = e
      · rw [z, w]
      · rw [z, pk_us, pk_un w] at hpa hna
        exact (none y hy0 hy (tke y hty w) hpa.symm hna.symm).elim
    · by_cases w : y = e
      · rw [w, pk_us, pk_un z] at hpa hna
        exact (none x hx0 hx (tke x htx z) hpa hna).elim
      · rw [pk_un z, pk_un w] at hpa hna
        exact t2 x y hx0 hx hy0 hy (tke x htx z) (tke y hty w) hpa hna
  · intro x hx ht
    by_cases z : x = e
    · subst z
      obtain ⟨k, hk⟩ := t3 p hp hpt
      exact ⟨k + 1, x, hx, rfl, by rw [pk_us]; exact up k p hp hpt hk⟩
    · obtain ⟨k, hk⟩ := t3 x hx (tke x ht z)
      exact ⟨k, up k x hx (tke x ht z) hk⟩
theorem dt_V_mk {tk vc co co' va : Nat → Int32} (V : dt_V tk vc co va) {e : Nat} (he : e < 24) (hz : tk e = 0) (h1 : ∀ a, a < 6 → co' (e * 6 + a) = 0) (h2 : ∀ i, (∀ a, a < 6 → i ≠ e * 6 + a) → co' i = co i) : dt_V (upd tk e 1) vc co' va := by
  intro x hx a ha
  obtain ⟨c, hc4, hvx, hvy, hvz, hw⟩ := V x hx a ha
  by_cases z : x = e
  · subst z
    have hc0 := hvz hz
    refine ⟨c, hc4, hvx, fun _ => by rw [h1 a ha, hc0]; rfl, fun _ => hc0, hw⟩
  · refine ⟨c, hc4, hvx, fun h => ?_, fun h => ?_, hw⟩
    · rw [pk_un z] at h
      rw [h2 _ (fun b hb => by omega)]
      exact hvy h
    · rw [pk_un z] at h
      exact hvz h
section
variable {ec tc fc : Int32} {tk pa na cl od al vc va tK tA tV tF : Nat → Int32} {co pt oy wt : Nat → Int32}
theorem ymk_l {post : Int32 → SY → Prop} {e : Nat} (he : e < 24) (H : ∀ co' : Nat → Int32, (∀ a, a < 6 → co' (e * 6 + a) = 0) → (∀ i, (∀ a, a < 6 → i ≠ e * 6 + a) → co' i = co i) → post (nI e) (tc, fc, tk, pa, na, cl, al, co', va, tK, tA, tV, pt, oy, wt)) : ∀ (d a : Nat) (co' : Nat → Int32), a + d = 6 → (∀ b, b < a → co' (e * 6 + b) = 0) → (∀ i, (∀ a, a < 6 → i ≠ e * 6 + a) → co' i = co i) → wY_make_96 post (nI e) tc fc (d + 1) (nI a) tk pa na cl al co' va tK tA tV pt oy wt := by
  intro d
  induction d with
  | zero =>
    intro a co' ha h1 h2
    exact br_t (nI_le (a := 6) (by omega) (by omega)) (H co' (fun b hb => h1 b (by omega)) h2)
  | succ d ih =>
    intro a co' ha h1 h2
    rw [wY_make_96]; dsimp only
    rw [dt_6y, nI_clamp (by omega)]
    refine br_f (nI_ge (b := 6) (by omega) (by decide)) ⟨vp_in_nI (by omega) (by decide), nm_e (nm_r (nI_1 a) (ih (a + 1) _ (by omega) ?_ ?_))⟩
    · intro b hb
      by_cases z : b = a
      · rw [z, pk_us]
      · rw [pk_un (by omega)]; exact h1 b (by omega)
    · intro i hi
      rw [pk_un (hi a (by omega))]
      exact h2 i hi
end
theorem i_vc_make {k : Nat} {u : SX} {v : SY} (I : i_Rel k u v) (hk : k + 4 ≤ 2048) (v1 : Int32) (v2 : Int32) (v3 : Int32) : wpX_make (fun r u' => wpY_make (fun r' v' => r' = r ∧ i_Rel (k + 4) u' v') v v1 v2 v3) u v1 v2 v3 := by
  obtain ⟨tcn, fcn, tk, pa, na, cl, od, al, vc, va, tK, tA, tV, tF, co, pt, oy, wt, rfl, rfl, R⟩ := I
  have R0 := R
  obtain ⟨T, C, O, V, K⟩ := R
  unfold wpX_make wpY_make; dsimp only
  by_cases hE : dt_E tk v1
  · obtain ⟨p, hp, rfl, hpt⟩ := hE
    refine xe_t hp hpt (br_f dt_10 ?_)
    by_cases hN : dt_L 10 v2
    · obtain ⟨m, hm, rfl⟩ := hN
      refine xm_t hm (br_f dt_10 (xn_v ?_))
      rcases hc : dt_nm tk pa na (nI p) (nI m) with _ | c
      · refine br_t rfl ?_
        by_cases hC : dt_L 4 v3
        · obtain ⟨q, hq, rfl⟩ := hC
          refine xc_t hq (br_f dt_10 (xf_v ?_))
          rcases hf : dt_fd (fun e => tk e = 0) 23 1 with _ | e
          · refine br_t rfl (ye_t hp hpt (br_f dt_10 (yl_t (n := 9) rfl hm (by decide) (yn_v hp hpt ?_))))
            rw [hc]
            refine br_t (show (-2 : Int32) < 0 by decide) (yl_t (n := 3) rfl hq (by decide) (yf_v T.1.1 ?_))
            rw [hf]
            exact br_f (show ¬ (0 : Int32) ≤ -1 by decide) ⟨rfl, rl_mk R0⟩
          · obtain ⟨e1, e24, ez⟩ := dt_fds 23 1 hf
            have e24 : e < 24 := by omega
            have hv : vp_in (nI e) 24 := vp_in_nI e24 (by decide)
            dsimp only [dt_o]
            rw [nI_clamp (by omega), dt_vnb]
            refine br_f (dt_m1 (by omega)) ⟨hv, nm_e ⟨hv, nm_e ⟨hv, nm_e ⟨hv, nm_e (nm_r (nI_1 _) ?_)⟩⟩⟩⟩
            have T' := dt_T0_mk T (by omega) e24 ez hp hpt hm hc
            refine xo_v T' (by rw [dt_ec_mk e24 ez]) (fun o' ho => ?_)
            dsimp only
            refine ye_t hp hpt (br_f dt_10 (yl_t (n := 9) rfl hm (by decide) (yn_v hp hpt ?_)))
            rw [hc]
            refine br_t (show (-2 : Int32) < 0 by decide) (yl_t (n := 3) rfl hq (by decide) (yf_v T.1.1 ?_))
            rw [hf]
            dsimp only [dt_o]
            rw [nI_clamp (by omega)]
            refine br_t (nI_pos' (by omega)) ⟨hv, nm_e ⟨hv, nm_e ⟨hv, nm_e ⟨hv, nm_e ⟨7, ?_⟩⟩⟩⟩⟩
            refine ymk_l e24 (fun co' h1 h2 => ⟨rfl, rl_mk' (tcn := tcn) (fcn := fcn) ⟨T', ?_, ho, dt_V_mk V e24 ez h1 h2, K⟩ (by rw [dt_ec_mk e24 ez]) rfl rfl rfl rfl⟩) 6 0 co rfl (fun b hb => by omega) (fun _ _ => rfl)
            intro x hx
            by_cases z : x = e
            · rw [z, pk_us]; exact ⟨q, hq, rfl⟩
            · rw [pk_un z]; exact C x hx
        · refine xc_f hC (br_t rfl (ye_t hp hpt (br_f dt_10 (yl_t (n := 9) rfl hm (by decide) (yn_v hp hpt ?_)))))
          rw [hc]
          exact br_t (show (-2 : Int32) < 0 by decide) (yl_f (n := 3) hC (by decide) ⟨rfl, rl_mk R0⟩)
      · have := (dt_nm_s hc).2.1
        refine br_f (dt_m1 (by omega)) (ye_t hp hpt (br_f dt_10 (yl_t (n := 9) rfl hm (by decide) (yn_v hp hpt ?_))))
        rw [hc]
        exact br_f (nI_pos (by omega)) ⟨rfl, rl_mk R0⟩
    · exact xm_f hN (br_t rfl (ye_t hp hpt (br_f dt_10 (yl_f (n := 9) hN (by decide) ⟨rfl, rl_mk R0⟩))))
  · exact xe_f hE (br_t rfl (ye_f hE (br_t rfl ⟨rfl, rl_mk R0⟩)))
theorem dt_T0_mv {tk pa na : Nat → Int32} (T : dt_T0 tk pa na) {e p m : Nat} (h0 : e ≠ 0) (he : e < 24) (het : tk e ≠ 0) (hp : p < 24) (hpt : tk p ≠ 0) (hm : m < 10) (hs : ¬ dt_Sub pa (nI e) (nI p)) (hn : dt_nm tk pa na (nI p) (nI m) = none ∨ dt_nm tk pa na (nI p) (nI m) = some e) : dt_T0 tk (upd pa e (nI p)) (upd na e (nI m)) := by
  obtain ⟨⟨t0, p0⟩, t1, t2, t3⟩ := T
  have uq : ∀ x, 0 < x → x < 24 → tk x ≠ 0 → pa x = nI p → na x = nI m → x = e := by
    intro x a b c d f
    rcases hn with hn | hn
    · exact (dt_fdz 23 1 hn x (by omega) (by omega) ⟨c, d, f⟩).elim
    · obtain ⟨q1, q2, q3, q4, q5⟩ := dt_nm_s hn
      exact t2 x e a b q1 q2 c q3 (d.trans q4.symm) (f.trans q5.symm)
  have upA : ∀ k x, ¬ dt_Sub pa (nI e) x → dt_Up pa k x → dt_Up (upd pa e (nI p)) k x := by
    intro k
    induction k with
    | zero => intro x _ h; exact h
    | succ k ih =>
      intro x hx hu
      obtain ⟨j, hj, rfl, hu⟩ := hu
      rw [dt_sub_s (by omega)] at hx
      have hje : j ≠ e := fun z => hx (Or.inl (by rw [z]))
      exact ⟨j, hj, rfl, by rw [pk_un hje]; exact ih _ (fun z => hx (Or.inr z)) hu⟩
  obtain ⟨kp, hkp⟩ := t3 p hp hpt
  have upe : dt_Up (upd pa e (nI p)) (kp + 1) (nI e) := ⟨e, he, rfl, by rw [pk_us]; exact upA kp _ hs hkp⟩
  have upB : ∀ k x, dt_Up pa k x → ∃ k', dt_Up (upd pa e (nI p)) k' x := by
    intro k
    induction k with
    | zero => intro x h; exact ⟨0, h⟩
    | succ k ih =>
      intro x hu
      obtain ⟨j, hj, rfl, hu⟩ := hu
      by_cases z : j = e
      · rw [z]; exact ⟨_, upe⟩
      · obtain ⟨k', hk'⟩ := ih _ hu
        exact ⟨k' + 1, j, hj, rfl, by rw [pk_un z]; exact hk'⟩
  refine ⟨⟨t0, by rw [pk_un (by omega)]; exact p0⟩, ?_, ?_, ?_⟩
  · intro x hx0 hx ht
    by_cases z : x = e
    · subst z
      exact ⟨⟨p, hp, hpt, pk_us⟩, m, hm, pk_us⟩
    · obtain ⟨⟨q, hq, hqt, hqe⟩, m', hm', e'⟩ := t1 x hx0 hx ht
      exact ⟨⟨q, hq, hqt, by rw [pk_un z]; exact hqe⟩, m', hm', by rw [pk_un z]; exact e'⟩
  · intro x y hx0 hx hy0 hy htx hty hpa hna
    by_cases z : x = e
    · by_cases w : y = e
      · rw [z, w]
      · rw [z, pk_us, pk_un w] at hpa hna
        exact absurd (uq y hy0 hy hty hpa.symm hna.symm) w
    · by_cases w : y = e
      · rw [w, pk_us, pk_un z] at hpa hna
        exact absurd (uq x hx0 hx htx hpa hna) z
      · rw [pk_un z, pk_un w] at hpa hna
        exact t2 x y hx0 hx hy0 hy htx hty hpa hna
  · intro x hx ht
    obtain ⟨k, hk⟩ := t3 x hx ht
    exact upB k _ hk
section
variable {ec tc fc : Int32} {tk pa na cl od al vc va tK tA tV tF : Nat → Int32} {co pt oy wt : Nat → Int32}
theorem mv_j {k tcn fcn e p m : Nat} (R : dt_R tcn fcn tk pa na cl od vc va tK tA tV tF co) (he : e < 24) (T' : dt_T0 tk (upd pa e (nI p)) (upd na e (nI m))) (hY : ∀ post : Int32 → SY → Prop, wY_move_74 post (nI e) (nI p) (nI m) (nI tcn) (nI fcn) tk pa na cl al co va tK tA tV pt oy wt → wpY_move post (nI tcn, nI fcn, tk, pa, na, cl, al, co, va, tK, tA, tV, pt, oy, wt) (nI e) (nI p) (nI m)) : wX_move_67 (fun r u' => wpY_move (fun r' v' => r' = r ∧ i_Rel k u' v') (nI tcn, nI fcn, tk, pa, na, cl, al, co, va, tK, tA, tV, pt, oy, wt) (nI e) (nI p) (nI m)) (nI e) (nI p) (nI m) (nI (dt_ec tk)) (nI tcn) (nI fcn) tk pa na cl od al vc va tK tA tV tF := by
  obtain ⟨T, C, O, V, K⟩ := R
  have hv : vp_in (nI e) 24 := vp_in_nI he (by decide)
  unfold wX_move_67
  rw [nI_clamp (by omega)]
  refine ⟨hv, nm_e ⟨hv, nm_e (xo_v T' rfl (fun o' ho => ?_))⟩⟩
  dsimp only
  refine hY _ ?_
  unfold wY_move_74
  rw [nI_clamp (by omega)]
  exact ⟨hv, nm_e ⟨hv, nm_e ⟨rfl, rl_mk ⟨T', C, ho, V, K⟩⟩⟩⟩
end
theorem i_vc_move {k : Nat} {u : SX} {v : SY} (I : i_Rel k u v) (hk : k + 4 ≤ 2048) (v1 : Int32) (v2 : Int32) (v3 : Int32) : wpX_move (fun r u' => wpY_move (fun r' v' => r' = r ∧ i_Rel (k + 4) u' v') v v1 v2 v3) u v1 v2 v3 := by
  obtain ⟨tcn, fcn, tk, pa, na, cl, od, al, vc, va, tK, tA, tV, tF, co, pt, oy, wt, rfl, rfl, R⟩ := I
  have T := R.1
  unfold wpX_move; dsimp only
  by_cases hE : dt_E tk v1
  · obtain ⟨e, he, rfl, het⟩ := hE
    refine xe_t he het (br_f dt_10 ?_)
    by_cases hP : dt_E tk v2
    · obtain ⟨p, hp, rfl, hpt⟩ := hP
      refine xe_t hp hpt (br_f dt_10 ?_)
      have hY0 : ∀ post : Int32 → SY → Prop, ((nI e = 0 → post (-2) (nI tcn, nI fcn, tk, pa, na, cl, al, co, va, tK, tA, tV, pt, oy, wt)) ∧ (¬ nI e = 0 → ((nI p = nI e → post (-2) (nI tcn, nI fcn, tk, pa, na, cl, al, co, va, tK, tA, tV, pt, oy, wt)) ∧ (¬ nI p = nI e → wpY_isBelow (fun r_37 => (((r_37 = 0 → (((v3 < 0 → (post (-3) (nI tcn, nI fcn, tk, pa, na, cl, al, co, va, tK, tA, tV, pt, oy, wt))) ∧ (¬ v3 < 0 → (((v3 ≤ 9 → (wpY_child (fun r_56 => (((r_56 < 0 → (wY_move_74 post (nI e) (nI p) v3 (nI tcn) (nI fcn) tk pa na cl al co va tK tA tV pt oy wt)) ∧ (¬ r_56 < 0 → (((r_56 = nI e → (wY_move_74 post (nI e) (nI p) v3 (nI tcn) (nI fcn) tk pa na cl al co va tK tA tV pt oy wt)) ∧ (¬ r_56 = nI e → (post (-4) (nI tcn, nI fcn, tk, pa, na, cl, al, co, va, tK, tA, tV, pt, oy, wt))))))))) (nI tcn, nI fcn, tk, pa, na, cl, al, co, va, tK, tA, tV, pt, oy, wt) (nI p) v3)) ∧ (¬ v3 ≤ 9 → (post (-3) (nI tcn, nI fcn, tk, pa, na, cl, al, co, va, tK, tA, tV, pt, oy, wt))))))))) ∧ (¬ r_37 = 0 → (post (-2) (nI tcn, nI fcn, tk, pa, na, cl, al, co, va, tK, tA, tV, pt, oy, wt)))))) (nI tcn, nI fcn, tk, pa, na, cl, al, co, va, tK, tA, tV, pt, oy, wt) (nI p) (nI e))))) → wpY_move post (nI tcn, nI fcn, tk, pa, na, cl, al, co, va, tK, tA, tV, pt, oy, wt) (nI e) (nI p) v3 := fun post hp2 => by
        unfold wpY_move; dsimp only
        exact ye_t he het (br_f dt_10 (ye_t hp hpt (br_f dt_10 hp2)))
      by_cases h0 : e = 0
      · have e0 : nI e = 0 := by rw [h0]; rfl
        exact br_t e0 (hY0 _ (br_t e0 ⟨rfl, rl_mk R⟩))
      · have e0 : ¬ nI e = 0 := nI_ne0 (by omega) (by omega)
        refine br_f e0 (xs_v T he hp (dt_up24 T hp hpt) ?_)
        have hsub := dt_sub_s (pa := pa) (top := nI e) (j := p) (by omega)
        by_cases hS : dt_Sub pa (nI e) (nI p)
        · refine dt_tru hS (hY0 _ (br_f e0 ?_))
          by_cases z : nI p = nI e
          · exact br_t z ⟨rfl, rl_mk R⟩
          · exact br_f z (ys_v T he hp (dt_up24 T hp hpt) (dt_tru ((hsub.mp hS).resolve_left z) ⟨rfl, rl_mk R⟩))
        · have z : ¬ nI p = nI e := fun z => hS (hsub.mpr (Or.inl z))
          have hB : ¬ dt_Sub pa (nI e) (pa p) := fun q => hS (hsub.mpr (Or.inr q))
          refine dt_fls hS ?_
          by_cases hN : dt_L 10 v3
          · obtain ⟨m, hm, rfl⟩ := hN
            refine xm_t hm (br_f dt_10 (xn_v ?_))
            rcases hc : dt_nm tk pa na (nI p) (nI m) with _ | c
            · refine br_t rfl (mv_j R he (dt_T0_mv T h0 he het hp hpt hm hS (Or.inl hc)) fun post hp2 => hY0 post (br_f e0 (br_f z (ys_v T he hp (dt_up24 T hp hpt) (dt_fls hB (yl_t (n := 9) rfl hm (by decide) (yn_v hp hpt ?_)))))))
              rw [hc]
              exact br_t (show (-2 : Int32) < 0 by decide) hp2
            · have c24 := (dt_nm_s hc).2.1
              refine br_f (dt_m1 (by omega)) ?_
              by_cases w : c = e
              · subst w
                refine br_t rfl (mv_j R he (dt_T0_mv T h0 he het hp hpt hm hS (Or.inr hc)) fun post hp2 => hY0 post (br_f e0 (br_f z (ys_v T he hp (dt_up24 T hp hpt) (dt_fls hB (yl_t (n := 9) rfl hm (by decide) (yn_v hp hpt ?_)))))))
                rw [hc]
                exact br_f (nI_pos (by omega)) (br_t rfl hp2)
              · have w' : ¬ nI c = nI e := fun q => w ((nI_eq (by omega) (by omega)).mp q)
                refine br_f w' (hY0 _ (br_f e0 (br_f z (ys_v T he hp (dt_up24 T hp hpt) (dt_fls hB (yl_t (n := 9) rfl hm (by decide) (yn_v hp hpt ?_)))))))
                rw [hc]
                exact br_f (nI_pos (by omega)) (br_f w' ⟨rfl, rl_mk R⟩)
          · exact xm_f hN (br_t rfl (hY0 _ (br_f e0 (br_f z (ys_v T he hp (dt_up24 T hp hpt) (dt_fls hB (yl_f (n := 9) hN (by decide) ⟨rfl, rl_mk R⟩)))))))
    · refine xe_f hP (br_t rfl ?_)
      unfold wpY_move; dsimp only
      exact ye_t he het (br_f dt_10 (ye_f hP (br_t rfl ⟨rfl, rl_mk R⟩)))
  · refine xe_f hE (br_t rfl ?_)
    unfold wpY_move; dsimp only
    exact ye_f hE (br_t rfl ⟨rfl, rl_mk R⟩)
end
section
/-! remove -/
noncomputable def dt_rm (tk : Nat → Int32) (G : Nat → Prop) (i : Nat) : Nat → Int32 := fun x => @ite Int32 (x < i ∧ G x) (Classical.propDecidable _) 0 (tk x)
theorem dt_rm_t {tk : Nat → Int32} {G : Nat → Prop} {i x : Nat} (h : x < i ∧ G x) : dt_rm tk G i x = 0 := by unfold dt_rm; exact if_pos h
theorem dt_rm_f {tk : Nat → Int32} {G : Nat → Prop} {i x : Nat} (h : ¬ (x < i ∧ G x)) : dt_rm tk G i x = tk x := by unfold dt_rm; exact if_neg h
theorem dt_rm_0 (tk : Nat → Int32) (G : Nat → Prop) : dt_rm tk G 0 = tk := by
  funext x
  exact dt_rm_f (fun z => by omega)
theorem dt_rm_y {tk : Nat → Int32} {G : Nat → Prop} {i : Nat} (h : G i) : upd (dt_rm tk G i) i 0 = dt_rm tk G (i + 1) := by
  funext x
  by_cases z : x = i
  · rw [z, pk_us, dt_rm_t ⟨by omega, h⟩]
  · rw [pk_un z]
    by_cases w : x < i ∧ G x
    · rw [dt_rm_t w, dt_rm_t ⟨by omega, w.2⟩]
    · rw [dt_rm_f w, dt_rm_f (fun q => w ⟨by omega, q.2⟩)]
theorem dt_rm_n {tk : Nat → Int32} {G : Nat → Prop} {i : Nat} (h : ¬ G i) : dt_rm tk G (i + 1) = dt_rm tk G i := by
  funext x
  by_cases w : x < i ∧ G x
  · rw [dt_rm_t w, dt_rm_t ⟨by omega, w.2⟩]
  · rw [dt_rm_f w, dt_rm_f (fun q => by
      by_cases z : x = i
      · exact h (z ▸ q.2)
      · exact w ⟨by omega, q.2⟩)]
def dt_G (tk pa : Nat → Int32) (t : Nat) (x : Nat) : Prop := tk x ≠ 0 ∧ dt_Sub pa (nI t) (nI x)
theorem dt_T0_rm {tk pa na : Nat → Int32} (T : dt_T0 tk pa na) {t : Nat} (h0 : t ≠ 0) (ht : t < 24) : dt_T0 (dt_rm tk (dt_G tk pa t) 24) pa na := by
  obtain ⟨⟨t0, p0⟩, t1, t2, t3⟩ := T
  have old : ∀ x, x < 24 → dt_rm tk (dt_G tk pa t) 24 x ≠ 0 → tk x ≠ 0 ∧ ¬ dt_Sub pa (nI t) (nI x) := by
    intro x hx h
    by_cases w : dt_G tk pa t x
    · exact absurd (dt_rm_t ⟨hx, w⟩) h
    · rw [dt_rm_f (fun q => w q.2)] at h
      exact ⟨h, fun q => w ⟨h, q⟩⟩
  refine ⟨⟨?_, p0⟩, ?_, ?_, ?_⟩
  · rw [dt_rm_f (fun q => ?_)]
    · exact t0
    · have := (dt_sub_s (pa := pa) (top := nI t) (j := 0) (by omega)).mp q.2.2
      rcases this with z | z
      · rw [nI_eq (by omega) (by omega)] at z
        omega
      · rw [p0] at z
        exact dt_sub_m1 p0 (dt_m1 (by omega)) z
  · intro x hx0 hx h
    obtain ⟨o1, o2⟩ := old x hx h
    obtain ⟨⟨p, hp, hpt, hpe⟩, m⟩ := t1 x hx0 hx o1
    refine ⟨⟨p, hp, ?_, hpe⟩, m⟩
    rw [dt_rm_f (fun q => o2 ((dt_sub_s (by omega)).mpr (Or.inr (by rw [hpe]; exact q.2.2))))]
    exact hpt
  · intro x y hx0 hx hy0 hy htx hty hpa hna
    exact t2 x y hx0 hx hy0 hy (old x hx htx).1 (old y hy hty).1 hpa hna
  · intro x hx h
    exact t3 x hx (old x hx h).1
theorem dt_ec_rm {tk : Nat → Int32} {G : Nat → Prop} (hG : ∀ x, x < 24 → G x → tk x ≠ 0) : dt_ec tk = dt_ec (dt_rm tk G 24) + dt_cn G 24 := by
  unfold dt_ec
  refine dt_cn_sp 24 (fun i hi => ?_)
  by_cases g : G i
  · have e : dt_rm tk G 24 i = 0 := dt_rm_t ⟨hi, g⟩
    refine ⟨⟨fun _ => Or.inr g, fun _ => hG i hi g⟩, fun z => z.1 e⟩
  · have e : dt_rm tk G 24 i = tk i := dt_rm_f (fun q => g q.2)
    refine ⟨⟨fun z => Or.inl (fun w => z (e ▸ w)), fun z => ?_⟩, fun z => g z.2⟩
    rcases z with z | z
    · exact fun w => z (e.trans w)
    · exact absurd z g
def dt_vr (vc vc' : Nat → Int32) (G : Nat → Prop) (i : Nat) : Prop := ∀ x, x < 24 → ∀ a, a < 6 → ((x < i ∧ G x) → vc' (x * 6 + a) = 0) ∧ (¬ (x < i ∧ G x) → vc' (x * 6 + a) = vc (x * 6 + a))
theorem dt_V_rm {tk vc vc' co va : Nat → Int32} {G : Nat → Prop} (V : dt_V tk vc co va) (h : dt_vr vc vc' G 24) : dt_V (dt_rm tk G 24) vc' co va := by
  intro x hx a ha
  obtain ⟨h1, h2⟩ := h x hx a ha
  by_cases g : x < 24 ∧ G x
  · exact ⟨0, by omega, h1 g, fun z => absurd (dt_rm_t g) z, fun _ => rfl, fun _ k hk => by omega⟩
  · obtain ⟨c, hc4, hvx, hvy, hvz, hw⟩ := V x hx a ha
    rw [dt_rm_f g, h2 g]
    exact ⟨c, hc4, hvx, hvy, hvz, hw⟩
theorem dt_b1t : ∀ i, i < 32 → bt 1 i = decide (i = 0) := by decide +kernel
theorem dt_bit1 (x : Int32) : (x &&& 1 = 1) ↔ bt x 0 = true := by
  constructor
  · intro h
    have : bt (x &&& 1) 0 = bt 1 0 := by rw [h]
    rw [b_and, dt_b1t 0 (by omega)] at this
    simpa using this
  · intro h
    refine b_ext (fun i hi => ?_)
    rw [b_and, dt_b1t i hi]
    by_cases z : i = 0
    · rw [z, h]; rfl
    · rw [decide_eq_false z, Bool.and_false]
theorem dt_bits {x : Int32} {e : Nat} (he : e < 32) : ((x >>> (nI e &&& 31)) &&& 1 = 1) ↔ bt x e = true := by
  rw [dt_bit1, b_sshr e he x (by omega), if_pos (by omega), Nat.add_zero]
theorem dt_bsh {e i : Nat} (he : e < 32) (hi : i < 32) : bt ((1 : Int32) <<< (nI e &&& 31)) i = decide (i = e) := by
  rw [b_shl e he 1 hi]
  by_cases h : e ≤ i
  · rw [dt_b1t (i - e) (by omega), decide_eq_true h, Bool.true_and]
    by_cases z : i = e
    · rw [decide_eq_true z, decide_eq_true (by omega)]
    · rw [decide_eq_false z, decide_eq_false (by omega)]
  · rw [decide_eq_false h, Bool.false_and, decide_eq_false (by omega)]
section
variable {ec tc fc : Int32} {tk pa na cl od al vc va tK tA tV tF : Nat → Int32} {co pt oy wt : Nat → Int32}
theorem xfr_l {post : SX → Prop} {e : Nat} (he : e < 24) (H : ∀ vc' : Nat → Int32, (∀ a, a < 6 → vc' (e * 6 + a) = 0) → (∀ i, (∀ a, a < 6 → i ≠ e * 6 + a) → vc' i = vc i) → post (ec, tc, fc, tk, pa, na, cl, od, al, vc', va, tK, tA, tV, tF)) : ∀ (d a : Nat) (vc' : Nat → Int32), a + d = 6 → (∀ b, b < a → vc' (e * 6 + b) = 0) → (∀ i, (∀ a, a < 6 → i ≠ e * 6 + a) → vc' i = vc i) → wX_free_9 post (nI e) ec tc fc (d + 1) (nI a) tk pa na cl od al vc' va tK tA tV tF := by
  intro d
  induction d with
  | zero =>
    intro a vc' ha h1 h2
    exact br_t (nI_le (a := 6) (by omega) (by omega)) (H vc' (fun b hb => h1 b (by omega)) h2)
  | succ d ih =>
    intro a vc' ha h1 h2
    rw [wX_free_9]; dsimp only
    unfold wpX_setOf
    rw [dt_6x]; dsimp only
    rw [nI_clamp (by omega)]
    refine br_f (nI_ge (b := 6) (by omega) (by decide)) ⟨vp_in_nI (by omega) (by decide), nm_e (nm_r (nI_1 a) (ih (a + 1) _ (by omega) ?_ ?_))⟩
    · intro b hb
      by_cases z : b = a
      · rw [z, pk_us]
      · rw [pk_un (by omega)]; exact h1 b (by omega)
    · intro i hi
      rw [pk_un (hi a (by omega))]
      exact h2 i hi
theorem xfr_v {post : SX → Prop} {e : Nat} (he : e < 24) (H : ∀ vc' : Nat → Int32, (∀ a, a < 6 → vc' (e * 6 + a) = 0) → (∀ i, (∀ a, a < 6 → i ≠ e * 6 + a) → vc' i = vc i) → post (ec, tc, fc, upd tk e 0, pa, na, cl, od, al, vc', va, tK, tA, tV, tF)) : wpX_free post (ec, tc, fc, tk, pa, na, cl, od, al, vc, va, tK, tA, tV, tF) (nI e) := by
  unfold wpX_free; dsimp only
  rw [nI_clamp (by omega), dt_vn0]
  exact ⟨vp_in_nI he (by decide), nm_e ⟨7, xfr_l he H 6 0 vc rfl (fun b hb => by omega) (fun _ _ => rfl)⟩⟩
theorem xrm_l {post : Int32 → SX → Prop} {t : Nat} (T : dt_T0 tk pa na) (h0 : t ≠ 0) (ht : t < 24) (H : ∀ vc' o' : Nat → Int32, dt_vr vc vc' (dt_G tk pa t) 24 → (∀ i, i < dt_ec (dt_rm tk (dt_G tk pa t) 24) → o' i = nI (dt_at (dt_rm tk (dt_G tk pa t) 24) pa na i)) → post (nI (dt_cn (dt_G tk pa t) 24)) (nI (dt_ec (dt_rm tk (dt_G tk pa t) 24)), tc, fc, dt_rm tk (dt_G tk pa t) 24, pa, na, cl, o', al, vc', va, tK, tA, tV, tF)) : ∀ (d i : Nat) (vc' : Nat → Int32), i + d = 24 → dt_vr vc vc' (dt_G tk pa t) i → wX_remove_21 post (nI t) (d + 1) (nI (dt_cn (dt_G tk pa t) i)) (nI i) (nI (dt_ec tk)) tc fc (dt_rm tk (dt_G tk pa t) i) pa na cl od al vc' va tK tA tV tF := by
  intro d
  induction d with
  | zero =>
    intro i vc' hi hv
    have e : i = 24 := by omega
    subst e
    refine br_t (nI_le (a := 24) (b := 24) (by omega) (by decide)) ?_
    have hec := dt_ec_rm (tk := tk) (G := dt_G tk pa t) (fun x _ g => g.1)
    refine nm_r (e' := nI (dt_ec (dt_rm tk (dt_G tk pa t) 24))) ?_ (xo_v (dt_T0_rm T h0 ht) rfl (fun o' ho => H vc' o' hv ho))
    rw [pk_sub (by omega)]
    exact congrArg nI (by omega)
  | succ d ih =>
    intro i vc' hi hv
    have hvi : vp_in (nI i) 24 := vp_in_nI (by omega) (by decide)
    have eii : dt_rm tk (dt_G tk pa t) i i = tk i := dt_rm_f (fun z => by omega)
    rw [wX_remove_21]; dsimp only
    rw [nI_clamp (by omega), eii]
    refine br_f (nI_ge (b := 24) (by omega) (by decide)) ⟨hvi, ?_⟩
    have keep : ¬ dt_G tk pa t i → wX_remove_21 post (nI t) (d + 1) (nI (dt_cn (dt_G tk pa t) i)) (nI (i + 1)) (nI (dt_ec tk)) tc fc (dt_rm tk (dt_G tk pa t) i) pa na cl od al vc' va tK tA tV tF := fun g => by
      have := ih (i + 1) vc' (by omega) (fun x hx a ha => by
        obtain ⟨h1, h2⟩ := hv x hx a ha
        exact ⟨fun z => h1 ⟨by
          by_cases w : x = i
          · exact absurd (w ▸ z.2) g
          · omega, z.2⟩, fun z => h2 (fun w => z ⟨by omega, w.2⟩)⟩)
      rw [dt_cn, dt_1z g, dt_rm_n g] at this
      exact this
    by_cases hti : tk i = 0
    · exact br_t hti (nm_r (nI_1 i) (keep (fun g => g.1 hti)))
    · refine br_f hti (xs_v T ht (by omega) (dt_up24 T (by omega) hti) ?_)
      by_cases hS : dt_Sub pa (nI t) (nI i)
      · have g : dt_G tk pa t i := ⟨hti, hS⟩
        refine dt_tru hS (xfr_v (by omega) (fun vc2 h1 h2 => ?_))
        dsimp only
        rw [dt_rm_y g]
        have := ih (i + 1) vc2 (by omega) (fun x hx a ha => by
          obtain ⟨h3, h4⟩ := hv x hx a ha
          by_cases w : x = i
          · subst w
            exact ⟨fun _ => h1 a ha, fun z => absurd ⟨by omega, g⟩ z⟩
          · rw [h2 _ (fun b hb => by omega)]
            exact ⟨fun z => h3 ⟨by omega, z.2⟩, fun z => h4 (fun q => z ⟨by omega, q.2⟩)⟩)
        rw [dt_cn, dt_11 g] at this
        exact nm_r (nI_1 _) (nm_r (nI_1 i) this)
      · exact dt_fls hS (nm_r (nI_1 i) (keep (fun g => hS g.2)))
theorem yrm_2 {post : Int32 → SY → Prop} {G : Nat → Prop} {x : Int32} (hx : ∀ e, e < 24 → (bt x e = true ↔ G e)) (hp : post (nI (dt_cn G 24)) (tc, fc, dt_rm tk G 24, pa, na, cl, al, co, va, tK, tA, tV, pt, oy, wt)) : ∀ d i : Nat, i + d = 24 → wY_remove_68 post x tc fc (d + 1) (nI (dt_cn G i)) (nI i) (dt_rm tk G i) pa na cl al co va tK tA tV pt oy wt := by
  intro d
  induction d with
  | zero =>
    intro i hi
    have e : i = 24 := by omega
    subst e
    exact br_t (nI_le (a := 24) (b := 24) (by omega) (by decide)) hp
  | succ d ih =>
    intro i hi
    have h1 := ih (i + 1) (by omega)
    rw [wY_remove_68]; dsimp only
    refine br_f (nI_ge (b := 24) (by omega) (by decide)) ?_
    rw [dt_cn] at h1
    by_cases g : G i
    · rw [dt_11 g, ← dt_rm_y g] at h1
      refine br_t ((dt_bits (by omega)).mpr ((hx i (by omega)).mpr g)) ⟨vp_in_nI (by omega) (by decide), ?_⟩
      rw [nI_clamp (by omega), dt_vn0]
      exact nm_e (nm_r (nI_1 _) (nm_r (nI_1 i) h1))
    · rw [dt_1z g, dt_rm_n g] at h1
      exact br_f (fun z => g ((hx i (by omega)).mp ((dt_bits (by omega)).mp z))) (nm_r (nI_1 i) h1)
theorem yrm_1 {post : Int32 → SY → Prop} {t : Nat} (T : dt_T0 tk pa na) (ht : t < 24) (htt : tk t ≠ 0) (hp : post (nI (dt_cn (dt_G tk pa t) 24)) (tc, fc, dt_rm tk (dt_G tk pa t) 24, pa, na, cl, al, co, va, tK, tA, tV, pt, oy, wt)) : ∀ (d i : Nat) (x : Int32), i + d = 24 → (∀ e, e < 24 → (bt x e = true ↔ (e = t ∨ (e < i ∧ dt_G tk pa t e)))) → wY_remove_23 post (nI t) tc fc tk pa na cl al co va tK tA tV pt oy wt (d + 1) x (nI i) := by
  intro d
  induction d with
  | zero =>
    intro i x hi hx
    have e : i = 24 := by omega
    subst e
    refine br_t (nI_le (a := 24) (b := 24) (by omega) (by decide)) ⟨25, ?_⟩
    have := yrm_2 (tc := tc) (fc := fc) (tk := tk) (pa := pa) (na := na) (cl := cl) (al := al) (co := co) (va := va) (tK := tK) (tA := tA) (tV := tV) (pt := pt) (oy := oy) (wt := wt) (G := dt_G tk pa t) (x := x) (fun e he => (hx e he).trans ⟨fun z => by
      rcases z with z | z
      · rw [z]; exact ⟨htt, 0, rfl⟩
      · exact z.2, fun z => Or.inr ⟨he, z⟩⟩) hp 24 0 rfl
    rw [dt_rm_0] at this
    exact this
  | succ d ih =>
    intro i x hi hx
    have hvi : vp_in (nI i) 24 := vp_in_nI (by omega) (by decide)
    have hsub := dt_sub_s (pa := pa) (top := nI t) (j := i) (by omega)
    rw [wY_remove_23]; dsimp only
    rw [nI_clamp (by omega)]
    refine br_f (nI_ge (b := 24) (by omega) (by decide)) ⟨hvi, ?_⟩
    have keep : (dt_G tk pa t i → i = t) → wY_remove_23 post (nI t) tc fc tk pa na cl al co va tK tA tV pt oy wt (d + 1) x (nI (i + 1)) := fun g => ih (i + 1) x (by omega) (fun e he => (hx e he).trans ⟨fun z => z.elim Or.inl (fun q => Or.inr ⟨by omega, q.2⟩), fun z => z.elim Or.inl (fun q => by
      by_cases w : e = i
      · subst w; exact Or.inl (g q.2)
      · exact Or.inr ⟨by omega, q.2⟩)⟩)
    by_cases hti : tk i = 0
    · exact br_t hti (nm_r (nI_1 i) (keep (fun g => absurd hti g.1)))
    · refine br_f hti (ys_v T ht (by omega) (dt_up24 T (by omega) hti) ?_)
      by_cases hS : dt_Sub pa (nI t) (pa i)
      · have g : dt_G tk pa t i := ⟨hti, hsub.mpr (Or.inr hS)⟩
        refine dt_tru hS (nm_e (nm_r (nI_1 i) (ih (i + 1) _ (by omega) (fun e he => ?_))))
        rw [b_or, dt_bsh (by omega) (by omega), Bool.or_eq_true, hx e he, decide_eq_true_eq]
        constructor
        · rintro ((z | z) | z)
          · exact Or.inl z
          · exact Or.inr ⟨by omega, z.2⟩
          · exact Or.inr ⟨by omega, z ▸ g⟩
        · rintro (z | z)
          · exact Or.inl (Or.inl z)
          · by_cases w : e = i
            · exact Or.inr w
            · exact Or.inl (Or.inr ⟨by omega, z.2⟩)
      · refine dt_fls hS (nm_r (nI_1 i) (keep (fun g => ?_)))
        rcases hsub.mp g.2 with z | z
        · exact (nI_eq (by omega) (by omega)).mp z
        · exact absurd z hS
end
theorem i_vc_remove {k : Nat} {u : SX} {v : SY} (I : i_Rel k u v) (hk : k + 4 ≤ 2048) (v1 : Int32) : wpX_remove (fun r u' => wpY_remove (fun r' v' => r' = r ∧ i_Rel (k + 4) u' v') v v1) u v1 := by
  obtain ⟨tcn, fcn, tk, pa, na, cl, od, al, vc, va, tK, tA, tV, tF, co, pt, oy, wt, rfl, rfl, R⟩ := I
  have R0 := R
  obtain ⟨T, C, O, V, K⟩ := R
  unfold wpX_remove; dsimp only
  by_cases hE : dt_E tk v1
  · obtain ⟨t, ht, rfl, htt⟩ := hE
    refine xe_t ht htt (br_f dt_10 ?_)
    by_cases h0 : t = 0
    · have e0 : nI t = 0 := by rw [h0]; rfl
      refine br_t e0 ?_
      unfold wpY_remove; dsimp only
      exact ye_t ht htt (br_f dt_10 (br_t e0 ⟨rfl, rl_mk R0⟩))
    · have e0 : ¬ nI t = 0 := nI_ne0 (by omega) (by omega)
      refine br_f e0 ⟨25, ?_⟩
      have := xrm_l (fc := nI fcn) (tc := nI tcn) (cl := cl) (od := od) (al := al) (vc := vc) (va := va) (tK := tK) (tA := tA) (tV := tV) (tF := tF) (post := fun r u' => wpY_remove (fun r' v' => r' = r ∧ i_Rel (k + 4) u' v') (nI tcn, nI fcn, tk, pa, na, cl, al, co, va, tK, tA, tV, pt, oy, wt) (nI t)) T h0 ht (fun vc' o' h1 h2 => by
        unfold wpY_remove; dsimp only
        refine ye_t ht htt (br_f dt_10 (br_f e0 (nm_e ⟨25, yrm_1 T ht htt ⟨rfl, rl_mk ⟨dt_T0_rm T h0 ht, C, h2, dt_V_rm V h1, K⟩⟩ 24 0 _ rfl (fun e he => ?_)⟩)))
        rw [dt_bsh (by omega) (by omega), decide_eq_true_eq]
        exact ⟨Or.inl, fun z => z.elim id (fun q => by omega)⟩) 24 0 vc rfl (fun x hx a ha => ⟨fun z => by omega, fun _ => rfl⟩)
      rw [dt_rm_0] at this
      exact this
  · refine xe_f hE (br_t rfl ?_)
    unfold wpY_remove; dsimp only
    exact ye_f hE (br_t rfl ⟨rfl, rl_mk R0⟩)
end
section
/-! put and drop -/
def dt_iv (a v : Int32) (b : Nat) : Nat → (Nat → Int32) → (Nat → Int32)
  | 0, va => upd va b v
  | k + 1, va => if dt_rk a (va (b + k)) ≤ dt_rk a v then upd va (b + (k + 1)) v else dt_iv a v b k (upd va (b + (k + 1)) (va (b + k)))
theorem dt_iv_o {a v : Int32} {b : Nat} : ∀ (k : Nat) (va : Nat → Int32) (j : Nat), (j < b ∨ b + k < j) → dt_iv a v b k va j = va j := by
  intro k
  induction k with
  | zero => intro va j h; exact pk_un (by omega)
  | succ k ih =>
    intro va j h
    rw [dt_iv]
    by_cases c : dt_rk a (va (b + k)) ≤ dt_rk a v
    · rw [if_pos c]; exact pk_un (by omega)
    · rw [if_neg c, ih _ j (by omega)]; exact pk_un (by omega)
theorem dt_iv_w {a v : Int32} {b : Nat} {P : Int32 → Prop} (hv : P v) : ∀ (k : Nat) (va : Nat → Int32), (∀ i, i < k → P (va (b + i))) → ∀ i, i ≤ k → P (dt_iv a v b k va (b + i)) := by
  intro k
  induction k with
  | zero =>
    intro va h i hi
    rw [show i = 0 by omega, Nat.add_zero, dt_iv, pk_us]
    exact hv
  | succ k ih =>
    intro va h i hi
    rw [dt_iv]
    by_cases c : dt_rk a (va (b + k)) ≤ dt_rk a v
    · rw [if_pos c]
      by_cases z : i = k + 1
      · rw [z, pk_us]; exact hv
      · rw [pk_un (by omega)]; exact h i (by omega)
    · rw [if_neg c]
      by_cases z : i = k + 1
      · rw [dt_iv_o k _ _ (by omega), z, pk_us]; exact h k (by omega)
      · exact ih _ (fun j hj => by rw [pk_un (by omega)]; exact h j (by omega)) i (by omega)
def dt_dv (b : Nat) : Nat → Nat → (Nat → Int32) → (Nat → Int32)
  | 0, _, va => va
  | d + 1, k, va => dt_dv b d (k + 1) (upd va (b + k) (va (b + k + 1)))
theorem dt_dv_o {b : Nat} : ∀ (d k : Nat) (va : Nat → Int32) (j : Nat), (j < b ∨ b + k + d ≤ j) → dt_dv b d k va j = va j := by
  intro d
  induction d with
  | zero => intro k va j h; rfl
  | succ d ih =>
    intro k va j h
    rw [dt_dv, ih _ _ j (by omega)]
    exact pk_un (by omega)
theorem dt_dv_w {b c : Nat} {P : Int32 → Prop} : ∀ (d k : Nat) (va : Nat → Int32), k + d + 1 = c → (∀ i, i < c → P (va (b + i))) → ∀ i, i < c → P (dt_dv b d k va (b + i)) := by
  intro d
  induction d with
  | zero => intro k va _ h i hi; exact h i hi
  | succ d ih =>
    intro k va hk h i hi
    rw [dt_dv]
    refine ih (k + 1) _ (by omega) (fun j hj => ?_) i hi
    by_cases z : j = k
    · rw [z, pk_us]; exact h (k + 1) (by omega)
    · rw [pk_un (by omega)]; exact h j hj
theorem dt_V_up {tk vc co va va' : Nat → Int32} (V : dt_V tk vc co va) {e a n : Nat} (he : e < 24) (ha : a < 6) (ht : tk e ≠ 0) (hn : n ≤ 4) (hw : a < 4 → ∀ k, k < n → dt_Wi (va' ((e * 6 + a) * 4 + k))) (ho : ∀ j, (j < (e * 6 + a) * 4 ∨ (e * 6 + a) * 4 + 4 ≤ j) → va' j = va j) : dt_V tk (upd vc (e * 6 + a) (nI n)) (upd co (e * 6 + a) (nI n)) va' := by
  intro x hx b hb
  by_cases z : x = e ∧ b = a
  · obtain ⟨rfl, rfl⟩ := z
    rw [pk_us, pk_us]
    exact ⟨n, hn, rfl, fun _ => rfl, fun q => absurd q ht, hw⟩
  · have hne : x * 6 + b ≠ e * 6 + a := by
      intro q
      exact z (by omega)
    obtain ⟨c, hc4, hvx, hvy, hvz, hw2⟩ := V x hx b hb
    rw [pk_un hne, pk_un hne]
    refine ⟨c, hc4, hvx, hvy, hvz, fun h4 k hk => ?_⟩
    rw [ho _ (by omega)]
    exact hw2 h4 k hk
section
variable {ec tc fc : Int32} {tk pa na cl od al vc va tK tA tV tF : Nat → Int32} {co pt oy wt : Nat → Int32}
theorem xiv_l {post : SX → Prop} {s c : Nat} {a v : Int32} (hs : s < 144) (hc : vc s = nI c) (hc4 : c < 4) : ∀ (k : Nat) (va : Nat → Int32), k ≤ c → post (ec, tc, fc, tk, pa, na, cl, od, al, upd vc s (nI (c + 1)), dt_iv a v (s * 4) k va, tK, tA, tV, tF) → wX_insertValue_23 post (nI s) a v (nI (s * 4)) (dt_rk a v) ec tc fc (k + 1) (nI (s * 4 + k)) tk pa na cl od al vc va tK tA tV tF := by
  have h70 : ∀ (k : Nat) (va : Nat → Int32), k ≤ c → post (ec, tc, fc, tk, pa, na, cl, od, al, upd vc s (nI (c + 1)), upd va (s * 4 + k) v, tK, tA, tV, tF) → wX_insertValue_70 post (nI s) v (nI (s * 4 + k)) ec tc fc tk pa na cl od al vc va tK tA tV tF := by
    intro k va hk hp
    unfold wX_insertValue_70
    rw [nI_clamp (by omega), nI_clamp (by omega), hc]
    exact ⟨vp_in_nI (by omega) (by decide), nm_e ⟨vp_in_nI hs (by decide), vp_in_nI hs (by decide), nm_r (by rw [nI_1]) hp⟩⟩
  intro k
  induction k with
  | zero =>
    intro va hk hp
    exact br_t (nI_le (by omega) (by omega)) (h70 0 va hk hp)
  | succ k ih =>
    intro va hk hp
    rw [wX_insertValue_23]; dsimp only
    rw [show s * 4 + (k + 1) = s * 4 + k + 1 from rfl, nI_pred, pk_m1, nI_clamp (by omega), nI_clamp (by omega)]
    refine br_f (nI_ge (by omega) (by omega)) ⟨vp_in_nI (by omega) (by decide), xr_v ?_⟩
    rw [dt_iv] at hp
    by_cases h : dt_rk a (va (s * 4 + k)) ≤ dt_rk a v
    · rw [if_pos h] at hp
      exact br_t h (h70 (k + 1) va hk hp)
    · rw [if_neg h] at hp
      exact br_f h ⟨vp_in_nI (by omega) (by decide), vp_in_nI (by omega) (by decide), nm_e (nm_e (ih _ (by omega) hp))⟩
theorem xiv_v {post : SX → Prop} {s c : Nat} {a v : Int32} (hs : s < 144) (hc : vc s = nI c) (hc4 : c < 4) (hp : post (ec, tc, fc, tk, pa, na, cl, od, al, upd vc s (nI (c + 1)), dt_iv a v (s * 4) c va, tK, tA, tV, tF)) : wpX_insertValue post (ec, tc, fc, tk, pa, na, cl, od, al, vc, va, tK, tA, tV, tF) (nI s) a v := by
  unfold wpX_insertValue; dsimp only
  rw [nI_clamp (by omega), hc]
  refine nm_r (pk_mul s 4) (xr_v ⟨vp_in_nI hs (by decide), nm_r (nI_add _ _) ⟨c + 1, xiv_l hs hc hc4 c va (Nat.le_refl _) hp⟩⟩)
theorem yiv_l {post : Int32 → SY → Prop} {s c : Nat} {a v : Int32} (hs : s < 144) (hc : co s = nI c) (hc4 : c < 4) : ∀ (k : Nat) (va : Nat → Int32), k ≤ c → post (nI (c + 1)) (tc, fc, tk, pa, na, cl, al, upd co s (nI (c + 1)), dt_iv a v (s * 4) k va, tK, tA, tV, pt, oy, wt) → wY_put_86 post a v (nI s) tc fc (k + 1) (nI k) tk pa na cl al co va tK tA tV pt oy wt := by
  have h151 : ∀ (k : Nat) (va : Nat → Int32), k ≤ c → post (nI (c + 1)) (tc, fc, tk, pa, na, cl, al, upd co s (nI (c + 1)), upd va (s * 4 + k) v, tK, tA, tV, pt, oy, wt) → wY_put_151 post v (nI s) (nI k) tc fc tk pa na cl al co va tK tA tV pt oy wt := by
    intro k va hk hp
    have hv : vp_in (nI s) 144 := vp_in_nI hs (by decide)
    unfold wY_put_151
    rw [dt_4y, nI_clamp (by omega), nI_clamp (by omega), hc]
    exact ⟨vp_in_nI (by omega) (by decide), nm_e ⟨hv, hv, nm_r (by rw [nI_1]) ⟨hv, by rw [pk_us]; exact hp⟩⟩⟩
  intro k
  induction k with
  | zero =>
    intro va hk hp
    exact br_t (show nI 0 ≤ 0 by decide) (h151 0 va hk hp)
  | succ k ih =>
    intro va hk hp
    rw [wY_put_86]; dsimp only
    rw [dt_4y, pk_m1, show s * 4 + (k + 1) = s * 4 + k + 1 from rfl, nI_pred, nI_clamp (by omega), nI_clamp (by omega)]
    refine br_f (nI_nle (by omega) (by omega)) ⟨vp_in_nI (by omega) (by decide), yr_v (yr_v ?_)⟩
    rw [dt_iv] at hp
    by_cases h : dt_rk a (va (s * 4 + k)) ≤ dt_rk a v
    · rw [if_pos h] at hp
      exact br_t h (h151 (k + 1) va hk hp)
    · rw [if_neg h] at hp
      exact br_f h ⟨vp_in_nI (by omega) (by decide), vp_in_nI (by omega) (by decide), nm_e (nm_e (ih _ (by omega) hp))⟩
theorem xdv_l {post : SX → Prop} {s c : Nat} (hs : s < 144) (hc : vc s = nI c) (hc4 : c < 4) : ∀ (d k : Nat) (va : Nat → Int32), k + d = c → post (ec, tc, fc, tk, pa, na, cl, od, al, vc, dt_dv (s * 4) d k va, tK, tA, tV, tF) → wX_deleteValue_17 post (nI s) (nI (s * 4)) ec tc fc (d + 1) (nI k) tk pa na cl od al vc va tK tA tV tF := by
  have hv : vp_in (nI s) 144 := vp_in_nI hs (by decide)
  intro d
  induction d with
  | zero =>
    intro k va hk hp
    rw [wX_deleteValue_17]; dsimp only
    rw [nI_clamp (by omega), hc]
    exact ⟨hv, br_t (nI_le (by omega) (by omega)) hp⟩
  | succ d ih =>
    intro k va hk hp
    rw [wX_deleteValue_17]; dsimp only
    rw [nI_clamp (show s < 2 ^ 31 by omega), hc, nI_add, nI_1 (s * 4 + k), nI_clamp (by omega), nI_clamp (by omega)]
    exact ⟨hv, br_f (nI_ge (by omega) (by omega)) ⟨vp_in_nI (by omega) (by decide), vp_in_nI (by omega) (by decide), nm_e (nm_r (nI_1 k) (ih (k + 1) _ (by omega) hp))⟩⟩
theorem ydv_l {post : Int32 → SY → Prop} {s c : Nat} (hs : s < 144) (hc : co s = nI c) (hc4 : c < 4) : ∀ (d k : Nat) (va : Nat → Int32), k + d = c → post (nI c) (tc, fc, tk, pa, na, cl, al, co, dt_dv (s * 4) d k va, tK, tA, tV, pt, oy, wt) → wY_drop_61 post (nI s) tc fc (d + 1) (nI k) tk pa na cl al co va tK tA tV pt oy wt := by
  have hv : vp_in (nI s) 144 := vp_in_nI hs (by decide)
  intro d
  induction d with
  | zero =>
    intro k va hk hp
    rw [wY_drop_61]; dsimp only
    rw [nI_clamp (by omega), hc]
    exact ⟨hv, br_t (nI_le (by omega) (by omega)) ⟨hv, hp⟩⟩
  | succ d ih =>
    intro k va hk hp
    rw [wY_drop_61]; dsimp only
    rw [nI_clamp (show s < 2 ^ 31 by omega), hc, dt_4y, nI_1 (s * 4 + k), nI_clamp (by omega), nI_clamp (by omega)]
    exact ⟨hv, br_f (nI_ge (by omega) (by omega)) ⟨vp_in_nI (by omega) (by decide), vp_in_nI (by omega) (by decide), nm_e (nm_r (nI_1 k) (ih (k + 1) _ (by omega) hp))⟩⟩
end
theorem i_vc_put {k : Nat} {u : SX} {v : SY} (I : i_Rel k u v) (hk : k + 4 ≤ 2048) (v1 : Int32) (v2 : Int32) (v3 : Int32) : wpX_put (fun r u' => wpY_put (fun r' v' => r' = r ∧ i_Rel (k + 4) u' v') v v1 v2 v3) u v1 v2 v3 := by
  obtain ⟨tcn, fcn, tk, pa, na, cl, od, al, vc, va, tK, tA, tV, tF, co, pt, oy, wt, rfl, rfl, R⟩ := I
  have R0 := R
  obtain ⟨T, C, O, V, K⟩ := R
  unfold wpX_put wpY_put; dsimp only
  by_cases hE : dt_E tk v1
  · obtain ⟨e, he, rfl, ht⟩ := hE
    refine xe_t he ht (br_f dt_10 ?_)
    by_cases hA : dt_L 6 v2
    · obtain ⟨a, ha, rfl⟩ := hA
      refine xa_t ha (br_f dt_10 (xb_v ?_))
      by_cases hB : dt_CB (nI a) v3
      · refine dt_tru hB (xl_v he (C e he) ?_)
        by_cases hL : dt_al al cl e (nI a)
        · refine dt_tru hL ?_
          obtain ⟨c, hc4, hx, hy, _, hw⟩ := V e he a ha
          have hy := hy ht
          have hs : e * 6 + a < 144 := by omega
          have hv : vp_in (nI (e * 6 + a)) 144 := vp_in_nI hs (by decide)
          unfold wpX_setOf
          rw [dt_6x]; dsimp only
          refine xp_v hs hx hc4 ?_
          rcases hp : dt_pl va (e * 6 + a) c v3 with _ | q
          · refine br_t rfl ⟨hv, ?_⟩
            rw [nI_clamp (by omega), hx]
            by_cases h4 : c = 4
            · have e4 : nI c = 4 := by rw [h4]; rfl
              refine br_t e4 (ye_t he ht (br_f dt_10 (ya_t ha (br_f dt_10 (yb_v (dt_tru hB (yl_v he (C e he) (dt_tru hL (yp_v he ha hy hc4 ?_)))))))))
              rw [hp]
              refine br_t (show (-1 : Int32) < 0 by decide) (nm_r (dt_6y e a) ⟨hv, ?_⟩)
              rw [nI_clamp (by omega), hy]
              exact br_t e4 ⟨rfl, rl_mk R0⟩
            · have e4 : ¬ nI c = 4 := fun z => h4 ((nI_eq (b := 4) (by omega) (by decide)).mp z)
              refine br_f e4 (xiv_v hs hx (by omega) ?_)
              dsimp only
              refine ⟨hv, ?_⟩
              rw [pk_us]
              refine ye_t he ht (br_f dt_10 (ya_t ha (br_f dt_10 (yb_v (dt_tru hB (yl_v he (C e he) (dt_tru hL (yp_v he ha hy hc4 ?_))))))))
              rw [hp]
              refine br_t (show (-1 : Int32) < 0 by decide) (nm_r (dt_6y e a) ⟨hv, ?_⟩)
              rw [nI_clamp (by omega), hy]
              refine br_f e4 ⟨hv, nm_e ⟨c + 1, yiv_l hs hy (by omega) c va (Nat.le_refl _) ⟨rfl, rl_mk ⟨T, C, O, dt_V_up V he ha ht (by omega) (fun h4 i hi => ?_) (fun j hj => dt_iv_o c va j (by omega)), K⟩⟩⟩⟩
              exact dt_iv_w (dt_CB4 h4 hB) c va (hw h4) i (by omega)
          · obtain ⟨q1, q2, _⟩ := dt_fds c 0 hp
            refine br_f (dt_m1 (by omega)) (ye_t he ht (br_f dt_10 (ya_t ha (br_f dt_10 (yb_v (dt_tru hB (yl_v he (C e he) (dt_tru hL (yp_v he ha hy hc4 ?_)))))))))
            rw [hp]
            exact br_f (nI_pos (by omega)) ⟨rfl, rl_mk R0⟩
        · exact dt_fls hL (ye_t he ht (br_f dt_10 (ya_t ha (br_f dt_10 (yb_v (dt_tru hB (yl_v he (C e he) (dt_fls hL ⟨rfl, rl_mk R0⟩))))))))
      · exact dt_fls hB (ye_t he ht (br_f dt_10 (ya_t ha (br_f dt_10 (yb_v (dt_fls hB ⟨rfl, rl_mk R0⟩))))))
    · exact xa_f hA (br_t rfl (ye_t he ht (br_f dt_10 (ya_f hA (br_t rfl ⟨rfl, rl_mk R0⟩)))))
  · exact xe_f hE (br_t rfl (ye_f hE (br_t rfl ⟨rfl, rl_mk R0⟩)))
theorem i_vc_drop {k : Nat} {u : SX} {v : SY} (I : i_Rel k u v) (hk : k + 4 ≤ 2048) (v1 : Int32) (v2 : Int32) (v3 : Int32) : wpX_drop (fun r u' => wpY_drop (fun r' v' => r' = r ∧ i_Rel (k + 4) u' v') v v1 v2 v3) u v1 v2 v3 := by
  obtain ⟨tcn, fcn, tk, pa, na, cl, od, al, vc, va, tK, tA, tV, tF, co, pt, oy, wt, rfl, rfl, R⟩ := I
  have R0 := R
  obtain ⟨T, C, O, V, K⟩ := R
  unfold wpX_drop wpY_drop; dsimp only
  by_cases hE : dt_E tk v1
  · obtain ⟨e, he, rfl, ht⟩ := hE
    refine xe_t he ht (br_f dt_10 ?_)
    by_cases hA : dt_L 6 v2
    · obtain ⟨a, ha, rfl⟩ := hA
      refine xa_t ha (br_f dt_10 ?_)
      obtain ⟨c, hc4, hx, hy, _, hw⟩ := V e he a ha
      have hy := hy ht
      have hs : e * 6 + a < 144 := by omega
      have hv : vp_in (nI (e * 6 + a)) 144 := vp_in_nI hs (by decide)
      unfold wpX_setOf
      rw [dt_6x]; dsimp only
      refine xp_v hs hx hc4 ?_
      rcases hp : dt_pl va (e * 6 + a) c v3 with _ | q
      · refine br_t rfl (ye_t he ht (br_f dt_10 (ya_t ha (br_f dt_10 (yp_v he ha hy hc4 ?_)))))
        rw [hp]
        exact br_f (show ¬ (0 : Int32) ≤ -1 by decide) ⟨rfl, rl_mk R0⟩
      · obtain ⟨q1, q2, _⟩ := dt_fds c 0 hp
        obtain ⟨c', rfl⟩ : ∃ c', c = c' + 1 := ⟨c - 1, by omega⟩
        refine br_f (dt_m1 (by omega)) ?_
        unfold wpX_deleteValue; dsimp only
        rw [nI_clamp (by omega), hx]
        refine nm_r (pk_mul _ 4) ⟨hv, hv, nm_r (by rw [nI_pred]) ⟨c' - q + 1, xdv_l (vc := upd vc (e * 6 + a) (nI c')) hs pk_us (by omega) (c' - q) q va (by omega) ?_⟩⟩
        dsimp only
        refine ⟨hv, ?_⟩
        rw [pk_us]
        refine ye_t he ht (br_f dt_10 (ya_t ha (br_f dt_10 (yp_v he ha hy hc4 ?_))))
        rw [hp]
        refine br_t (nI_pos' (by omega)) (nm_r (dt_6y e a) ⟨hv, hv, ?_⟩)
        rw [nI_clamp (by omega), hy]
        refine nm_r (by rw [nI_pred]) ⟨c' - q + 1, ydv_l (co := upd co (e * 6 + a) (nI c')) hs pk_us (by omega) (c' - q) q va (by omega) ⟨rfl, rl_mk ⟨T, C, O, dt_V_up V he ha ht (by omega) (fun h4 i hi => ?_) (fun j hj => dt_dv_o _ _ va j (by omega)), K⟩⟩⟩
        exact dt_dv_w (c := c' + 1) _ _ va (by omega) (hw h4) i (by omega)
    · exact xa_f hA (br_t rfl (ye_t he ht (br_f dt_10 (ya_f hA (br_t rfl ⟨rfl, rl_mk R0⟩)))))
  · exact xe_f hE (br_t rfl (ye_f hE (br_t rfl ⟨rfl, rl_mk R0⟩)))
end
section
/-! allow -/
def dt_O (cl vc : Nat → Int32) (q w : Int32) (x a : Nat) : Prop := cl x = q ∧ ((w >>> (nI a &&& 31)) &&& 1) = 0 ∧ ¬ vc (x * 6 + a) ≤ 0
def dt_OY (tk cl co : Nat → Int32) (q w : Int32) (s : Nat) : Prop := tk (s / 6) ≠ 0 ∧ cl (s / 6) = q ∧ ¬ co s ≤ 0 ∧ ((w >>> (nI (s % 6) &&& 31)) &&& 1) = 0
theorem dt_OO {tk vc co va cl : Nat → Int32} {q w : Int32} (V : dt_V tk vc co va) : (∃ x, 0 ≤ x ∧ x < 24 ∧ ∃ a, 0 ≤ a ∧ a < 6 ∧ dt_O cl vc q w x a) ↔ (∃ s, 0 ≤ s ∧ s < 144 ∧ dt_OY tk cl co q w s) := by
  constructor
  · rintro ⟨x, _, hx, a, _, ha, h1, h2, h3⟩
    obtain ⟨c, hc4, hvx, hvy, hvz, _⟩ := V x hx a ha
    have ht : tk x ≠ 0 := fun z => h3 (by rw [hvx, hvz z]; decide)
    refine ⟨x * 6 + a, by omega, by omega, ?_⟩
    unfold dt_OY
    rw [show (x * 6 + a) / 6 = x by omega, show (x * 6 + a) % 6 = a by omega]
    exact ⟨ht, h1, by rw [hvy ht, ← hvx]; exact h3, h2⟩
  · rintro ⟨s, _, hs, h1, h2, h3, h4⟩
    obtain ⟨c, hc4, hvx, hvy, hvz, _⟩ := V (s / 6) (by omega) (s % 6) (by omega)
    rw [show s / 6 * 6 + s % 6 = s by omega] at hvx hvy
    refine ⟨s / 6, by omega, by omega, s % 6, by omega, by omega, h2, h4, ?_⟩
    rw [show s / 6 * 6 + s % 6 = s by omega, hvx, ← hvy h1]
    exact h3
section
variable {ec tc fc : Int32} {tk pa na cl od al vc va tK tA tV tF : Nat → Int32} {co pt oy wt : Nat → Int32}
theorem xho_i {post J2 : Int32 → Prop} {q w : Int32} {x : Nat} (hx : x < 24) : ∀ d a : Nat, a + d = 6 → ((∃ b, a ≤ b ∧ b < 6 ∧ dt_O cl vc q w x b) → post 1) → ((¬ ∃ b, a ≤ b ∧ b < 6 ∧ dt_O cl vc q w x b) → J2 (nI (x + 1))) → wX_hasValueOutside_11 post J2 q w (nI x) ec tc fc tk pa na cl od al vc va tK tA tV tF (d + 1) (nI a) := by
  intro d
  induction d with
  | zero =>
    intro a ha _ h2
    exact br_t (nI_le (a := 6) (by omega) (by omega)) (nm_r (nI_1 x) (h2 (fun ⟨b, b1, b2, _⟩ => by omega)))
  | succ d ih =>
    intro a ha h1 h2
    rw [wX_hasValueOutside_11]; dsimp only
    rw [nI_clamp (by omega)]
    refine br_f (nI_ge (b := 6) (by omega) (by decide)) ⟨vp_in_nI hx (by decide), ?_⟩
    have nxt : ¬ dt_O cl vc q w x a → wX_hasValueOutside_11 post J2 q w (nI x) ec tc fc tk pa na cl od al vc va tK tA tV tF (d + 1) (nI (a + 1)) := fun h => ih (a + 1) (by omega) (fun ⟨b, b1, b2, b3⟩ => h1 ⟨b, by omega, b2, b3⟩) (fun z => h2 (fun ⟨b, b1, b2, b3⟩ => by
      by_cases e : b = a
      · subst e; exact h b3
      · exact z ⟨b, by omega, b2, b3⟩))
    by_cases c1 : cl x = q
    · refine br_t c1 ?_
      by_cases c2 : ((w >>> (nI a &&& 31)) &&& 1) = 0
      · refine br_t c2 ?_
        unfold wX_hasValueOutside_42
        refine br_f dt_10 ?_
        unfold wpX_setOf
        rw [dt_6x]; dsimp only
        rw [nI_clamp (by omega)]
        refine ⟨vp_in_nI (by omega) (by decide), ?_⟩
        by_cases c3 : vc (x * 6 + a) ≤ 0
        · exact br_t c3 (nm_r (nI_1 a) (nxt (fun z => z.2.2 c3)))
        · exact br_f c3 (h1 ⟨a, by omega, by omega, c1, c2, c3⟩)
      · refine br_f c2 ?_
        unfold wX_hasValueOutside_41 wX_hasValueOutside_42
        exact br_t rfl (nm_r (nI_1 a) (nxt (fun z => c2 z.2.1)))
    · refine br_f c1 ?_
      unfold wX_hasValueOutside_41 wX_hasValueOutside_42
      exact br_t rfl (nm_r (nI_1 a) (nxt (fun z => c1 z.1)))
theorem xho_o {post : Int32 → Prop} {q w : Int32} : ∀ d x : Nat, x + d = 24 → post (dt_b (∃ y, x ≤ y ∧ y < 24 ∧ ∃ a, 0 ≤ a ∧ a < 6 ∧ dt_O cl vc q w y a)) → wX_hasValueOutside_2 post q w ec tc fc tk pa na cl od al vc va tK tA tV tF (d + 1) (nI x) := by
  intro d
  induction d with
  | zero =>
    intro x hx hp
    rw [dt_b0 (fun ⟨y, y1, y2, _⟩ => by omega)] at hp
    exact br_t (nI_le (a := 24) (by omega) (by omega)) hp
  | succ d ih =>
    intro x hx hp
    refine br_f (nI_ge (b := 24) (by omega) (by decide)) ⟨7, xho_i (by omega) 6 0 rfl (fun h => ?_) (fun h => ih (x + 1) (by omega) ?_)⟩
    · rw [dt_b1 ⟨x, by omega, by omega, h⟩] at hp
      exact hp
    · rw [dt_bc (d := ∃ y, x + 1 ≤ y ∧ y < 24 ∧ ∃ a, 0 ≤ a ∧ a < 6 ∧ dt_O cl vc q w y a) ⟨fun ⟨y, y1, y2, y3⟩ => ⟨y, by
        by_cases e : y = x
        · subst e; exact absurd y3 h
        · omega, y2, y3⟩, fun ⟨y, y1, y2, y3⟩ => ⟨y, by omega, y2, y3⟩⟩] at hp
      exact hp
theorem yal_l {post : Int32 → SY → Prop} {q w : Int32} : ∀ d s : Nat, s + d = 144 → ((∃ r, s ≤ r ∧ r < 144 ∧ dt_OY tk cl co q w r) → post (-3) (tc, fc, tk, pa, na, cl, al, co, va, tK, tA, tV, pt, oy, wt)) → ((¬ ∃ r, s ≤ r ∧ r < 144 ∧ dt_OY tk cl co q w r) → (vp_in q 4 ∧ (∀ x3_7 : Int32, x3_7 = al q.toNatClampNeg → (vp_in q 4 ∧ ∀ al_9 : Nat → Int32, al_9 = upd al q.toNatClampNeg w → (post x3_7 (tc, fc, tk, pa, na, cl, al_9, co, va, tK, tA, tV, pt, oy, wt)))))) → wY_allow_24 post q w tc fc tk pa na cl al co va tK tA tV pt oy wt (d + 1) (nI s) := by
  intro d
  induction d with
  | zero =>
    intro s hs _ h2
    exact br_t (nI_le (a := 144) (by omega) (by omega)) (h2 (fun ⟨b, b1, b2, _⟩ => by omega))
  | succ d ih =>
    intro s hs h1 h2
    have e1 : nI s / 6 = nI (s / 6) := pk_div (d := 6) (by omega) (by decide) (by decide)
    have e2 : nI s - nI s / 6 * 6 = nI (s % 6) := pk_rem (d := 6) (by omega) (by decide) (by decide)
    rw [wY_allow_24]; dsimp only
    rw [e2, e1, nI_clamp (show s / 6 < 2 ^ 31 by omega), nI_clamp (show s < 2 ^ 31 by omega)]
    have hv : vp_in (nI (s / 6)) 24 := vp_in_nI (by omega) (by decide)
    refine br_f (nI_ge (b := 144) (by omega) (by decide)) ⟨by decide, hv, ?_⟩
    have nxt : ¬ dt_OY tk cl co q w s → wY_allow_24 post q w tc fc tk pa na cl al co va tK tA tV pt oy wt (d + 1) (nI (s + 1)) := fun h => ih (s + 1) (by omega) (fun ⟨b, b1, b2, b3⟩ => h1 ⟨b, by omega, b2, b3⟩) (fun z => h2 (fun ⟨b, b1, b2, b3⟩ => by
      by_cases e : b = s
      · subst e; exact h b3
      · exact z ⟨b, by omega, b2, b3⟩))
    by_cases c1 : tk (s / 6) = 0
    · exact br_t c1 (nm_r (nI_1 s) (nxt (fun z => z.1 c1)))
    · refine br_f c1 ⟨by decide, hv, ?_⟩
      by_cases c2 : cl (s / 6) = q
      · refine br_t c2 ⟨vp_in_nI (by omega) (by decide), ?_⟩
        by_cases c3 : co s ≤ 0
        · exact br_t c3 (nm_r (nI_1 s) (nxt (fun z => z.2.2.1 c3)))
        · refine br_f c3 ⟨by decide, ?_⟩
          by_cases c4 : ((w >>> (nI (s % 6) &&& 31)) &&& 1) = 0
          · exact br_t c4 (h1 ⟨s, by omega, by omega, c1, c2, c3, c4⟩)
          · exact br_f c4 (nm_r (nI_1 s) (nxt (fun z => c4 z.2.2.2)))
      · exact br_f c2 (nm_r (nI_1 s) (nxt (fun z => c2 z.2.1)))
end
theorem i_vc_allow {k : Nat} {u : SX} {v : SY} (I : i_Rel k u v) (hk : k + 4 ≤ 2048) (v1 : Int32) (v2 : Int32) : wpX_allow (fun r u' => wpY_allow (fun r' v' => r' = r ∧ i_Rel (k + 4) u' v') v v1 v2) u v1 v2 := by
  obtain ⟨tcn, fcn, tk, pa, na, cl, od, al, vc, va, tK, tA, tV, tF, co, pt, oy, wt, rfl, rfl, R⟩ := I
  have R0 := R
  obtain ⟨T, C, O, V, K⟩ := R
  unfold wpX_allow wpY_allow; dsimp only
  by_cases hC : dt_L 4 v1
  · obtain ⟨q, hq, rfl⟩ := hC
    have hv : vp_in (nI q) 4 := vp_in_nI hq (by decide)
    have hq0 : ¬ nI q < 0 := nI_pos (by omega)
    have hq3 : ¬ 3 < nI q := nI_nlt (a := 3) (by omega) (by decide)
    refine xc_t hq (br_f dt_10 ?_)
    by_cases h0 : v2 < 0
    · exact br_t h0 (br_f hq0 (br_f hq3 (br_t h0 ⟨rfl, rl_mk R0⟩)))
    · refine br_f h0 ?_
      by_cases h63 : v2 ≤ 63
      · refine br_t h63 ⟨25, xho_o 24 0 rfl ?_⟩
        have hO := dt_OO (cl := cl) (q := nI q) (w := v2) V
        by_cases hB : ∃ x, 0 ≤ x ∧ x < 24 ∧ ∃ a, 0 ≤ a ∧ a < 6 ∧ dt_O cl vc (nI q) v2 x a
        · exact dt_tru hB (br_f hq0 (br_f hq3 (br_f h0 (br_t h63 ⟨145, yal_l 144 0 rfl (fun _ => ⟨rfl, rl_mk R0⟩) (fun z => absurd (hO.mp hB) z)⟩))))
        · refine dt_fls hB ⟨hv, nm_e ⟨hv, nm_e (br_f hq0 (br_f hq3 (br_f h0 (br_t h63 ⟨145, yal_l 144 0 rfl (fun z => absurd (hO.mpr z) hB) (fun _ => ⟨hv, nm_e ⟨hv, nm_e ⟨rfl, rl_mk R0⟩⟩⟩)⟩))))⟩⟩
      · exact br_f h63 (br_f hq0 (br_f hq3 (br_f h0 (br_f h63 ⟨rfl, rl_mk R0⟩))))
  · refine xc_f hC (br_t rfl ?_)
    rcases dt_L_f (by decide) hC with h0 | ⟨h1, h0⟩
    · exact br_t h0 ⟨rfl, rl_mk R0⟩
    · exact br_f h1 (br_t (dt_gt (b := 3) h0 (by decide) (by decide)) ⟨rfl, rl_mk R0⟩)
end
section
/-! different -/
def dt_sm (f : Nat → Nat) : Nat → Nat
  | 0 => 0
  | n + 1 => dt_sm f n + f n
theorem dt_cn_c {P : Nat → Prop} {c : Nat} : ∀ n, c ≤ n → dt_cn (fun k => k < c ∧ P k) n = dt_cn P c := by
  intro n
  induction n with
  | zero => intro h; rw [show c = 0 by omega]; rfl
  | succ n ih =>
    intro h
    by_cases e : c = n + 1
    · subst e
      exact dt_cnc _ (fun i hi => ⟨fun z => z.2, fun z => ⟨hi, z⟩⟩)
    · rw [dt_cn, ih (by omega), dt_1z (c := n < c ∧ P n) (fun z => by omega), Nat.add_zero]
section
variable (va : Nat → Int32) (cf : Nat → Nat) (a : Nat)
def dt_HB (x : Nat) (v : Int32) : Prop := ∃ y, 0 ≤ y ∧ y < x ∧ dt_pl va (y * 6 + a) (cf y) v ≠ none
def dt_Fr (x k : Nat) : Prop := ¬ dt_HB va cf a x (va ((x * 6 + a) * 4 + k))
theorem dt_M4 (hc : ∀ y, y < 24 → cf y ≤ 4) : ∀ x, x ≤ 24 → dt_cn (fun p => p % 4 < cf (p / 4) ∧ dt_Fr va cf a (p / 4) (p % 4)) (4 * x) = dt_sm (fun y => dt_cn (dt_Fr va cf a y) (cf y)) x := by
  intro x
  induction x with
  | zero => intro _; rfl
  | succ x ih =>
    intro hx
    have h1 := ih (by omega)
    have key : ∀ j, j ≤ 4 → dt_cn (fun p => p % 4 < cf (p / 4) ∧ dt_Fr va cf a (p / 4) (p % 4)) (4 * x + j) = dt_cn (fun p => p % 4 < cf (p / 4) ∧ dt_Fr va cf a (p / 4) (p % 4)) (4 * x) + dt_cn (fun k => k < cf x ∧ dt_Fr va cf a x k) j := by
      intro j
      induction j with
      | zero => intro _; rfl
      | succ j ihj =>
        intro hj
        have := ihj (by omega)
        show dt_cn _ (4 * x + j) + dt_1 ((4 * x + j) % 4 < cf ((4 * x + j) / 4) ∧ dt_Fr va cf a ((4 * x + j) / 4) ((4 * x + j) % 4)) = _
        rw [this, show (4 * x + j) % 4 = j by omega, show (4 * x + j) / 4 = x by omega]
        rw [dt_cn]
        omega
    rw [show 4 * (x + 1) = 4 * x + 4 by omega, key 4 (by omega), h1, dt_cn_c 4 (hc x (by omega)), dt_sm]
end
section
variable {ec tc fc : Int32} {tk pa na cl od al vc va tK tA tV tF : Nat → Int32} {co pt oy wt : Nat → Int32}
variable {cf : Nat → Nat} {a : Nat}
theorem xhb_l {post : Int32 → Prop} {x : Nat} {v : Int32} (hx : x < 24) (ha : a < 6) (hc : ∀ y, y < 24 → cf y ≤ 4 ∧ vc (y * 6 + a) = nI (cf y)) : ∀ d y : Nat, y + d = x → post (dt_b (∃ z, y ≤ z ∧ z < x ∧ dt_pl va (z * 6 + a) (cf z) v ≠ none)) → wX_isHeldBefore_3 post (nI x) (nI a) v ec tc fc tk pa na cl od al vc va tK tA tV tF (d + 1) (nI y) := by
  intro d
  induction d with
  | zero =>
    intro y hy hp
    rw [dt_b0 (fun ⟨z, z1, z2, _⟩ => by omega)] at hp
    exact br_t (nI_le (by omega) (by omega)) hp
  | succ d ih =>
    intro y hy hp
    obtain ⟨c4, cv⟩ := hc y (by omega)
    rw [wX_isHeldBefore_3]; dsimp only
    refine br_f (nI_ge (by omega) (by omega)) ?_
    unfold wpX_setOf
    rw [dt_6x]; dsimp only
    refine xp_v (by omega) cv c4 ?_
    rcases hq : dt_pl va (y * 6 + a) (cf y) v with _ | q
    · refine br_t rfl (nm_r (nI_1 y) (ih (y + 1) (by omega) ?_))
      rw [dt_bc (d := ∃ z, y + 1 ≤ z ∧ z < x ∧ dt_pl va (z * 6 + a) (cf z) v ≠ none) ⟨fun ⟨z, z1, z2, z3⟩ => ⟨z, by
        by_cases e : z = y
        · subst e; exact absurd hq z3
        · omega, z2, z3⟩, fun ⟨z, z1, z2, z3⟩ => ⟨z, by omega, z2, z3⟩⟩] at hp
      exact hp
    · obtain ⟨q1, q2, _⟩ := dt_fds (cf y) 0 hq
      rw [dt_b1 ⟨y, by omega, by omega, by rw [hq]; exact fun z => nomatch z⟩] at hp
      exact br_f (dt_m1 (by omega)) hp
theorem xdf_i {post : Int32 → Prop} {J14 : Int32 → Int32 → Prop} {x n0 : Nat} (hx : x < 24) (ha : a < 6) (hc : ∀ y, y < 24 → cf y ≤ 4 ∧ vc (y * 6 + a) = nI (cf y)) (H : J14 (nI (n0 + dt_cn (dt_Fr va cf a x) (cf x))) (nI (x + 1))) : ∀ d k : Nat, k + d = cf x → wX_different_30 post J14 (nI a) (nI x) (nI (x * 6 + a)) ec tc fc tk pa na cl od al vc va tK tA tV tF (d + 1) (nI (n0 + dt_cn (dt_Fr va cf a x) k)) (nI k) := by
  obtain ⟨c4, cv⟩ := hc x hx
  have hv : vp_in (nI (x * 6 + a)) 144 := vp_in_nI (by omega) (by decide)
  intro d
  induction d with
  | zero =>
    intro k hk
    rw [wX_different_30]; dsimp only
    rw [nI_clamp (by omega), cv, show k = cf x by omega]
    exact ⟨hv, br_t (nI_le (by omega) (by omega)) (nm_r (nI_1 x) H)⟩
  | succ d ih =>
    intro k hk
    have h1 := ih (k + 1) (by omega)
    rw [wX_different_30]; dsimp only
    rw [nI_clamp (show x * 6 + a < 2 ^ 31 by omega), cv, dt_4x, nI_clamp (by omega)]
    refine ⟨hv, br_f (nI_ge (by omega) (by omega)) ⟨vp_in_nI (by omega) (by decide), ⟨x + 1, xhb_l hx ha hc x 0 (by omega) ?_⟩⟩⟩
    rw [dt_cn] at h1
    by_cases hB : ∃ z, 0 ≤ z ∧ z < x ∧ dt_pl va (z * 6 + a) (cf z) (va ((x * 6 + a) * 4 + k)) ≠ none
    · rw [dt_1z (c := dt_Fr va cf a x k) (fun z => z hB)] at h1
      exact dt_tru hB (nm_r (nI_1 k) h1)
    · rw [dt_11 (c := dt_Fr va cf a x k) hB] at h1
      exact dt_fls hB (nm_r (nI_1 _) (nm_r (nI_1 k) h1))
theorem xdf_o {post : Int32 → Prop} (ha : a < 6) (hc : ∀ y, y < 24 → cf y ≤ 4 ∧ vc (y * 6 + a) = nI (cf y)) (hp : post (nI (dt_sm (fun y => dt_cn (dt_Fr va cf a y) (cf y)) 24))) : ∀ d x : Nat, x + d = 24 → wX_different_14 post (nI a) ec tc fc tk pa na cl od al vc va tK tA tV tF (d + 1) (nI (dt_sm (fun y => dt_cn (dt_Fr va cf a y) (cf y)) x)) (nI x) := by
  intro d
  induction d with
  | zero =>
    intro x hx
    have e : x = 24 := by omega
    subst e
    exact br_t (nI_le (a := 24) (b := 24) (by omega) (by decide)) hp
  | succ d ih =>
    intro x hx
    have h1 := ih (x + 1) (by omega)
    rw [wX_different_14]; dsimp only
    refine br_f (nI_ge (b := 24) (by omega) (by decide)) ?_
    unfold wpX_setOf
    rw [dt_6x]
    exact ⟨cf x + 1, xdf_i (by omega) ha hc h1 (cf x) 0 (by omega)⟩
theorem ydf_8 {post : Int32 → Prop} {J15 : Int32 → Int32 → Prop} {F : Prop} {n p : Nat} {x1 : Int32} (H : J15 (nI (n + dt_1 F)) (nI (p + 1))) : wY_different_128 post J15 x1 (nI n) (nI p) (dt_b F) tc fc tk pa na cl al co va tK tA tV pt oy wt := by
  unfold wY_different_128
  by_cases f : F
  · rw [dt_11 f] at H
    exact dt_tru f (nm_r (nI_1 n) (nm_r (nI_1 p) H))
  · rw [dt_1z f] at H
    exact dt_fls f (nm_r (nI_1 p) H)
theorem ydf_l {post : Int32 → Prop} {J15 : Int32 → Int32 → Prop} {n p : Nat} {v : Int32} (hp : p < 96) (ha : a < 6) (hc : ∀ y, y < 24 → cf y ≤ 4 ∧ (tk y ≠ 0 → co (y * 6 + a) = nI (cf y)) ∧ (tk y = 0 → cf y = 0)) : ∀ (d y : Nat) (g : Prop), y + d = p / 4 → J15 (nI (n + dt_1 (g ∧ ∀ z, y ≤ z → z < p / 4 → dt_pl va (z * 6 + a) (cf z) v = none))) (nI (p + 1)) → wY_different_80 post J15 (nI a) (nI n) (nI p) v tc fc tk pa na cl al co va tK tA tV pt oy wt (d + 1) (dt_b g) (nI y) := by
  have e4 : nI p / 4 = nI (p / 4) := pk_div (d := 4) (by omega) (by decide) (by decide)
  intro d
  induction d with
  | zero =>
    intro y g hy H
    rw [wY_different_80]; dsimp only
    rw [e4]
    refine ⟨by decide, br_t (nI_le (by omega) (by omega)) (ydf_8 ?_)⟩
    rw [dt_1c (d := g) ⟨fun z => z.1, fun z => ⟨z, fun i h1 h2 => by omega⟩⟩] at H
    exact H
  | succ d ih =>
    intro y g hy H
    obtain ⟨c4, c5, c6⟩ := hc y (by omega)
    rw [wY_different_80]; dsimp only
    rw [e4, nI_clamp (by omega)]
    refine ⟨by decide, br_f (nI_ge (by omega) (by omega)) ?_⟩
    by_cases hg : g
    · refine dt_tru hg ⟨vp_in_nI (by omega) (by decide), ?_⟩
      have go : dt_pl va (y * 6 + a) (cf y) v = none → wY_different_80 post J15 (nI a) (nI n) (nI p) v tc fc tk pa na cl al co va tK tA tV pt oy wt (d + 1) 1 (nI (y + 1)) := fun hn => by
        have := ih (y + 1) True (by omega) (by
          rw [dt_1c (d := g ∧ ∀ z, y ≤ z → z < p / 4 → dt_pl va (z * 6 + a) (cf z) v = none) ⟨fun q => ⟨hg, fun z h1 h2 => if e : z = y then by rw [e]; exact hn else q.2 z (by omega) h2⟩, fun q => ⟨trivial, fun z h1 h2 => q.2 z (by omega) h2⟩⟩]
          exact H)
        rw [dt_b1 trivial] at this
        exact this
      by_cases ht : tk y = 0
      · exact br_t ht (nm_r (nI_1 y) (go (by rw [c6 ht]; rfl)))
      · refine br_f ht (yp_v (by omega) ha (c5 ht) c4 ?_)
        rcases hq : dt_pl va (y * 6 + a) (cf y) v with _ | q
        · exact br_f (show ¬ (0 : Int32) ≤ -1 by decide) (nm_r (nI_1 y) (go hq))
        · obtain ⟨q1, q2, _⟩ := dt_fds (cf y) 0 hq
          refine br_t (nI_pos' (by omega)) (nm_r (nI_1 y) ?_)
          have := ih (y + 1) False (by omega) (by
            rw [dt_1c (d := g ∧ ∀ z, y ≤ z → z < p / 4 → dt_pl va (z * 6 + a) (cf z) v = none) ⟨fun q => q.1.elim, fun q => by
              have := q.2 y (by omega) (by omega)
              rw [hq] at this
              exact nomatch this⟩]
            exact H)
          rw [dt_b0 (fun z => z)] at this
          exact this
    · refine dt_fls hg (ydf_8 ?_)
      rw [dt_1c (d := g) ⟨fun z => z.1, fun z => absurd z hg⟩] at H
      exact H
theorem ydf_o {post : Int32 → Prop} (ha : a < 6) (hc : ∀ y, y < 24 → cf y ≤ 4 ∧ (tk y ≠ 0 → co (y * 6 + a) = nI (cf y)) ∧ (tk y = 0 → cf y = 0)) (hp : post (nI (dt_cn (fun p => p % 4 < cf (p / 4) ∧ dt_Fr va cf a (p / 4) (p % 4)) 96))) : ∀ d p : Nat, p + d = 96 → wY_different_15 post (nI a) tc fc tk pa na cl al co va tK tA tV pt oy wt (d + 1) (nI (dt_cn (fun p => p % 4 < cf (p / 4) ∧ dt_Fr va cf a (p / 4) (p % 4)) p)) (nI p) := by
  intro d
  induction d with
  | zero =>
    intro p hp2
    have e : p = 96 := by omega
    subst e
    exact br_t (nI_le (a := 96) (b := 96) (by omega) (by decide)) hp
  | succ d ih =>
    intro p hp2
    have h1 := ih (p + 1) (by omega)
    obtain ⟨c4, c5, c6⟩ := hc (p / 4) (by omega)
    have e4 : nI p / 4 = nI (p / 4) := pk_div (d := 4) (by omega) (by decide) (by decide)
    have e5 : nI p - nI p / 4 * 4 = nI (p % 4) := pk_rem (d := 4) (by omega) (by decide) (by decide)
    rw [dt_cn] at h1
    have go : ∀ g : Prop, (g ↔ (tk (p / 4) ≠ 0 ∧ p % 4 < cf (p / 4))) → wY_different_60 post (wY_different_15 post (nI a) tc fc tk pa na cl al co va tK tA tV pt oy wt (d + 1)) (nI a) (nI (dt_cn (fun p => p % 4 < cf (p / 4) ∧ dt_Fr va cf a (p / 4) (p % 4)) p)) (nI p) (nI (p / 4 * 6 + a)) (dt_b g) tc fc tk pa na cl al co va tK tA tV pt oy wt := by
      intro g hg
      unfold wY_different_60
      rw [e5, dt_4y, nI_clamp (by omega)]
      refine ⟨by decide, vp_in_nI (by omega) (by decide), nm_e ⟨p / 4 + 1, ydf_l (by omega) ha hc (p / 4) 0 g (by omega) ?_⟩⟩
      rw [dt_1c (d := p % 4 < cf (p / 4) ∧ dt_Fr va cf a (p / 4) (p % 4)) ⟨fun z => ⟨(hg.mp z.1).2, fun ⟨y, y1, y2, y3⟩ => y3 (z.2 y y1 y2)⟩, fun z => ⟨hg.mpr ⟨fun q => by have := c6 q; omega, z.1⟩, fun y y1 y2 => Classical.byContradiction fun q => z.2 ⟨y, y1, y2, q⟩⟩⟩]
      exact h1
    rw [wY_different_15]; dsimp only
    rw [e5, e4, nI_clamp (show p / 4 < 2 ^ 31 by omega)]
    refine br_f (nI_ge (b := 96) (by omega) (by decide)) ⟨by decide, nm_r (dt_6y _ _) ⟨by decide, vp_in_nI (by omega) (by decide), ?_⟩⟩
    by_cases ht : tk (p / 4) = 0
    · have := go False ⟨False.elim, fun z => absurd ht z.1⟩
      rw [dt_b0 (fun z => z)] at this
      exact br_t ht this
    · refine br_f ht ⟨by decide, vp_in_nI (by omega) (by decide), ?_⟩
      rw [nI_clamp (by omega), c5 ht]
      by_cases hl : p % 4 < cf (p / 4)
      · have := go True ⟨fun _ => ⟨ht, hl⟩, fun _ => trivial⟩
        rw [dt_b1 trivial] at this
        exact br_f (nI_ge (by omega) (by omega)) this
      · have := go False ⟨False.elim, fun z => absurd z.2 hl⟩
        rw [dt_b0 (fun z => z)] at this
        exact br_t (nI_le (by omega) (by omega)) this
end
theorem i_vc_different {k : Nat} {u : SX} {v : SY} (I : i_Rel k u v) (hk : k + 4 ≤ 2048) (v1 : Int32) : wpX_different (fun r => wpY_different (fun r' => r' = r ∧ i_Rel (k + 4) u v) v v1) u v1 := by
  have I0 := I
  obtain ⟨tcn, fcn, tk, pa, na, cl, od, al, vc, va, tK, tA, tV, tF, co, pt, oy, wt, rfl, rfl, R⟩ := I
  obtain ⟨T, C, O, V, K⟩ := R
  unfold wpX_different wpY_different; dsimp only
  by_cases hA : dt_L 6 v1
  · obtain ⟨a, ha, rfl⟩ := hA
    have hc : ∀ y, y < 24 → (vc (y * 6 + a)).toNatClampNeg ≤ 4 ∧ vc (y * 6 + a) = nI (vc (y * 6 + a)).toNatClampNeg ∧ (tk y ≠ 0 → co (y * 6 + a) = nI (vc (y * 6 + a)).toNatClampNeg) ∧ (tk y = 0 → (vc (y * 6 + a)).toNatClampNeg = 0) := by
      intro y hy
      obtain ⟨c, c4, cx, cy, cz, _⟩ := V y hy a ha
      rw [cx, nI_clamp (by omega)]
      exact ⟨c4, rfl, cy, cz⟩
    refine xa_t ha (br_f dt_10 ⟨25, xdf_o (cf := fun y => (vc (y * 6 + a)).toNatClampNeg) ha (fun y hy => ⟨(hc y hy).1, (hc y hy).2.1⟩) ?_ 24 0 rfl⟩)
    refine ya_t ha (br_f dt_10 ⟨97, ydf_o (cf := fun y => (vc (y * 6 + a)).toNatClampNeg) ha (fun y hy => ⟨(hc y hy).1, (hc y hy).2.2⟩) ?_ 96 0 rfl⟩)
    refine ⟨?_, I0⟩
    rw [← dt_M4 va (fun y => (vc (y * 6 + a)).toNatClampNeg) a (fun y hy => (hc y hy).1) 24 (Nat.le_refl _)]
  · exact xa_f hA (br_t rfl (ya_f hA (br_t rfl ⟨rfl, I0⟩)))
end
section
/-! count and found -/
theorem dt_up_u {pa : Nat → Int32} : ∀ (k k' : Nat) (x : Int32), dt_Up pa k x → dt_Up pa k' x → k = k' := by
  intro k
  induction k with
  | zero =>
    intro k' x h h'
    cases k' with
    | zero => rfl
    | succ k' =>
      obtain ⟨j, hj, rfl, _⟩ := h'
      exact absurd h (dt_m1 (by omega))
  | succ k ih =>
    intro k' x h h'
    obtain ⟨j, hj, rfl, hu⟩ := h
    cases k' with
    | zero => exact absurd h' (dt_m1 (by omega))
    | succ k' =>
      obtain ⟨i, hi, ei, hu'⟩ := h'
      rw [nI_eq (by omega) (by omega)] at ei
      subst ei
      rw [ih k' _ hu hu']
theorem dt_sub_le {pa : Nat → Int32} (p0 : pa 0 = -1) {t k' : Nat} (ht : t < 24) (hk' : dt_Up pa k' (nI t)) : ∀ (k : Nat) (x : Int32), dt_Up pa k x → dt_Sub pa (nI t) x → k' ≤ k := by
  intro k
  induction k with
  | zero =>
    intro x h hs
    have h : x = -1 := h
    subst h
    exact absurd hs (dt_sub_m1 p0 (dt_m1 (by omega)))
  | succ k ih =>
    intro x h hs
    have h0 := h
    obtain ⟨j, hj, rfl, hu⟩ := h
    rcases (dt_sub_s (by omega)).mp hs with z | z
    · rw [z] at h0
      rw [dt_up_u _ _ _ hk' h0]
      exact Nat.le_refl _
    · have := ih _ hu z
      omega
theorem dt_acy {tk pa na : Nat → Int32} (T : dt_T0 tk pa na) {t : Nat} (ht : t < 24) (htt : tk t ≠ 0) : ¬ dt_Sub pa (nI t) (pa t) := by
  intro hs
  obtain ⟨k, hk⟩ := T.2.2.2 t ht htt
  cases k with
  | zero => exact dt_m1 (by omega) hk
  | succ k =>
    have hk0 := hk
    obtain ⟨j, hj, ej, hu⟩ := hk
    rw [nI_eq (by omega) (by omega)] at ej
    subst ej
    have := dt_sub_le T.1.2 ht hk0 k _ hu hs
    omega
def dt_SC (pa : Nat → Int32) (t sc y : Nat) : Prop := (sc = 0 ∧ y = t) ∨ (sc = 1 ∧ pa y = nI t) ∨ (sc = 2 ∧ dt_Sub pa (nI t) (nI y)) ∨ (sc = 3 ∧ y ≠ t ∧ dt_Sub pa (nI t) (nI y))
theorem dt_SC0 {pa : Nat → Int32} {t y : Nat} : dt_SC pa t 0 y ↔ y = t := by
  constructor
  · rintro (z | z | z | z)
    · exact z.2
    · exact absurd z.1 (by omega)
    · exact absurd z.1 (by omega)
    · exact absurd z.1 (by omega)
  · exact fun z => Or.inl ⟨rfl, z⟩
theorem dt_SC1 {pa : Nat → Int32} {t y : Nat} : dt_SC pa t 1 y ↔ pa y = nI t := by
  constructor
  · rintro (z | z | z | z)
    · exact absurd z.1 (by omega)
    · exact z.2
    · exact absurd z.1 (by omega)
    · exact absurd z.1 (by omega)
  · exact fun z => Or.inr (Or.inl ⟨rfl, z⟩)
theorem dt_SC2 {pa : Nat → Int32} {t y : Nat} : dt_SC pa t 2 y ↔ dt_Sub pa (nI t) (nI y) := by
  constructor
  · rintro (z | z | z | z)
    · exact absurd z.1 (by omega)
    · exact absurd z.1 (by omega)
    · exact z.2
    · exact absurd z.1 (by omega)
  · exact fun z => Or.inr (Or.inr (Or.inl ⟨rfl, z⟩))
theorem dt_SC3 {pa : Nat → Int32} {t y : Nat} : dt_SC pa t 3 y ↔ (y ≠ t ∧ dt_Sub pa (nI t) (nI y)) := by
  constructor
  · rintro (z | z | z | z)
    · exact absurd z.1 (by omega)
    · exact absurd z.1 (by omega)
    · exact absurd z.1 (by omega)
    · exact z.2
  · exact fun z => Or.inr (Or.inr (Or.inr ⟨rfl, z⟩))
section
variable {ec tc fc : Int32} {tk pa na cl od al vc va tK tA tV tF : Nat → Int32} {co pt oy wt : Nat → Int32}
theorem xsc_v {post : Int32 → Prop} {t sc y : Nat} (T : dt_T0 tk pa na) (ht : t < 24) (hy : y < 24) (hyt : tk y ≠ 0) (hsc : sc < 4) (hp : post (dt_b (dt_SC pa t sc y))) : wpX_isInScope post (ec, tc, fc, tk, pa, na, cl, od, al, vc, va, tK, tA, tV, tF) (nI y) (nI t) (nI sc) := by
  unfold wpX_isInScope; dsimp only
  have eyt : nI y = nI t ↔ y = t := nI_eq (by omega) (by omega)
  rcases (show sc = 0 ∨ sc = 1 ∨ sc = 2 ∨ sc = 3 by omega) with rfl | rfl | rfl | rfl
  · refine br_f (by decide) (br_f (by decide) (br_t rfl ?_))
    rw [dt_bc dt_SC0] at hp
    by_cases h : y = t
    · rw [dt_b1 h] at hp; exact br_t (eyt.mpr h) hp
    · rw [dt_b0 h] at hp; exact br_f (fun z => h (eyt.mp z)) hp
  · refine br_f (by decide) (br_f (by decide) (br_f (by decide) (br_t rfl ⟨vp_in_nI hy (by decide), ?_⟩)))
    rw [nI_clamp (by omega)]
    rw [dt_bc dt_SC1] at hp
    by_cases h : pa y = nI t
    · rw [dt_b1 h] at hp; exact br_t h hp
    · rw [dt_b0 h] at hp; exact br_f h hp
  · rw [dt_bc dt_SC2] at hp
    exact br_f (by decide) (br_f (by decide) (br_f (by decide) (br_f (by decide) (br_t rfl (xs_v T ht hy (dt_up24 T hy hyt) ⟨dt_bn _, hp⟩)))))
  · rw [dt_bc dt_SC3] at hp
    refine br_f (by decide) (br_t (by decide) ?_)
    by_cases h : y = t
    · rw [dt_b0 (fun z => z.1 h)] at hp
      exact br_t (eyt.mpr h) hp
    · refine br_f (fun z => h (eyt.mp z)) (xs_v T ht hy (dt_up24 T hy hyt) ?_)
      by_cases hs : dt_Sub pa (nI t) (nI y)
      · rw [dt_b1 ⟨h, hs⟩] at hp; exact dt_tru hs hp
      · rw [dt_b0 (fun z => hs z.2)] at hp; exact dt_fls hs hp
theorem ysc_v {post : Int32 → Prop} {t sc y : Nat} (T : dt_T0 tk pa na) (ht : t < 24) (htt : tk t ≠ 0) (hy : y < 24) (hyt : tk y ≠ 0) (hsc : sc < 4) (hp : post (dt_b (dt_SC pa t sc y))) : wpY_inScope post (tc, fc, tk, pa, na, cl, al, co, va, tK, tA, tV, pt, oy, wt) (nI y) (nI t) (nI sc) := by
  unfold wpY_inScope; dsimp only
  have eyt : nI y = nI t ↔ y = t := nI_eq (by omega) (by omega)
  have hsub := dt_sub_s (pa := pa) (top := nI t) (j := y) (by omega)
  rcases (show sc = 0 ∨ sc = 1 ∨ sc = 2 ∨ sc = 3 by omega) with rfl | rfl | rfl | rfl
  · refine br_t rfl ?_
    rw [dt_bc dt_SC0] at hp
    by_cases h : y = t
    · rw [dt_b1 h] at hp; exact br_t (eyt.mpr h) hp
    · rw [dt_b0 h] at hp; exact br_f (fun z => h (eyt.mp z)) hp
  · refine br_f (by decide) (br_t rfl ⟨vp_in_nI hy (by decide), ?_⟩)
    rw [nI_clamp (by omega)]
    rw [dt_bc dt_SC1] at hp
    by_cases h : pa y = nI t
    · rw [dt_b1 h] at hp; exact br_t h hp
    · rw [dt_b0 h] at hp; exact br_f h hp
  · rw [dt_bc dt_SC2] at hp
    refine br_f (by decide) (br_f (by decide) (br_t rfl ?_))
    by_cases h : nI y = nI t
    · rw [dt_b1 (hsub.mpr (Or.inl h))] at hp
      exact br_t h hp
    · refine br_f h ?_
      unfold wY_inScope_46
      refine ys_v T ht hy (dt_up24 T hy hyt) ?_
      by_cases hs : dt_Sub pa (nI t) (pa y)
      · rw [dt_b1 (hsub.mpr (Or.inr hs))] at hp; exact dt_tru hs hp
      · rw [dt_b0 (fun z => (hsub.mp z).elim h hs)] at hp; exact dt_fls hs hp
  · rw [dt_bc dt_SC3] at hp
    refine br_f (by decide) (br_f (by decide) (br_f (by decide) ?_))
    unfold wY_inScope_46
    refine ys_v T ht hy (dt_up24 T hy hyt) ?_
    by_cases hs : dt_Sub pa (nI t) (pa y)
    · have h : y ≠ t := fun z => by subst z; exact dt_acy T ht htt hs
      rw [dt_b1 ⟨h, hsub.mpr (Or.inr hs)⟩] at hp
      exact dt_tru hs hp
    · rw [dt_b0 (fun z => by
        rcases hsub.mp z.2 with q | q
        · exact z.1 (eyt.mp q)
        · exact hs q)] at hp
      exact dt_fls hs hp
/-- one top of the stack for every entry -/
theorem t_all {fcn tcn : Nat} (hc : ∀ e, e < 24 → dt_L 4 (cl e)) (V : dt_V tk vc co va) (hK : dt_K tcn fcn tK tA tV tF) (hf1 : 1 ≤ fcn) : ∃ r : Nat → Nat, ∀ e, e < 24 → tk e ≠ 0 → r e < 3 ∧ (∀ post : Int32 → Prop, post (nI (r e)) → wpX_topFor post (ec, nI tcn, fc, tk, pa, na, cl, od, al, vc, va, tK, tA, tV, tF) (nI e)) ∧ (∀ (post : Int32 → SY → Prop) (pt oy wt : Nat → Int32), (∀ pt' : Nat → Int32, post (nI (r e)) (nI tcn, fc, tk, pa, na, cl, al, co, va, tK, tA, tV, pt', oy, wt)) → wpY_truth post (nI tcn, fc, tk, pa, na, cl, al, co, va, tK, tA, tV, pt, oy, wt) (nI e)) := by
  have H : ∀ e : Nat, ∃ r : Nat, (e < 24 → tk e ≠ 0 → r < 3 ∧ (∀ post : Int32 → Prop, post (nI r) → wpX_topFor post (ec, nI tcn, fc, tk, pa, na, cl, od, al, vc, va, tK, tA, tV, tF) (nI e)) ∧ (∀ (post : Int32 → SY → Prop) (pt oy wt : Nat → Int32), (∀ pt' : Nat → Int32, post (nI r) (nI tcn, fc, tk, pa, na, cl, al, co, va, tK, tA, tV, pt', oy, wt)) → wpY_truth post (nI tcn, fc, tk, pa, na, cl, al, co, va, tK, tA, tV, pt, oy, wt) (nI e))) := by
    intro e
    by_cases h : e < 24 ∧ tk e ≠ 0
    · obtain ⟨r, hr⟩ := t_v (ec := ec) (fc := fc) (pa := pa) (na := na) (od := od) (al := al) h.1 h.2 hc V hK hf1
      exact ⟨r, fun _ _ => hr⟩
    · exact ⟨0, fun a b => absurd ⟨a, b⟩ h⟩
  exact ⟨fun e => Classical.choose (H e), fun e => Classical.choose_spec (H e)⟩
theorem dt_at24 (T : dt_T0 tk pa na) {i : Nat} (hi : i < dt_ec tk) : dt_at tk pa na i < 24 ∧ tk (dt_at tk pa na i) ≠ 0 := by
  obtain ⟨R, e, K, hst, _, _, _, he, ht⟩ := dt_st_lt T hi
  rw [dt_at_s hst]
  exact ⟨he, ht⟩
theorem xct_l {post : Int32 → Prop} {t sc : Nat} {r : Nat → Nat} (T : dt_T0 tk pa na) (ht : t < 24) (hsc : sc < 4) (ho : ∀ i, i < dt_ec tk → od i = nI (dt_at tk pa na i)) (hr : ∀ e, e < 24 → tk e ≠ 0 → r e < 3 ∧ (∀ post : Int32 → Prop, post (nI (r e)) → wpX_topFor post (nI (dt_ec tk), tc, fc, tk, pa, na, cl, od, al, vc, va, tK, tA, tV, tF) (nI e))) (hp : post (nI (dt_hits tk pa na (fun y => dt_SC pa t sc y ∧ r y = 1) (dt_ec tk)))) : ∀ d i : Nat, i + d = dt_ec tk → wX_count_19 post (nI t) (nI sc) (nI (dt_ec tk)) tc fc tk pa na cl od al vc va tK tA tV tF (d + 1) (nI (dt_hits tk pa na (fun y => dt_SC pa t sc y ∧ r y = 1) i)) (nI i) := by
  have h24 := dt_ec_le tk
  intro d
  induction d with
  | zero =>
    intro i hi
    have e : i = dt_ec tk := hi
    subst e
    exact br_t (nI_le (Nat.le_refl _) (by omega)) hp
  | succ d ih =>
    intro i hi
    have h1 := ih (i + 1) (by omega)
    obtain ⟨hy, hyt⟩ := dt_at24 T (show i < dt_ec tk by omega)
    obtain ⟨hr3, hrx⟩ := hr _ hy hyt
    have hv : vp_in (nI i) 24 := vp_in_nI (by omega) (by decide)
    rw [wX_count_19]; dsimp only
    rw [nI_clamp (by omega), ho i (by omega)]
    refine br_f (nI_ge (by omega) (by omega)) ⟨hv, xsc_v T ht hy hyt hsc ?_⟩
    rw [dt_hits, dt_cn] at h1
    by_cases hS : dt_SC pa t sc (dt_at tk pa na i)
    · refine dt_tru hS ⟨hv, hrx _ ?_⟩
      by_cases h : r (dt_at tk pa na i) = 1
      · rw [dt_11 (c := dt_SC pa t sc (dt_at tk pa na i) ∧ r (dt_at tk pa na i) = 1) ⟨hS, h⟩] at h1
        exact br_t (by rw [h]; rfl) (nm_r (nI_1 _) (nm_r (nI_1 i) h1))
      · rw [dt_1z (c := dt_SC pa t sc (dt_at tk pa na i) ∧ r (dt_at tk pa na i) = 1) (fun z => h z.2)] at h1
        exact br_f (fun z => h ((nI_eq (b := 1) (by omega) (by decide)).mp z)) (nm_r (nI_1 i) h1)
    · rw [dt_1z (c := dt_SC pa t sc (dt_at tk pa na i) ∧ r (dt_at tk pa na i) = 1) (fun z => hS z.1)] at h1
      exact dt_fls hS (nm_r (nI_1 i) h1)
theorem yct_l {post : Int32 → SY → Prop} {t sc : Nat} {r : Nat → Nat} (T : dt_T0 tk pa na) (ht : t < 24) (htt : tk t ≠ 0) (hsc : sc < 4) (hr : ∀ e, e < 24 → tk e ≠ 0 → r e < 3 ∧ (∀ (post : Int32 → SY → Prop) (pt oy wt : Nat → Int32), (∀ pt' : Nat → Int32, post (nI (r e)) (tc, fc, tk, pa, na, cl, al, co, va, tK, tA, tV, pt', oy, wt)) → wpY_truth post (tc, fc, tk, pa, na, cl, al, co, va, tK, tA, tV, pt, oy, wt) (nI e))) (hp : ∀ pt' : Nat → Int32, post (nI (dt_cn (fun y => tk y ≠ 0 ∧ (dt_SC pa t sc y ∧ r y = 1)) 24)) (tc, fc, tk, pa, na, cl, al, co, va, tK, tA, tV, pt', oy, wt)) : ∀ (d i : Nat) (pt : Nat → Int32), i + d = 24 → wY_count_19 post (nI t) (nI sc) (d + 1) (nI (dt_cn (fun y => tk y ≠ 0 ∧ (dt_SC pa t sc y ∧ r y = 1)) i)) (nI i) tc fc tk pa na cl al co va tK tA tV pt oy wt := by
  intro d
  induction d with
  | zero =>
    intro i pt hi
    have e : i = 24 := hi
    subst e
    exact br_t (nI_le (a := 24) (b := 24) (by omega) (by decide)) (hp pt)
  | succ d ih =>
    intro i pt hi
    have h1 := fun pt => ih (i + 1) pt (by omega)
    rw [dt_cn] at h1
    rw [wY_count_19]; dsimp only
    rw [nI_clamp (by omega)]
    refine br_f (nI_ge (b := 24) (by omega) (by decide)) ⟨vp_in_nI (by omega) (by decide), ?_⟩
    by_cases hyt : tk i = 0
    · rw [dt_1z (c := tk i ≠ 0 ∧ (dt_SC pa t sc i ∧ r i = 1)) (fun z => z.1 hyt)] at h1
      exact br_t hyt (nm_r (nI_1 i) (h1 pt))
    · obtain ⟨hr3, hry⟩ := hr i (by omega) hyt
      refine br_f hyt (ysc_v T ht htt (by omega) hyt hsc ?_)
      by_cases hS : dt_SC pa t sc i
      · refine dt_tru hS (hry _ _ _ _ fun pt' => ?_)
        dsimp only
        by_cases h : r i = 1
        · rw [dt_11 (c := tk i ≠ 0 ∧ (dt_SC pa t sc i ∧ r i = 1)) ⟨hyt, hS, h⟩] at h1
          exact br_t (by rw [h]; rfl) (nm_r (nI_1 _) (nm_r (nI_1 i) (h1 pt')))
        · rw [dt_1z (c := tk i ≠ 0 ∧ (dt_SC pa t sc i ∧ r i = 1)) (fun z => h z.2.2)] at h1
          exact br_f (fun z => h ((nI_eq (b := 1) (by omega) (by decide)).mp z)) (nm_r (nI_1 i) (h1 pt'))
      · rw [dt_1z (c := tk i ≠ 0 ∧ (dt_SC pa t sc i ∧ r i = 1)) (fun z => hS z.2.1)] at h1
        exact dt_fls hS (nm_r (nI_1 i) (h1 pt))
theorem fd_l {t sc : Nat} {r : Nat → Nat} {k : Int32} (T : dt_T0 tk pa na) (ht : t < 24) (htt : tk t ≠ 0) (hsc : sc < 4) (ho : ∀ i, i < dt_ec tk → od i = nI (dt_at tk pa na i)) (hr : ∀ e, e < 24 → tk e ≠ 0 → r e < 3 ∧ (∀ post : Int32 → Prop, post (nI (r e)) → wpX_topFor post (nI (dt_ec tk), tc, fc, tk, pa, na, cl, od, al, vc, va, tK, tA, tV, tF) (nI e)) ∧ (∀ (post : Int32 → SY → Prop) (pt oy wt : Nat → Int32), (∀ pt' : Nat → Int32, post (nI (r e)) (tc, fc, tk, pa, na, cl, al, co, va, tK, tA, tV, pt', oy, wt)) → wpY_truth post (tc, fc, tk, pa, na, cl, al, co, va, tK, tA, tV, pt, oy, wt) (nI e))) : ∀ (d i : Nat) (h : Int32), i + d = dt_ec tk → ∃ res : Int32, (∀ post : Int32 → Prop, post res → wX_found_22 post (nI t) (nI sc) k (nI (dt_ec tk)) tc fc tk pa na cl od al vc va tK tA tV tF (d + 1) h (nI i)) ∧ (∀ (post : Int32 → SY → Prop) (pt oy wt : Nat → Int32), (∀ i, i < dt_ec tk → oy i = nI (dt_at tk pa na i)) → (∀ pt' : Nat → Int32, post res (tc, fc, tk, pa, na, cl, al, co, va, tK, tA, tV, pt', oy, wt)) → wY_found_32 post (nI t) (nI sc) (nI (dt_ec tk)) (d + 1) (k - h) (nI i) tc fc tk pa na cl al co va tK tA tV pt oy wt) := by
  have h24 := dt_ec_le tk
  intro d
  induction d with
  | zero =>
    intro i h hi
    have e : i = dt_ec tk := hi
    subst e
    exact ⟨-4, fun post hp => br_t (nI_le (Nat.le_refl _) (by omega)) hp, fun post pt oy wt _ hp => br_t (nI_le (Nat.le_refl _) (by omega)) (hp pt)⟩
  | succ d ih =>
    intro i h hi
    obtain ⟨hy, hyt⟩ := dt_at24 T (show i < dt_ec tk by omega)
    obtain ⟨hr3, hrx, hry⟩ := hr _ hy hyt
    have hv : vp_in (nI i) 24 := vp_in_nI (by omega) (by decide)
    have hlt : ¬ nI (dt_ec tk) ≤ nI i := nI_ge (by omega) (by omega)
    by_cases hS : dt_SC pa t sc (dt_at tk pa na i)
    · by_cases hh : r (dt_at tk pa na i) = 1
      · have e1 : nI (r (dt_at tk pa na i)) = 1 := by rw [hh]; rfl
        by_cases hk : h = k
        · refine ⟨nI (dt_at tk pa na i), fun post hp => ?_, fun post pt oy wt hoy hp => ?_⟩
          · rw [wX_found_22]; dsimp only
            rw [nI_clamp (by omega), ho i (by omega)]
            exact br_f hlt ⟨hv, xsc_v T ht hy hyt hsc (dt_tru hS ⟨hv, hrx _ (br_t e1 (br_t hk ⟨hv, hp⟩))⟩)⟩
          · rw [wY_found_32]; dsimp only
            rw [nI_clamp (by omega), hoy i (by omega)]
            exact br_f hlt ⟨hv, nm_e (ysc_v T ht htt hy hyt hsc (dt_tru hS (hry _ _ _ _ fun pt' => br_t e1 (br_t (by rw [hk]; exact Int32.sub_self k) (hp pt')))))⟩
        · obtain ⟨res, ix, iy⟩ := ih (i + 1) (h + 1) (by omega)
          refine ⟨res, fun post hp => ?_, fun post pt oy wt hoy hp => ?_⟩
          · rw [wX_found_22]; dsimp only
            rw [nI_clamp (by omega), ho i (by omega)]
            exact br_f hlt ⟨hv, xsc_v T ht hy hyt hsc (dt_tru hS ⟨hv, hrx _ (br_t e1 (br_f hk (nm_e (nm_r (nI_1 i) (ix post hp)))))⟩)⟩
          · rw [wY_found_32]; dsimp only
            rw [nI_clamp (by omega), hoy i (by omega)]
            refine br_f hlt ⟨hv, nm_e (ysc_v T ht htt hy hyt hsc (dt_tru hS (hry _ _ _ _ fun pt' => br_t e1 (br_f (fun z => hk ?_) (nm_r (e' := k - (h + 1)) ?_ (nm_r (nI_1 i) (iy post pt' oy wt hoy hp)))))))⟩
            · grind
            · grind
      · have e1 : ¬ nI (r (dt_at tk pa na i)) = 1 := fun z => hh ((nI_eq (b := 1) (by omega) (by decide)).mp z)
        obtain ⟨res, ix, iy⟩ := ih (i + 1) h (by omega)
        refine ⟨res, fun post hp => ?_, fun post pt oy wt hoy hp => ?_⟩
        · rw [wX_found_22]; dsimp only
          rw [nI_clamp (by omega), ho i (by omega)]
          exact br_f hlt ⟨hv, xsc_v T ht hy hyt hsc (dt_tru hS ⟨hv, hrx _ (br_f e1 (nm_r (nI_1 i) (ix post hp)))⟩)⟩
        · rw [wY_found_32]; dsimp only
          rw [nI_clamp (by omega), hoy i (by omega)]
          exact br_f hlt ⟨hv, nm_e (ysc_v T ht htt hy hyt hsc (dt_tru hS (hry _ _ _ _ fun pt' => br_f e1 (nm_r (nI_1 i) (iy post pt' oy wt hoy hp)))))⟩
    · obtain ⟨res, ix, iy⟩ := ih (i + 1) h (by omega)
      refine ⟨res, fun post hp => ?_, fun post pt oy wt hoy hp => ?_⟩
      · rw [wX_found_22]; dsimp only
        rw [nI_clamp (by omega), ho i (by omega)]
        exact br_f hlt ⟨hv, xsc_v T ht hy hyt hsc (dt_fls hS (nm_r (nI_1 i) (ix post hp)))⟩
      · rw [wY_found_32]; dsimp only
        rw [nI_clamp (by omega), hoy i (by omega)]
        exact br_f hlt ⟨hv, nm_e (ysc_v T ht htt hy hyt hsc (dt_fls hS (nm_r (nI_1 i) (iy post pt oy wt hoy hp))))⟩
/-- the refusals of a search -/
theorem sr_v {fcn : Nat} (hf : fcn ≤ 6) (x y : Int32) : (∃ t sc : Nat, t < 24 ∧ tk t ≠ 0 ∧ sc < 4 ∧ x = nI t ∧ y = nI sc ∧ 1 ≤ fcn ∧ (∀ post : Int32 → Prop, post 0 → wpX_searchRefusal post (ec, tc, nI fcn, tk, pa, na, cl, od, al, vc, va, tK, tA, tV, tF) x y) ∧ (∀ post : Int32 → Prop, post 0 → wpY_look post (tc, nI fcn, tk, pa, na, cl, al, co, va, tK, tA, tV, pt, oy, wt) x y)) ∨ (∃ m : Int32, ¬ m = 0 ∧ ¬ 0 ≤ m ∧ (∀ post : Int32 → Prop, post m → wpX_searchRefusal post (ec, tc, nI fcn, tk, pa, na, cl, od, al, vc, va, tK, tA, tV, tF) x y) ∧ (∀ post : Int32 → Prop, post m → wpY_look post (tc, nI fcn, tk, pa, na, cl, al, co, va, tK, tA, tV, pt, oy, wt) x y)) := by
  unfold wpX_searchRefusal wpY_look; dsimp only
  by_cases hE : dt_E tk x
  · obtain ⟨t, ht, rfl, htt⟩ := hE
    by_cases hS : dt_L 4 y
    · obtain ⟨sc, hsc, rfl⟩ := hS
      have h0 : ¬ nI sc < 0 := nI_pos (by omega)
      have h4 : nI sc < 4 := nI_lt (b := 4) hsc (by decide)
      have h3 : nI sc ≤ 3 := nI_le (b := 3) (by omega) (by decide)
      by_cases hz : fcn = 0
      · have e0 : nI fcn = 0 := by rw [hz]; rfl
        exact Or.inr ⟨-3, by decide, by decide, fun post hp => xe_t ht htt (br_f dt_10 (br_f h0 (br_t h4 (br_t e0 hp)))), fun post hp => ye_t ht htt (br_f dt_10 (br_f h0 (br_t h3 (br_t e0 hp))))⟩
      · have e0 : ¬ nI fcn = 0 := nI_ne0 (by omega) (by omega)
        exact Or.inl ⟨t, sc, ht, htt, hsc, rfl, rfl, by omega, fun post hp => xe_t ht htt (br_f dt_10 (br_f h0 (br_t h4 (br_f e0 hp)))), fun post hp => ye_t ht htt (br_f dt_10 (br_f h0 (br_t h3 (br_f e0 hp))))⟩
    · refine Or.inr ⟨-2, by decide, by decide, fun post hp => xe_t ht htt (br_f dt_10 ?_), fun post hp => ye_t ht htt (br_f dt_10 (yl_f (n := 3) hS (by decide) hp))⟩
      rcases dt_L_f (by decide) hS with h0 | ⟨h1, h0⟩
      · exact br_t h0 hp
      · exact br_f h1 (br_f (Int32.not_lt.mpr h0) hp)
  · exact Or.inr ⟨-1, by decide, by decide, fun post hp => xe_f hE (br_t rfl hp), fun post hp => ye_f hE (br_t rfl hp)⟩
end
theorem i_vc_count {k : Nat} {u : SX} {v : SY} (I : i_Rel k u v) (hk : k + 4 ≤ 2048) (v1 : Int32) (v2 : Int32) : wpX_count (fun r => wpY_count (fun r' v' => r' = r ∧ i_Rel (k + 4) u v') v v1 v2) u v1 v2 := by
  obtain ⟨tcn, fcn, tk, pa, na, cl, od, al, vc, va, tK, tA, tV, tF, co, pt, oy, wt, rfl, rfl, R⟩ := I
  have R0 := R
  obtain ⟨T, C, O, V, K⟩ := R
  have hf6 : fcn ≤ 6 := by obtain ⟨_, _, _, _, h, _⟩ := K; exact h
  unfold wpX_count wpY_count; dsimp only
  rcases sr_v (ec := nI (dt_ec tk)) (tc := nI tcn) (tk := tk) (pa := pa) (na := na) (cl := cl) (od := od) (al := al) (vc := vc) (va := va) (tK := tK) (tA := tA) (tV := tV) (tF := tF) (co := co) (pt := pt) (oy := oy) (wt := wt) hf6 v1 v2 with ⟨t, sc, ht, htt, hsc, rfl, rfl, h1, sx, sy⟩ | ⟨m, hm, hm0, sx, sy⟩
  · obtain ⟨r, hr⟩ := t_all (ec := nI (dt_ec tk)) (fc := nI fcn) (pa := pa) (na := na) (od := od) (al := al) C V K h1
    refine sx _ (br_t rfl ⟨dt_ec tk + 1, xct_l T ht hsc O (fun e he het => ⟨(hr e he het).1, (hr e he het).2.1⟩) ?_ (dt_ec tk) 0 (by omega)⟩)
    refine sy _ (br_t (by decide) ⟨25, yct_l T ht htt hsc (fun e he het => ⟨(hr e he het).1, (hr e he het).2.2⟩) (fun pt' => ⟨?_, rl_mk R0⟩) 24 0 pt rfl⟩)
    rw [dt_hits_all T]
  · exact sx _ (br_f hm (sy _ (br_f hm0 ⟨rfl, rl_mk R0⟩)))
theorem i_vc_found {k : Nat} {u : SX} {v : SY} (I : i_Rel k u v) (hk : k + 4 ≤ 2048) (v1 : Int32) (v2 : Int32) (v3 : Int32) : wpX_found (fun r => wpY_found (fun r' v' => r' = r ∧ i_Rel (k + 4) u v') v v1 v2 v3) u v1 v2 v3 := by
  obtain ⟨tcn, fcn, tk, pa, na, cl, od, al, vc, va, tK, tA, tV, tF, co, pt, oy, wt, rfl, rfl, R⟩ := I
  have R0 := R
  obtain ⟨T, C, O, V, K⟩ := R
  have hf6 : fcn ≤ 6 := by obtain ⟨_, _, _, _, h, _⟩ := K; exact h
  unfold wpX_found wpY_found; dsimp only
  rcases sr_v (ec := nI (dt_ec tk)) (tc := nI tcn) (tk := tk) (pa := pa) (na := na) (cl := cl) (od := od) (al := al) (vc := vc) (va := va) (tK := tK) (tA := tA) (tV := tV) (tF := tF) (co := co) (pt := pt) (oy := oy) (wt := wt) hf6 v1 v2 with ⟨t, sc, ht, htt, hsc, rfl, rfl, h1, sx, sy⟩ | ⟨m, hm, hm0, sx, sy⟩
  · obtain ⟨r, hr⟩ := t_all (ec := nI (dt_ec tk)) (fc := nI fcn) (pa := pa) (na := na) (od := od) (al := al) C V K h1
    obtain ⟨res, ix, iy⟩ := fd_l (tc := nI tcn) (fc := nI fcn) (od := od) (k := v3) T ht htt hsc O hr (dt_ec tk) 0 0 (by omega)
    refine sx _ (br_t rfl ⟨_, ix _ (sy _ (br_t (by decide) (yo_v T fun o' w' ho => ?_)))⟩)
    dsimp only
    refine ye_v ⟨dt_ec tk + 1, ?_⟩
    have := iy (fun r' v' => r' = res ∧ i_Rel (k + 4) (nI (dt_ec tk), nI tcn, nI fcn, tk, pa, na, cl, od, al, vc, va, tK, tA, tV, tF) v') pt o' w' ho (fun pt' => ⟨rfl, rl_mk R0⟩)
    rw [show v3 - 0 = v3 from Int32.sub_zero v3] at this
    exact this
  · exact sx _ (br_f hm (sy _ (br_f hm0 ⟨rfl, rl_mk R0⟩)))
end
section
theorem zz_end : True := trivial
end
