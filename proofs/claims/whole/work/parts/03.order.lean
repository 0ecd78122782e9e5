/-! the tree and its order -/
noncomputable def dt_nm (tk pa na : Nat → Int32) (p m : Int32) : Option Nat := dt_fd (fun e => tk e ≠ 0 ∧ pa e = p ∧ na e = m) 23 1
def dt_T0 (tk pa na : Nat → Int32) : Prop :=
  (tk 0 ≠ 0 ∧ pa 0 = -1) ∧
  (∀ e, 0 < e → e < 24 → tk e ≠ 0 → (∃ p : Nat, p < 24 ∧ tk p ≠ 0 ∧ pa e = nI p) ∧ (∃ m : Nat, m < 10 ∧ na e = nI m)) ∧
  (∀ e e', 0 < e → e < 24 → 0 < e' → e' < 24 → tk e ≠ 0 → tk e' ≠ 0 → pa e = pa e' → na e = na e' → e = e') ∧
  (∀ e, e < 24 → tk e ≠ 0 → ∃ k, dt_Up pa k (nI e))
/-- the children of e with the last d names, the least name first -/
noncomputable def dt_kf (tk pa na : Nat → Int32) (e : Nat) : Nat → List Nat
  | 0 => []
  | d + 1 => match dt_nm tk pa na (nI e) (nI (9 - d)) with
    | none => dt_kf tk pa na e d
    | some c => c :: dt_kf tk pa na e d
theorem dt_kf_n {tk pa na : Nat → Int32} {e d : Nat} (h : dt_nm tk pa na (nI e) (nI (9 - d)) = none) : dt_kf tk pa na e (d + 1) = dt_kf tk pa na e d := by rw [dt_kf, h]
theorem dt_kf_s {tk pa na : Nat → Int32} {e d c : Nat} (h : dt_nm tk pa na (nI e) (nI (9 - d)) = some c) : dt_kf tk pa na e (d + 1) = c :: dt_kf tk pa na e d := by rw [dt_kf, h]
theorem dt_kf_len {tk pa na : Nat → Int32} {e : Nat} : ∀ d d', d ≤ d' → (dt_kf tk pa na e d).length ≤ (dt_kf tk pa na e d').length := by
  intro d d' h
  induction d' with
  | zero => rw [show d = 0 by omega]; exact Nat.le_refl _
  | succ d' ih =>
    by_cases e1 : d = d' + 1
    · rw [e1]; exact Nat.le_refl _
    · have := ih (by omega)
      rcases hc : dt_nm tk pa na (nI e) (nI (9 - d')) with _ | c
      · rw [dt_kf_n hc]; exact this
      · rw [dt_kf_s hc, List.length_cons]; omega
theorem dt_nm_s {tk pa na : Nat → Int32} {p m : Int32} {c : Nat} (h : dt_nm tk pa na p m = some c) : 0 < c ∧ c < 24 ∧ tk c ≠ 0 ∧ pa c = p ∧ na c = m := by
  obtain ⟨a, b, c, d, e⟩ := dt_fds 23 1 h
  exact ⟨by omega, by omega, c, d, e⟩
theorem dt_kf_mem {tk pa na : Nat → Int32} {e : Nat} : ∀ d c, d ≤ 10 → c ∈ dt_kf tk pa na e d → 0 < c ∧ c < 24 ∧ tk c ≠ 0 ∧ pa c = nI e ∧ ∃ m : Nat, 10 - d ≤ m ∧ m < 10 ∧ na c = nI m := by
  intro d
  induction d with
  | zero => intro c _ h; exact nomatch h
  | succ d ih =>
    intro c hd h
    rcases hc : dt_nm tk pa na (nI e) (nI (9 - d)) with _ | x
    · rw [dt_kf_n hc] at h
      obtain ⟨a1, a2, a3, a4, m, m1, m2, m3⟩ := ih c (by omega) h
      exact ⟨a1, a2, a3, a4, m, by omega, m2, m3⟩
    · rw [dt_kf_s hc] at h
      rcases List.mem_cons.mp h with z | z
      · subst z
        obtain ⟨a1, a2, a3, a4, a5⟩ := dt_nm_s hc
        exact ⟨a1, a2, a3, a4, 9 - d, by omega, by omega, a5⟩
      · obtain ⟨a1, a2, a3, a4, m, m1, m2, m3⟩ := ih c (by omega) z
        exact ⟨a1, a2, a3, a4, m, by omega, m2, m3⟩
theorem dt_kf_nd {tk pa na : Nat → Int32} {e : Nat} : ∀ d, d ≤ 10 → (dt_kf tk pa na e d).Nodup := by
  intro d
  induction d with
  | zero => intro _; exact List.nodup_nil
  | succ d ih =>
    intro hd
    rcases hc : dt_nm tk pa na (nI e) (nI (9 - d)) with _ | x
    · rw [dt_kf_n hc]; exact ih (by omega)
    · rw [dt_kf_s hc, List.nodup_cons]
      refine ⟨fun h => ?_, ih (by omega)⟩
      obtain ⟨_, _, _, _, m, m1, m2, m3⟩ := dt_kf_mem d x (by omega) h
      obtain ⟨_, _, _, _, a5⟩ := dt_nm_s hc
      rw [a5, nI_eq (by omega) (by omega)] at m3
      omega
theorem dt_kf_in {tk pa na : Nat → Int32} (T : dt_T0 tk pa na) {e c m : Nat} (h0 : 0 < c) (h1 : c < 24) (h2 : tk c ≠ 0) (h3 : pa c = nI e) (h4 : na c = nI m) (hm : m < 10) : ∀ d, d ≤ 10 → 10 - d ≤ m → c ∈ dt_kf tk pa na e d := by
  intro d
  induction d with
  | zero => intro _ h; omega
  | succ d ih =>
    intro hd hm1
    rcases hc : dt_nm tk pa na (nI e) (nI (9 - d)) with _ | x
    · rw [dt_kf_n hc]
      by_cases z : m = 9 - d
      · subst z
        exact absurd ⟨h2, h3, h4⟩ (dt_fdz 23 1 hc c (by omega) (by omega))
      · exact ih (by omega) (by omega)
    · rw [dt_kf_s hc]
      by_cases z : m = 9 - d
      · subst z
        obtain ⟨a1, a2, a3, a4, a5⟩ := dt_nm_s hc
        rw [T.2.2.1 c x h0 h1 a1 a2 h2 a3 (h3.trans a4.symm) (h4.trans a5.symm)]
        exact List.mem_cons_self ..
      · exact List.mem_cons_of_mem _ (ih (by omega) (by omega))
/-- processed entries (the last first), and those that wait (the next first), after n steps -/
noncomputable def dt_st (tk pa na : Nat → Int32) : Nat → List Nat × List Nat
  | 0 => ([], [0])
  | n + 1 => match dt_st tk pa na n with
    | (R, []) => (R, [])
    | (R, e :: K) => (e :: R, dt_kf tk pa na e 10 ++ K)
theorem dt_st_s {tk pa na : Nat → Int32} {n e : Nat} {R K : List Nat} (h : dt_st tk pa na n = (R, e :: K)) : dt_st tk pa na (n + 1) = (e :: R, dt_kf tk pa na e 10 ++ K) := by rw [dt_st, h]
noncomputable def dt_at (tk pa na : Nat → Int32) (n : Nat) : Nat := (dt_st tk pa na n).2.headD 0
theorem dt_at_s {tk pa na : Nat → Int32} {n e : Nat} {R K : List Nat} (h : dt_st tk pa na n = (R, e :: K)) : dt_at tk pa na n = e := by rw [dt_at, h]; rfl
def dt_good (pa : Nat → Int32) : List Nat → Prop
  | [] => True
  | e :: R => (e = 0 ∨ ∃ p, p ∈ R ∧ pa e = nI p) ∧ dt_good pa R
def dt_Inv (tk pa na : Nat → Int32) (R K : List Nat) : Prop :=
  (R ++ K).Nodup ∧ (∀ x, x ∈ R ++ K → x < 24 ∧ tk x ≠ 0) ∧ dt_good pa R ∧
  (∀ x, x ∈ K → x = 0 ∨ ∃ p, p ∈ R ∧ pa x = nI p) ∧
  (∀ p c, p ∈ R → 0 < c → c < 24 → tk c ≠ 0 → pa c = nI p → c ∈ R ++ K) ∧ 0 ∈ R ++ K
theorem dt_good_p {pa : Nat → Int32} : ∀ {R : List Nat}, dt_good pa R → ∀ x, x ∈ R → x = 0 ∨ ∃ p, p ∈ R ∧ pa x = nI p := by
  intro R
  induction R with
  | nil => intro _ x h; exact nomatch h
  | cons e R ih =>
    intro g x h
    rcases List.mem_cons.mp h with z | z
    · subst z
      rcases g.1 with q | ⟨p, p1, p2⟩
      · exact Or.inl q
      · exact Or.inr ⟨p, List.mem_cons_of_mem _ p1, p2⟩
    · rcases ih g.2 x z with q | ⟨p, p1, p2⟩
      · exact Or.inl q
      · exact Or.inr ⟨p, List.mem_cons_of_mem _ p1, p2⟩
theorem dt_inv_s {tk pa na : Nat → Int32} (T : dt_T0 tk pa na) {e : Nat} {R K : List Nat} (I : dt_Inv tk pa na R (e :: K)) : dt_Inv tk pa na (e :: R) (dt_kf tk pa na e 10 ++ K) := by
  obtain ⟨nd, tkn, gd, up, cl, z0⟩ := I
  have he := tkn e (by simp)
  have heR : e ∉ R := by
    intro h
    rw [List.nodup_append] at nd
    exact nd.2.2 e h e (List.mem_cons_self ..) rfl
  have new : ∀ c, c ∈ dt_kf tk pa na e 10 → c ∉ R ++ e :: K := by
    intro c hc hin
    obtain ⟨a1, a2, a3, a4, _⟩ := dt_kf_mem 10 c (Nat.le_refl _) hc
    have hp : c = 0 ∨ ∃ p, p ∈ R ∧ pa c = nI p := by
      rcases List.mem_append.mp hin with z | z
      · exact dt_good_p gd c z
      · exact up c z
    rcases hp with q | ⟨p, p1, p2⟩
    · omega
    · rw [a4] at p2
      have hp24 := (tkn p (List.mem_append.mpr (Or.inl p1))).1
      rw [nI_eq (by omega) (by omega)] at p2
      rw [p2] at heR
      exact heR p1
  refine ⟨?_, ?_, ⟨?_, gd⟩, ?_, ?_, ?_⟩
  · have kn := dt_kf_nd (tk := tk) (pa := pa) (na := na) (e := e) 10 (Nat.le_refl _)
    rw [List.nodup_append] at nd
    obtain ⟨n1, n2, n3⟩ := nd
    rw [List.nodup_cons] at n2
    rw [List.cons_append, List.nodup_cons, List.nodup_append, List.nodup_append]
    refine ⟨?_, n1, ⟨kn, n2.2, ?_⟩, ?_⟩
    · intro h
      rcases List.mem_append.mp h with z | z
      · exact heR z
      · rcases List.mem_append.mp z with y | y
        · exact new e y (by simp)
        · exact n2.1 y
    · intro a ha b hb hab
      subst hab
      exact new a ha (by simp [hb])
    · intro a ha b hb hab
      subst hab
      rcases List.mem_append.mp hb with y | y
      · exact new a y (by simp [ha])
      · exact n3 a ha a (List.mem_cons_of_mem _ y) rfl
  · intro x hx
    rw [List.cons_append] at hx
    rcases List.mem_cons.mp hx with z | z
    · subst z; exact he
    · rcases List.mem_append.mp z with y | y
      · exact tkn x (by simp [y])
      · rcases List.mem_append.mp y with w | w
        · obtain ⟨a1, a2, a3, _⟩ := dt_kf_mem 10 x (Nat.le_refl _) w
          exact ⟨a2, a3⟩
        · exact tkn x (by simp [w])
  · exact up e (List.mem_cons_self ..)
  · intro x hx
    rcases List.mem_append.mp hx with w | w
    · obtain ⟨a1, a2, a3, a4, _⟩ := dt_kf_mem 10 x (Nat.le_refl _) w
      exact Or.inr ⟨e, List.mem_cons_self .., a4⟩
    · rcases up x (List.mem_cons_of_mem _ w) with q | ⟨p, p1, p2⟩
      · exact Or.inl q
      · exact Or.inr ⟨p, List.mem_cons_of_mem _ p1, p2⟩
  · intro p c hp h0 h1 h2 h3
    rcases List.mem_cons.mp hp with z | z
    · subst z
      obtain ⟨_, m, hm, h4⟩ := T.2.1 c h0 h1 h2
      have := dt_kf_in T h0 h1 h2 h3 h4 hm 10 (Nat.le_refl _) (by omega)
      simp [this]
    · have := cl p c z h0 h1 h2 h3
      rcases List.mem_append.mp this with y | y
      · simp [y]
      · rcases List.mem_cons.mp y with w | w
        · simp [w]
        · simp [w]
  · rcases List.mem_append.mp z0 with y | y
    · simp [y]
    · rcases List.mem_cons.mp y with w | w
      · simp [w]
      · simp [w]
theorem dt_inv_st {tk pa na : Nat → Int32} (T : dt_T0 tk pa na) : ∀ n, dt_Inv tk pa na (dt_st tk pa na n).1 (dt_st tk pa na n).2 := by
  intro n
  induction n with
  | zero =>
    refine ⟨by simp [dt_st], ?_, trivial, ?_, ?_, by simp [dt_st]⟩
    · intro x hx
      simp [dt_st] at hx
      subst hx
      exact ⟨by omega, T.1.1⟩
    · intro x hx
      simp [dt_st] at hx
      exact Or.inl hx
    · intro p c hp
      simp [dt_st] at hp
  | succ n ih =>
    rcases h : dt_st tk pa na n with ⟨R, _ | ⟨e, K⟩⟩
    · rw [h] at ih
      rw [dt_st, h]
      exact ih
    · rw [h] at ih
      rw [dt_st_s h]
      exact dt_inv_s T ih
noncomputable def dt_ec (tk : Nat → Int32) : Nat := dt_cn (fun e => tk e ≠ 0) 24
theorem dt_inv_len {tk pa na : Nat → Int32} {R K : List Nat} (I : dt_Inv tk pa na R K) : R.length + K.length ≤ dt_ec tk := by
  have := dt_len_le (N := 24) (R ++ K) (fun e => tk e ≠ 0) I.1 I.2.1
  rw [List.length_append] at this
  exact this
theorem dt_inv_all {tk pa na : Nat → Int32} (T : dt_T0 tk pa na) {R : List Nat} (I : dt_Inv tk pa na R []) : ∀ k x, x < 24 → tk x ≠ 0 → dt_Up pa k (nI x) → x ∈ R := by
  intro k
  induction k with
  | zero => intro x hx _ h; exact absurd h (dt_m1 (by omega))
  | succ k ih =>
    intro x hx ht hu
    by_cases z : x = 0
    · subst z
      have := I.2.2.2.2.2
      rw [List.append_nil] at this
      exact this
    · obtain ⟨p, hp, hpt, hpe⟩ := (T.2.1 x (by omega) hx ht).1
      obtain ⟨j, hj, ej, hu2⟩ := hu
      rw [nI_eq (by omega) (by omega)] at ej
      subst ej
      rw [hpe] at hu2
      have := I.2.2.2.2.1 p x (ih p hp hpt hu2) (by omega) hx ht hpe
      rw [List.append_nil] at this
      exact this
theorem dt_inv_ge {tk pa na : Nat → Int32} (T : dt_T0 tk pa na) {R : List Nat} (I : dt_Inv tk pa na R []) : dt_ec tk ≤ R.length :=
  dt_len_ge (N := 24) R (fun e => tk e ≠ 0) (fun x hx ht => by
    obtain ⟨k, hk⟩ := T.2.2.2 x hx ht
    exact dt_inv_all T I k x hx ht hk)
theorem dt_st_len {tk pa na : Nat → Int32} (T : dt_T0 tk pa na) : ∀ n, n ≤ dt_ec tk → (dt_st tk pa na n).1.length = n := by
  intro n
  induction n with
  | zero => intro _; rfl
  | succ n ih =>
    intro hn
    have hl := ih (by omega)
    have I := dt_inv_st T n
    rcases h : dt_st tk pa na n with ⟨R, _ | ⟨e, K⟩⟩
    · rw [h] at I hl
      have := dt_inv_ge T I
      have : R.length = n := hl
      omega
    · rw [h] at hl
      rw [dt_st_s h]
      show R.length + 1 = n + 1
      rw [show R.length = n from hl]
theorem dt_st_lt {tk pa na : Nat → Int32} (T : dt_T0 tk pa na) {n : Nat} (hn : n < dt_ec tk) : ∃ R e K, dt_st tk pa na n = (R, e :: K) ∧ R.length = n ∧ n + 1 + K.length ≤ dt_ec tk ∧ n + 1 + (dt_kf tk pa na e 10 ++ K).length ≤ dt_ec tk ∧ e < 24 ∧ tk e ≠ 0 := by
  have hl := dt_st_len T n (by omega)
  have I := dt_inv_st T n
  have I2 := dt_inv_st T (n + 1)
  rcases h : dt_st tk pa na n with ⟨R, _ | ⟨e, K⟩⟩
  · rw [h] at I hl
    have := dt_inv_ge T I
    have : R.length = n := hl
    omega
  · rw [h] at I hl
    rw [dt_st_s h] at I2
    have hl : R.length = n := hl
    have l1 := dt_inv_len I
    have l2 := dt_inv_len I2
    simp only [List.length_cons] at l1 l2
    have := I.2.1 e (by simp)
    exact ⟨R, e, K, rfl, hl, by omega, by omega, this⟩
theorem dt_st_end {tk pa na : Nat → Int32} (T : dt_T0 tk pa na) : ∃ R, dt_st tk pa na (dt_ec tk) = (R, []) ∧ R.length = dt_ec tk ∧ dt_Inv tk pa na R [] := by
  have hl := dt_st_len T (dt_ec tk) (Nat.le_refl _)
  have I := dt_inv_st T (dt_ec tk)
  rcases h : dt_st tk pa na (dt_ec tk) with ⟨R, _ | ⟨e, K⟩⟩
  · rw [h] at I hl
    exact ⟨R, rfl, hl, I⟩
  · rw [h] at I hl
    have l1 := dt_inv_len I
    have hl : R.length = dt_ec tk := hl
    simp only [List.length_cons] at l1
    omega
theorem dt_ec_pos {tk pa na : Nat → Int32} (T : dt_T0 tk pa na) : 0 < dt_ec tk := by
  have := dt_len_le (N := 24) [0] (fun e => tk e ≠ 0) (by simp) (fun x hx => by simp at hx; subst hx; exact ⟨by omega, T.1.1⟩)
  exact this
theorem dt_ec_le (tk : Nat → Int32) : dt_ec tk ≤ 24 := dt_cn_le _ 24
theorem dt_good_up {pa : Nat → Int32} (h0 : pa 0 = -1) : ∀ R : List Nat, dt_good pa R → (∀ x, x ∈ R → x < 24) → ∀ x, x ∈ R → ∃ k, k ≤ R.length ∧ dt_Up pa k (nI x) := by
  intro R
  induction R with
  | nil => intro _ _ x h; exact nomatch h
  | cons e R ih =>
    intro g hb x hx
    have hb2 := fun y hy => hb y (List.mem_cons_of_mem e hy)
    rcases List.mem_cons.mp hx with z | z
    · subst z
      rcases g.1 with q | ⟨p, p1, p2⟩
      · subst q
        exact ⟨1, by simp, 0, by omega, rfl, h0⟩
      · obtain ⟨k, hk, hu⟩ := ih g.2 hb2 p p1
        exact ⟨k + 1, by rw [List.length_cons]; omega, x, hb x (List.mem_cons_self ..), rfl, by rw [p2]; exact hu⟩
    · obtain ⟨k, hk, hu⟩ := ih g.2 hb2 x z
      exact ⟨k, by rw [List.length_cons]; omega, hu⟩
theorem dt_up24 {tk pa na : Nat → Int32} (T : dt_T0 tk pa na) {x : Nat} (hx : x < 24) (ht : tk x ≠ 0) : ∃ k, k ≤ 24 ∧ dt_Up pa k (nI x) := by
  obtain ⟨R, hR, hl, I⟩ := dt_st_end T
  obtain ⟨k0, hk0⟩ := T.2.2.2 x hx ht
  obtain ⟨k, hk, hu⟩ := dt_good_up T.1.2 R I.2.2.1 (fun y hy => (I.2.1 y (by simp [hy])).1) x (dt_inv_all T I k0 x hx ht hk0)
  have := dt_ec_le tk
  exact ⟨k, by omega, hu⟩
/-- how many of the first n entries of the order -/
noncomputable def dt_hits (tk pa na : Nat → Int32) (Q : Nat → Prop) (n : Nat) : Nat := dt_cn (fun i => Q (dt_at tk pa na i)) n
noncomputable def dt_lc (Q : Nat → Prop) : List Nat → Nat
  | [] => 0
  | e :: R => dt_lc Q R + dt_1 (Q e)
theorem dt_hits_l {tk pa na : Nat → Int32} (T : dt_T0 tk pa na) (Q : Nat → Prop) : ∀ n, n ≤ dt_ec tk → dt_hits tk pa na Q n = dt_lc Q (dt_st tk pa na n).1 := by
  intro n
  induction n with
  | zero => intro _; rfl
  | succ n ih =>
    intro hn
    obtain ⟨R, e, K, h, _⟩ := dt_st_lt T (show n < dt_ec tk by omega)
    have := ih (by omega)
    rw [h] at this
    rw [dt_st_s h]
    show dt_hits tk pa na Q n + dt_1 (Q (dt_at tk pa na n)) = dt_lc Q R + dt_1 (Q e)
    rw [this, dt_at_s h]
theorem dt_lc_cn {N : Nat} (Q : Nat → Prop) : ∀ (l : List Nat) (P : Nat → Prop), l.Nodup → (∀ x, x ∈ l ↔ (x < N ∧ P x)) → dt_lc Q l = dt_cn (fun x => P x ∧ Q x) N := by
  intro l
  induction l with
  | nil => intro P _ h; exact (dt_cn0 N (fun i hi z => nomatch (h i).mpr ⟨hi, z.1⟩)).symm
  | cons x t ih =>
    intro P hn h
    rw [List.nodup_cons] at hn
    have hx := (h x).mp (List.mem_cons_self ..)
    have := ih (fun y => P y ∧ y ≠ x) hn.2 (fun y => ⟨fun hy => ⟨((h y).mp (List.mem_cons_of_mem _ hy)).1, ((h y).mp (List.mem_cons_of_mem _ hy)).2, fun z => hn.1 (z ▸ hy)⟩, fun hy => by
      rcases List.mem_cons.mp ((h y).mpr ⟨hy.1, hy.2.1⟩) with z | z
      · exact absurd z hy.2.2
      · exact z⟩)
    rw [dt_lc, this]
    by_cases q : Q x
    · rw [dt_11 q, dt_cn_rm (P := fun x => P x ∧ Q x) (x := x) ⟨hx.2, q⟩ N hx.1]
      rw [dt_cnc (Q := fun y => (P y ∧ Q y) ∧ y ≠ x) N (fun i hi => ⟨fun z => ⟨⟨z.1.1, z.2⟩, z.1.2⟩, fun z => ⟨⟨z.1.1, z.2⟩, z.1.2⟩⟩)]
    · rw [dt_1z q]
      exact dt_cnc N (fun i hi => ⟨fun z => ⟨z.1.1, z.2⟩, fun z => ⟨⟨z.1, fun w => q (w ▸ z.2)⟩, z.2⟩⟩)
theorem dt_hits_all {tk pa na : Nat → Int32} (T : dt_T0 tk pa na) (Q : Nat → Prop) : dt_hits tk pa na Q (dt_ec tk) = dt_cn (fun x => tk x ≠ 0 ∧ Q x) 24 := by
  rw [dt_hits_l T Q _ (Nat.le_refl _)]
  obtain ⟨R, hR, hl, I⟩ := dt_st_end T
  rw [hR]
  refine dt_lc_cn Q R (fun x => tk x ≠ 0) (by have := I.1; rw [List.append_nil] at this; exact this) (fun x => ⟨fun hx => I.2.1 x (by simp [hx]), fun hx => ?_⟩)
  obtain ⟨k0, hk0⟩ := T.2.2.2 x hx.1 hx.2
  exact dt_inv_all T I k0 x hx.1 hx.2 hk0
