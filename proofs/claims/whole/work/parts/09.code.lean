def rf_ld (P : Nat → Nat → Nat) (d R : Nat) : Nat := rf_sm (fun x => P x d) R 6
def rf_ds (P : Nat → Nat → Nat) : Nat → Nat → Nat → Nat
  | 0, _, _ => 0
  | j + 1, S, c => rf_ld P (rf_nt S (c / rf_fc j)) (rf_rm S (rf_nt S (c / rf_fc j))) + rf_ds P j (rf_rm S (rf_nt S (c / rf_fc j))) (c % rf_fc j)
def rf_od : Nat → Nat → Nat → Nat → Nat
  | 0, _, _, _ => 0
  | j + 1, S, c, k => if k = 0 then rf_nt S (c / rf_fc j) else rf_od j (rf_rm S (rf_nt S (c / rf_fc j))) (c % rf_fc j) (k - 1)
def rf_vl (T : Nat → Nat → Bool) : Nat → Nat → Nat → Prop
  | 0, _, _ => True
  | j + 1, S, c => T (rf_nt S (c / rf_fc j)) S = false ∧ rf_vl T j (rf_rm S (rf_nt S (c / rf_fc j))) (c % rf_fc j)
def rf_mn (P : Nat → Nat → Nat) (T : Nat → Nat → Bool) (t : Nat → Nat) (S : Nat) : Nat → Nat
  | 0 => 1000
  | d + 1 => if S.testBit d = true ∧ T d S = false then min (rf_mn P T t S d) (t (rf_rm S d) + rf_ld P d (rf_rm S d)) else rf_mn P T t S d
def rf_tb (P : Nat → Nat → Nat) (n : Nat) (T : Nat → Nat → Bool) (t : Nat → Nat) : Prop := t 0 = 0 ∧ ∀ S, 1 ≤ S → S < 2 ^ n → t S = rf_mn P T t S n
def rf_tr : Nat → Nat
  | 0 => 0
  | j + 1 => rf_tr j + j
theorem rf_tr6 : ∀ j, j < 7 → 45 * rf_tr j ≤ 675 := by decide
theorem rf_mnle {P : Nat → Nat → Nat} {T : Nat → Nat → Bool} {t : Nat → Nat} {S d : Nat} (h1 : S.testBit d = true) (h2 : T d S = false) : ∀ x, d < x → rf_mn P T t S x ≤ t (rf_rm S d) + rf_ld P d (rf_rm S d) := by
  intro x
  induction x with
  | zero => intro h; omega
  | succ x ih =>
    intro h
    unfold rf_mn
    by_cases e : d = x
    · subst e
      rw [if_pos ⟨h1, h2⟩]
      exact Nat.min_le_right _ _
    · have i := ih (by omega)
      split
      · exact Nat.le_trans (Nat.min_le_left _ _) i
      · exact i
theorem rf_mnex {P : Nat → Nat → Nat} {T : Nat → Nat → Bool} {t : Nat → Nat} {S : Nat} : ∀ x, rf_mn P T t S x ≤ 1000 ∧ (rf_mn P T t S x = 1000 ∨ ∃ d, d < x ∧ S.testBit d = true ∧ T d S = false ∧ rf_mn P T t S x = t (rf_rm S d) + rf_ld P d (rf_rm S d)) := by
  intro x
  induction x with
  | zero => exact ⟨Nat.le_refl _, Or.inl rfl⟩
  | succ x ih =>
    obtain ⟨i1, i2⟩ := ih
    have i3 : rf_mn P T t S x = 1000 ∨ ∃ d, d < x + 1 ∧ S.testBit d = true ∧ T d S = false ∧ rf_mn P T t S x = t (rf_rm S d) + rf_ld P d (rf_rm S d) := by
      rcases i2 with i2 | ⟨d, hd, i2⟩
      · exact Or.inl i2
      · exact Or.inr ⟨d, by omega, i2⟩
    unfold rf_mn
    by_cases e : S.testBit x = true ∧ T x S = false
    · rw [if_pos e]
      by_cases z : rf_mn P T t S x ≤ t (rf_rm S x) + rf_ld P x (rf_rm S x)
      · rw [Nat.min_eq_left z]
        exact ⟨i1, i3⟩
      · rw [Nat.min_eq_right (by omega)]
        exact ⟨by omega, Or.inr ⟨x, by omega, e.1, e.2, rfl⟩⟩
    · rw [if_neg e]
      exact ⟨i1, i3⟩
theorem rf_cd {s c f : Nat} (h : c < f) : (s * f + c) / f = s ∧ (s * f + c) % f = c := by
  rw [Nat.mul_comm s f, Nat.mul_add_div (by omega), Nat.div_eq_of_lt h, Nat.mul_add_mod, Nat.mod_eq_of_lt h]
  exact ⟨Nat.add_zero s, rfl⟩
theorem rf_cl {s c f j : Nat} (h : c < f) (hs : s < j) : s * f + c < j * f := by
  have : (s + 1) * f ≤ j * f := Nat.mul_le_mul_right f (by omega)
  rw [Nat.add_mul] at this
  omega
theorem rf_fp (j : Nat) : 1 ≤ rf_fc j := by
  induction j with
  | zero => exact Nat.le_refl 1
  | succ j ih =>
    show 1 ≤ (j + 1) * rf_fc j
    exact Nat.le_trans ih (Nat.le_mul_of_pos_left _ (by omega))
/-- what the first step of a code gives -/
theorem rf_st {n j S c : Nat} (n6 : n ≤ 6) (hS : S < 2 ^ n) (hj : rf_sz S = j + 1) (hc : c < rf_fc (j + 1)) : c / rf_fc j < j + 1 ∧ c % rf_fc j < rf_fc j ∧ rf_nt S (c / rf_fc j) < n ∧ S.testBit (rf_nt S (c / rf_fc j)) = true ∧ rf_rm S (rf_nt S (c / rf_fc j)) < 2 ^ n ∧ rf_sz (rf_rm S (rf_nt S (c / rf_fc j))) = j := by
  have p := (rf_p2 n (by omega)).1
  have f1 := rf_fp j
  have s6 := (rf_t9 S (by omega)).1
  have h1 : c / rf_fc j < j + 1 := by
    have hc' : c < (j + 1) * rf_fc j := hc
    exact Nat.div_lt_of_lt_mul (by rw [Nat.mul_comm]; exact hc')
  have h3 := rf_t1 S (by omega) (c / rf_fc j) (by omega) (by omega)
  have h4 := rf_t4 S (by omega) _ h3.1 h3.2
  exact ⟨h1, Nat.mod_lt _ f1, rf_bl hS h3.2, h3.2, by omega, by omega⟩
theorem rf_s0 {n S : Nat} (n6 : n ≤ 6) (hS : S < 2 ^ n) (h : rf_sz S = 0) : S = 0 := by
  have p := (rf_p2 n (by omega)).1
  exact (rf_t9 S (by omega)).2 h
theorem rf_s1' {n S j : Nat} (h : rf_sz S = j + 1) : 1 ≤ S := by
  apply Classical.byContradiction
  intro z
  have e : S = 0 := by omega
  rw [e, show rf_sz 0 = 0 from rfl] at h
  omega
theorem rf_ldb {P : Nat → Nat → Nat} (P45 : ∀ a b, P a b ≤ 45) (d R : Nat) : rf_ld P d R ≤ 45 * rf_sz R :=
  rf_smle (fun x => P x d) R 45 (fun x => P45 x d) 6
theorem rf_A {P : Nat → Nat → Nat} {n : Nat} {T : Nat → Nat → Bool} {t : Nat → Nat} (n6 : n ≤ 6) (P45 : ∀ a b, P a b ≤ 45) (tb : rf_tb P n T t) (hE : ∀ S, 1 ≤ S → S < 2 ^ n → ∃ d, d < n ∧ S.testBit d = true ∧ T d S = false) : ∀ j S, S < 2 ^ n → rf_sz S = j → (∀ c, c < rf_fc j → rf_vl T j S c → t S ≤ rf_ds P j S c) ∧ (∃ c, c < rf_fc j ∧ rf_vl T j S c ∧ rf_ds P j S c = t S) ∧ t S ≤ 45 * rf_tr j := by
  have p := (rf_p2 n (by omega)).1
  intro j
  induction j with
  | zero =>
    intro S hS hj
    have e := rf_s0 n6 hS hj
    rw [e, tb.1]
    exact ⟨fun c _ _ => Nat.zero_le _, ⟨0, by decide, trivial, rfl⟩, Nat.zero_le _⟩
  | succ j ih =>
    intro S hS hj
    have S1 := rf_s1' (n := n) hj
    have s6 := (rf_t9 S (by omega)).1
    have tS := tb.2 S S1 hS
    have sub : ∀ d, S.testBit d = true → rf_rm S d < 2 ^ n ∧ rf_sz (rf_rm S d) = j := by
      intro d hd
      have hn := rf_bl hS hd
      have h4 := rf_t4 S (by omega) d (by omega) hd
      omega
    have bnd : ∀ d, S.testBit d = true → t (rf_rm S d) + rf_ld P d (rf_rm S d) ≤ 45 * rf_tr (j + 1) := by
      intro d hd
      have s := sub d hd
      have b1 := (ih _ s.1 s.2).2.2
      have b2 := rf_ldb P45 d (rf_rm S d)
      rw [s.2] at b2
      show _ ≤ 45 * (rf_tr j + j)
      omega
    have up : t S ≤ 45 * rf_tr (j + 1) := by
      obtain ⟨d, hd, h1, h2⟩ := hE S S1 hS
      have b1 := bnd d h1
      have b2 := rf_mnle (P := P) (t := t) h1 h2 n hd
      omega
    refine ⟨fun c hc hv => ?_, ?_, up⟩
    · obtain ⟨x1, x2, x3, x4, x5, x6⟩ := rf_st n6 hS hj hc
      obtain ⟨v1, v2⟩ := hv
      have i1 := (ih _ x5 x6).1 _ x2 v2
      have b2 := rf_mnle (P := P) (t := t) x4 v1 n x3
      show _ ≤ _ + _
      omega
    · have tr := rf_tr6 (j + 1) (by omega)
      rcases (rf_mnex (P := P) (T := T) (t := t) (S := S) n).2 with h | ⟨d, hd, h1, h2, h3⟩
      · omega
      · have s := sub d h1
        obtain ⟨c, c1, c2, c3⟩ := (ih _ s.1 s.2).2.1
        obtain ⟨t1, t2⟩ := rf_t2 S (by omega) d (by omega) h1
        obtain ⟨e1, e2⟩ := rf_cd (s := rf_sz (S % 2 ^ d)) c1
        refine ⟨rf_sz (S % 2 ^ d) * rf_fc j + c, rf_cl c1 (by omega), ?_, ?_⟩
        · unfold rf_vl
          rw [e1, e2, t2]
          exact ⟨h2, c2⟩
        · unfold rf_ds
          rw [e1, e2, t2, c3]
          omega
theorem rf_vt : ∀ j S c, rf_vl (fun _ _ => false) j S c := by
  intro j
  induction j with
  | zero => intro S c; trivial
  | succ j ih => intro S c; exact ⟨rfl, ih _ _⟩
def rf_fs (P : Nat → Nat → Nat) (t : Nat → Nat) (j S c : Nat) : Prop := c < rf_fc j ∧ rf_ds P j S c = t S ∧ ∀ c', c' < c → rf_ds P j S c' ≠ t S
theorem rf_B {P : Nat → Nat → Nat} {n : Nat} {t : Nat → Nat} (n6 : n ≤ 6) (P45 : ∀ a b, P a b ≤ 45) (tb : rf_tb P n (fun _ _ => false) t) (hE : ∀ S, 1 ≤ S → S < 2 ^ n → ∃ d, d < n ∧ S.testBit d = true ∧ false = false) {j S c : Nat} (hS : S < 2 ^ n) (hj : rf_sz S = j + 1) (h : rf_fs P t (j + 1) S c) : (t (rf_rm S (rf_nt S (c / rf_fc j))) + rf_ld P (rf_nt S (c / rf_fc j)) (rf_rm S (rf_nt S (c / rf_fc j))) = t S ∧ ∀ d', d' < rf_nt S (c / rf_fc j) → S.testBit d' = true → t (rf_rm S d') + rf_ld P d' (rf_rm S d') ≠ t S) ∧ rf_fs P t j (rf_rm S (rf_nt S (c / rf_fc j))) (c % rf_fc j) := by
  obtain ⟨hc, hd, hf⟩ := h
  have p := (rf_p2 n (by omega)).1
  have s6 := (rf_t9 S (by omega)).1
  obtain ⟨x1, x2, x3, x4, x5, x6⟩ := rf_st n6 hS hj hc
  have A := rf_A n6 P45 tb hE
  have a1 := (A j _ x5 x6).1 _ x2 (rf_vt _ _ _)
  have tS := tb.2 S (rf_s1' (n := n) hj) hS
  have b2 := rf_mnle (P := P) (T := fun _ _ => false) (t := t) x4 rfl n x3
  have e : rf_ds P (j + 1) S c = rf_ld P (rf_nt S (c / rf_fc j)) (rf_rm S (rf_nt S (c / rf_fc j))) + rf_ds P j (rf_rm S (rf_nt S (c / rf_fc j))) (c % rf_fc j) := rfl
  have dm := Nat.div_add_mod' c (rf_fc j)
  refine ⟨⟨by omega, fun d' hd' hb z => ?_⟩, x2, by omega, fun c' hc' z => ?_⟩
  · have d6 : d' < 6 := by omega
    have h4 := rf_t4 S (by omega) d' d6 hb
    obtain ⟨c2, k1, k2, k3⟩ := (A j (rf_rm S d') (by omega) (by omega)).2.1
    obtain ⟨t1, t2⟩ := rf_t2 S (by omega) d' d6 hb
    have t3 := rf_t3 S (by omega) (c / rf_fc j) (by omega) (by omega) d' hd' hb
    obtain ⟨e1, e2⟩ := rf_cd (s := rf_sz (S % 2 ^ d')) k1
    have lt := rf_cl k1 t3
    refine hf (rf_sz (S % 2 ^ d') * rf_fc j + c2) (by omega) ?_
    unfold rf_ds
    rw [e1, e2, t2, k3]
    omega
  · obtain ⟨e1, e2⟩ := rf_cd (s := c / rf_fc j) (c := c') (f := rf_fc j) (by omega)
    refine hf (c / rf_fc j * rf_fc j + c') (by omega) ?_
    unfold rf_ds
    rw [e1, e2]
    omega
theorem rf_oz (j S c : Nat) : rf_od (j + 1) S c 0 = rf_nt S (c / rf_fc j) := by
  unfold rf_od
  rw [if_pos rfl]
theorem rf_os (j S c k : Nat) : rf_od (j + 1) S c (k + 1) = rf_od j (rf_rm S (rf_nt S (c / rf_fc j))) (c % rf_fc j) k := by
  rw [rf_od, if_neg (by omega), Nat.add_sub_cancel]
theorem rf_o1 {n : Nat} (n6 : n ≤ 6) : ∀ j S c, S < 2 ^ n → rf_sz S = j → c < rf_fc j → ∀ k, k < j → rf_od j S c k < n ∧ S.testBit (rf_od j S c k) = true := by
  intro j
  have p := (rf_p2 n (by omega)).1
  induction j with
  | zero => intro S c _ _ _ k hk; omega
  | succ j ih =>
    intro S c hS hj hc k hk
    obtain ⟨x1, x2, x3, x4, x5, x6⟩ := rf_st n6 hS hj hc
    cases k with
    | zero => rw [rf_oz]; exact ⟨x3, x4⟩
    | succ k =>
      rw [rf_os]
      have i := ih _ _ x5 x6 x2 k (by omega)
      exact ⟨i.1, ((rf_t5 S (by omega) _ (by omega) _ (by omega)).mp i.2).1⟩
theorem rf_o2 {n : Nat} (n6 : n ≤ 6) : ∀ j S c, S < 2 ^ n → rf_sz S = j → c < rf_fc j → ∀ k i, k < j → i < k → rf_od j S c k ≠ rf_od j S c i := by
  intro j
  have p := (rf_p2 n (by omega)).1
  induction j with
  | zero => intro S c _ _ _ k i hk; omega
  | succ j ih =>
    intro S c hS hj hc k i hk hi
    obtain ⟨x1, x2, x3, x4, x5, x6⟩ := rf_st n6 hS hj hc
    obtain ⟨k, rfl⟩ : ∃ k', k = k' + 1 := ⟨k - 1, by omega⟩
    rw [rf_os]
    cases i with
    | zero =>
      rw [rf_oz]
      have i := rf_o1 n6 j _ _ x5 x6 x2 k (by omega)
      exact ((rf_t5 S (by omega) _ (by omega) _ (by omega)).mp i.2).2
    | succ i =>
      rw [rf_os]
      exact ih _ _ x5 x6 x2 k i (by omega) (by omega)
def rf_s1 (h : Nat → Nat) : Nat → Nat
  | 0 => 0
  | k + 1 => rf_s1 h k + h k
theorem rf_s1s (h : Nat → Nat) : ∀ j, rf_s1 h (j + 1) = h 0 + rf_s1 (fun k => h (k + 1)) j := by
  intro j
  induction j with
  | zero => show 0 + h 0 = h 0 + 0; omega
  | succ j ih =>
    show rf_s1 h (j + 1) + h (j + 1) = h 0 + (rf_s1 (fun k => h (k + 1)) j + h (j + 1))
    omega
theorem rf_s1a (h h' : Nat → Nat) : ∀ j, rf_s1 (fun k => h k + h' k) j = rf_s1 h j + rf_s1 h' j := by
  intro j
  induction j with
  | zero => rfl
  | succ j ih =>
    show rf_s1 (fun k => h k + h' k) j + (h j + h' j) = rf_s1 h j + h j + (rf_s1 h' j + h' j)
    omega
theorem rf_s1c {h h' : Nat → Nat} : ∀ j, (∀ k, k < j → h k = h' k) → rf_s1 h j = rf_s1 h' j := by
  intro j
  induction j with
  | zero => intro _; rfl
  | succ j ih =>
    intro e
    show rf_s1 h j + h j = rf_s1 h' j + h' j
    rw [ih (fun k hk => e k (by omega)), e j (by omega)]
theorem rf_o3 {n : Nat} (n6 : n ≤ 6) (f : Nat → Nat) : ∀ j S c, S < 2 ^ n → rf_sz S = j → c < rf_fc j → rf_s1 (fun k => f (rf_od j S c k)) j = rf_sm f S 6 := by
  intro j
  have p := (rf_p2 n (by omega)).1
  induction j with
  | zero =>
    intro S c hS hj hc
    rw [rf_s0 n6 hS hj]
    rfl
  | succ j ih =>
    intro S c hS hj hc
    obtain ⟨x1, x2, x3, x4, x5, x6⟩ := rf_st n6 hS hj hc
    rw [rf_s1s, rf_oz, rf_smrm f (S := S) (by omega) (by omega) x4 6 (by omega), if_pos (by omega), ← ih _ _ x5 x6 x2, Nat.add_comm]
    congr 1
def rf_dd (G : Nat → Nat → Nat) (j : Nat) : Nat := rf_s1 (fun k => rf_s1 (fun i => G k i) k) j
theorem rf_dds (G : Nat → Nat → Nat) (j : Nat) : rf_dd G (j + 1) = rf_s1 (fun k => G (k + 1) 0) j + rf_dd (fun k i => G (k + 1) (i + 1)) j := by
  unfold rf_dd
  rw [rf_s1s, ← rf_s1a]
  show 0 + _ = _
  rw [Nat.zero_add]
  exact rf_s1c _ (fun k hk => rf_s1s _ _)
theorem rf_o4 {n : Nat} (n6 : n ≤ 6) (P : Nat → Nat → Nat) : ∀ j S c, S < 2 ^ n → rf_sz S = j → c < rf_fc j → rf_dd (fun k i => P (rf_od j S c k) (rf_od j S c i)) j = rf_ds P j S c := by
  intro j
  induction j with
  | zero => intro S c _ _ _; rfl
  | succ j ih =>
    intro S c hS hj hc
    obtain ⟨x1, x2, x3, x4, x5, x6⟩ := rf_st n6 hS hj hc
    rw [rf_dds, rf_oz]
    show _ = rf_ld P _ _ + rf_ds P j _ _
    rw [← ih _ _ x5 x6 x2]
    congr 1
    · unfold rf_ld
      rw [← rf_o3 n6 (fun x => P x (rf_nt S (c / rf_fc j))) j _ _ x5 x6 x2]
      exact rf_s1c _ (fun k hk => by rw [rf_os])
theorem rf_o5 {n : Nat} (n6 : n ≤ 6) {a b : Nat} (ha : a < n) : ∀ j S c, S < 2 ^ n → rf_sz S = j → c < rf_fc j → ¬ S.testBit a = true → rf_vl (fun d S => decide (d = b) && S.testBit a) j S c := by
  intro j
  have p := (rf_p2 n (by omega)).1
  induction j with
  | zero => intro S c _ _ _ _; trivial
  | succ j ih =>
    intro S c hS hj hc h
    obtain ⟨x1, x2, x3, x4, x5, x6⟩ := rf_st n6 hS hj hc
    refine ⟨?_, ih _ _ x5 x6 x2 (fun z => h ((rf_t5 S (by omega) _ (by omega) a (by omega)).mp z).1)⟩
    dsimp only
    cases hh : S.testBit a
    · exact Bool.and_false _
    · exact absurd hh h
theorem rf_o6 {n : Nat} (n6 : n ≤ 6) {a : Nat} : ∀ j S c, S < 2 ^ n → rf_sz S = j → c < rf_fc j → S.testBit a = true → ∃ k, k < j ∧ rf_od j S c k = a := by
  intro j
  have p := (rf_p2 n (by omega)).1
  induction j with
  | zero =>
    intro S c hS hj _ h
    rw [rf_s0 n6 hS hj, Nat.zero_testBit] at h
    exact absurd h (by decide)
  | succ j ih =>
    intro S c hS hj hc h
    have an := rf_bl hS h
    obtain ⟨x1, x2, x3, x4, x5, x6⟩ := rf_st n6 hS hj hc
    by_cases e : a = rf_nt S (c / rf_fc j)
    · exact ⟨0, by omega, by rw [rf_oz, e]⟩
    · obtain ⟨k, hk, h2⟩ := ih _ _ x5 x6 x2 ((rf_t5 S (by omega) _ (by omega) a (by omega)).mpr ⟨h, e⟩)
      exact ⟨k + 1, by omega, by rw [rf_os, h2]⟩
theorem rf_o7 {n : Nat} (n6 : n ≤ 6) {a b : Nat} (hab : a ≠ b) : ∀ j S c, S < 2 ^ n → rf_sz S = j → c < rf_fc j → S.testBit a = true → S.testBit b = true → ∃ ka kb, ka < j ∧ kb < j ∧ rf_od j S c ka = a ∧ rf_od j S c kb = b ∧ (rf_vl (fun d S => decide (d = b) && S.testBit a) j S c ↔ ka < kb) := by
  intro j
  have p := (rf_p2 n (by omega)).1
  induction j with
  | zero =>
    intro S c hS hj _ h
    rw [rf_s0 n6 hS hj, Nat.zero_testBit] at h
    exact absurd h (by decide)
  | succ j ih =>
    intro S c hS hj hc h1 h2
    have an := rf_bl hS h1
    have bn := rf_bl hS h2
    obtain ⟨x1, x2, x3, x4, x5, x6⟩ := rf_st n6 hS hj hc
    by_cases e : a = rf_nt S (c / rf_fc j)
    · obtain ⟨k, hk, h3⟩ := rf_o6 n6 j _ _ x5 x6 x2 ((rf_t5 S (by omega) _ (by omega) b (by omega)).mpr ⟨h2, fun z => hab (e.trans z.symm)⟩)
      refine ⟨0, k + 1, by omega, by omega, by rw [rf_oz, e], by rw [rf_os, h3], ⟨fun _ => by omega, fun _ => ⟨?_, ?_⟩⟩⟩
      · dsimp only
        rw [decide_eq_false (fun z => hab (e.trans z))]
        exact Bool.false_and _
      · exact rf_o5 n6 an j _ _ x5 x6 x2 (fun z => ((rf_t5 S (by omega) _ (by omega) a (by omega)).mp z).2 e)
    · by_cases f : b = rf_nt S (c / rf_fc j)
      · obtain ⟨k, hk, h3⟩ := rf_o6 n6 j _ _ x5 x6 x2 ((rf_t5 S (by omega) _ (by omega) a (by omega)).mpr ⟨h1, e⟩)
        refine ⟨k + 1, 0, by omega, by omega, by rw [rf_os, h3], by rw [rf_oz, f], ⟨fun v => ?_, fun z => by omega⟩⟩
        have v1 := v.1
        dsimp only at v1
        rw [decide_eq_true f.symm, h1] at v1
        exact absurd v1 (by decide)
      · obtain ⟨ka, kb, k1, k2, k3, k4, k5⟩ := ih _ _ x5 x6 x2 ((rf_t5 S (by omega) _ (by omega) a (by omega)).mpr ⟨h1, e⟩) ((rf_t5 S (by omega) _ (by omega) b (by omega)).mpr ⟨h2, f⟩)
        refine ⟨ka + 1, kb + 1, by omega, by omega, by rw [rf_os, k3], by rw [rf_os, k4], ⟨fun v => ?_, fun z => ⟨?_, k5.mpr (by omega)⟩⟩⟩
        · have := k5.mp v.2
          omega
        · dsimp only
          rw [decide_eq_false (fun z => f z.symm)]
          exact Bool.false_and _
