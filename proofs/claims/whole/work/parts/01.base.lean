theorem pk_us {f : Nat → Int32} {k : Nat} {x : Int32} : upd f k x k = x := if_pos rfl
theorem pk_un {f : Nat → Int32} {k j : Nat} {x : Int32} (h : j ≠ k) : upd f k x j = f j := if_neg h
theorem pk_sub {a b : Nat} (h : b ≤ a) : nI a - nI b = nI (a - b) := by
  obtain ⟨c, rfl⟩ : ∃ c, a = c + b := ⟨a - b, by omega⟩
  rw [← nI_add, Int32.add_sub_cancel, Nat.add_sub_cancel]
theorem pk_m1 (n : Nat) : nI (n + 1) + (-1) = nI n := by
  rw [← nI_1, Int32.add_assoc, show (1 : Int32) + (-1) = 0 from rfl, Int32.add_zero]
theorem pk_mul (a b : Nat) : nI a * nI b = nI (a * b) := (Int32.ofNat_mul a b).symm
theorem pk_div {a d : Nat} (ha : a < 2 ^ 31) (h0 : 0 < d) (hd : d < 2 ^ 31) : nI a / nI d = nI (a / d) := by
  apply Int32.toInt_inj.mp
  rw [lg_idiv_nonneg (by rw [nI_toInt ha]; omega) (by rw [nI_toInt hd]; omega), nI_toInt ha, nI_toInt hd, nI_toInt (Nat.lt_of_le_of_lt (Nat.div_le_self a d) ha)]
  first | rfl | exact (Int.natCast_ediv _ _).symm
theorem pk_rem {a d : Nat} (ha : a < 2 ^ 31) (h0 : 0 < d) (hd : d < 2 ^ 31) : nI a - nI a / nI d * nI d = nI (a % d) := by
  rw [pk_div ha h0 hd, pk_mul, pk_sub (Nat.div_mul_le_self a d)]
  exact congrArg nI (by have := Nat.div_add_mod' a d; omega)
theorem pk_ix (x : Int32) {n : Nat} (hn : n < 2 ^ 31) : x < 0 ∨ nI n ≤ x ∨ ∃ j : Nat, j < n ∧ x = nI j := by
  by_cases h : x < 0
  · exact Or.inl h
  · obtain ⟨j, hj, rfl⟩ := nI_of h
    by_cases h2 : j < n
    · exact Or.inr (Or.inr ⟨j, h2, rfl⟩)
    · exact Or.inr (Or.inl (nI_le (by omega) hj))
theorem pk_le {x y : Int32} {A B : Prop} (a b : Nat) (f : a ≤ b → A) (g : b < a → B) (hx : x = nI a := by rfl) (hy : y = nI b := by rfl) (ha : a < 2 ^ 31 := by omega) (hb : b < 2 ^ 31 := by omega) : (x ≤ y → A) ∧ (¬ x ≤ y → B) := by
  subst hx hy
  rw [nI_leI ha hb]
  exact ⟨f, fun z => g (by omega)⟩
theorem pk_lt {x y : Int32} {A B : Prop} (a b : Nat) (f : a < b → A) (g : b ≤ a → B) (hx : x = nI a := by rfl) (hy : y = nI b := by rfl) (ha : a < 2 ^ 31 := by omega) (hb : b < 2 ^ 31 := by omega) : (x < y → A) ∧ (¬ x < y → B) := by
  subst hx hy
  rw [nI_ltI ha hb]
  exact ⟨f, fun z => g (by omega)⟩
theorem pk_eq {x y : Int32} {A B : Prop} (a b : Nat) (f : a = b → A) (g : a ≠ b → B) (hx : x = nI a := by rfl) (hy : y = nI b := by rfl) (ha : a < 2 ^ 31 := by omega) (hb : b < 2 ^ 31 := by omega) : (x = y → A) ∧ (¬ x = y → B) := by
  subst hx hy
  rw [nI_eq ha hb]
  exact ⟨f, g⟩
theorem pk_in {x : Int32} (n N : Nat) (h : n < N) (hx : x = nI n := by rfl) (hN : N < 2 ^ 31 := by omega) : vp_in x N := by
  subst hx
  exact vp_in_nI h hN
theorem pk_cl {x : Int32} (n : Nat) (hx : x = nI n := by rfl) (h : n < 2 ^ 31 := by omega) : x.toNatClampNeg = n := by
  subst hx
  exact nI_clamp h
theorem pk_tn {n : Nat} (h : n < 2 ^ 32) : (nI n).toBitVec.toNat = n := Nat.mod_eq_of_lt h
theorem ax_lt1 {k : Nat} {P : Nat → Prop} (h : ∀ j, j < k → P j) (hk : P k) : ∀ j, j < k + 1 → P j := by
  intro j hj
  by_cases e : j = k
  · rw [e]; exact hk
  · exact h j (by omega)
def rf_fc : Nat → Nat
  | 0 => 1
  | k + 1 => (k + 1) * rf_fc k
def rf_sm (f : Nat → Nat) (S : Nat) : Nat → Nat
  | 0 => 0
  | x + 1 => rf_sm f S x + (if S.testBit x = true then f x else 0)
def rf_sz (S : Nat) : Nat := rf_sm (fun _ => 1) S 6
def rf_rm (S d : Nat) : Nat := if S.testBit d = true then S - 2 ^ d else S
def rf_ad (S d : Nat) : Nat := if S.testBit d = true then S else S + 2 ^ d
def rf_nx (S s : Nat) : Nat → Nat → Nat → Nat
  | 0, _, _ => 0
  | r + 1, d, l => if S.testBit d = true then (if l = s then d else rf_nx S s r (d + 1) (l + 1)) else rf_nx S s r (d + 1) l
def rf_nt (S s : Nat) : Nat := rf_nx S s 6 0 0
theorem rf_has : ∀ S, S < 64 → ∀ d, d < 6 → (((nI S >>> (nI d &&& 31)) &&& 1) = 1 ↔ S.testBit d = true) := by decide +kernel
theorem rf_hs0 : ∀ S, S < 64 → ∀ d, d < 6 → (((nI S >>> (nI d &&& 31)) &&& 1) = 0 ↔ ¬ S.testBit d = true) := by decide +kernel
theorem rf_hsv : ∀ S, S < 64 → ∀ d, d < 6 → ((nI S >>> (nI d &&& 31)) &&& 1) = nI (if S.testBit d = true then 1 else 0) := by decide +kernel
theorem rf_wo : ∀ S, S < 64 → ∀ d, d < 6 → nI S &&& (((1 : Int32) <<< (nI d &&& 31)) ^^^ (-1)) = nI (rf_rm S d) := by decide +kernel
theorem rf_wi : ∀ S, S < 64 → ∀ d, d < 6 → nI S ||| ((1 : Int32) <<< (nI d &&& 31)) = nI (rf_ad S d) := by decide +kernel
theorem rf_sh : ∀ d, d < 7 → ((1 : Int32) <<< (nI d &&& 31)) = nI (2 ^ d) := by decide +kernel
theorem rf_all : ∀ d, d < 7 → ((1 : Int32) <<< (nI d &&& 31)) - 1 = nI (2 ^ d - 1) := by decide +kernel
theorem rf_p2 : ∀ d, d < 7 → 2 ^ d ≤ 64 ∧ 1 ≤ 2 ^ d := by decide +kernel
theorem rf_p6 : ∀ d, d < 6 → 2 ^ d < 64 := by decide +kernel
theorem rf_fcb : ∀ d, d < 7 → rf_fc d ≤ 720 ∧ 1 ≤ rf_fc d := by decide +kernel
theorem rf_t1 : ∀ S, S < 64 → ∀ s, s < 6 → s < rf_sz S → rf_nt S s < 6 ∧ S.testBit (rf_nt S s) = true := by decide +kernel
theorem rf_t2 : ∀ S, S < 64 → ∀ d, d < 6 → S.testBit d = true → rf_sz (S % 2 ^ d) < rf_sz S ∧ rf_nt S (rf_sz (S % 2 ^ d)) = d := by decide +kernel
theorem rf_t3 : ∀ S, S < 64 → ∀ s, s < 6 → s < rf_sz S → ∀ d, d < rf_nt S s → S.testBit d = true → rf_sz (S % 2 ^ d) < s := by decide +kernel
theorem rf_t4 : ∀ S, S < 64 → ∀ d, d < 6 → S.testBit d = true → rf_sz (rf_rm S d) + 1 = rf_sz S ∧ rf_rm S d < S := by decide +kernel
theorem rf_t5 : ∀ S, S < 64 → ∀ d, d < 6 → ∀ e, e < 6 → ((rf_rm S d).testBit e = true ↔ (S.testBit e = true ∧ e ≠ d)) := by decide +kernel
theorem rf_t6 : ∀ S, S < 64 → ∀ d, d < 6 → rf_rm S d < 64 ∧ rf_ad S d < 64 ∧ rf_rm S d ≤ S := by decide +kernel
theorem rf_t7 : ∀ S, S < 64 → ∀ d, d < 6 → ∀ e, e < 6 → ((rf_ad S d).testBit e = true ↔ (S.testBit e = true ∨ e = d)) := by decide +kernel
theorem rf_t8 : ∀ S, S < 64 → ∀ d, d < 6 → ¬ S.testBit d = true → rf_sz (rf_ad S d) = rf_sz S + 1 := by decide +kernel
theorem rf_t9 : ∀ S, S < 64 → rf_sz S ≤ 6 ∧ (rf_sz S = 0 → S = 0) := by decide +kernel
theorem rf_t10 : ∀ n, n < 7 → rf_sz (2 ^ n - 1) = n := by decide +kernel
theorem rf_t11 : ∀ n, n < 7 → ∀ d, d < 6 → ((2 ^ n - 1).testBit d = true ↔ d < n) := by decide +kernel
theorem rf_t12 : ∀ d, d < 6 → ∀ e, e < 6 → ((2 ^ d).testBit e = true ↔ e = d) := by decide +kernel
theorem rf_t13 : ∀ d, d < 6 → rf_sz (2 ^ d) = 1 := by decide +kernel
theorem rf_ch : ∀ S, S < 64 → ∀ T, T < 64 → S &&& T = S → S ≤ T ∧ rf_sz S ≤ rf_sz T ∧ (rf_sz T ≤ rf_sz S → S = T) := by decide +kernel
theorem rf_ch2 : ∀ S, S < 64 → ∀ T, T < 64 → (∀ d, d < 6 → S.testBit d = true → T.testBit d = true) → S &&& T = S := by decide +kernel
theorem rf_ch3 {S T : Nat} (hS : S < 64) (hT : T < 64) (h : ¬ S &&& T = S) : ∃ d, d < 6 ∧ S.testBit d = true ∧ ¬ T.testBit d = true := by
  apply Classical.byContradiction
  intro z
  refine h (rf_ch2 S hS T hT (fun d hd hb => ?_))
  apply Classical.byContradiction
  intro y
  exact z ⟨d, hd, hb, y⟩
theorem rf_ne1 : ∀ S, S < 64 → 1 ≤ S → S.testBit 0 = true ∨ S.testBit 1 = true ∨ S.testBit 2 = true ∨ S.testBit 3 = true ∨ S.testBit 4 = true ∨ S.testBit 5 = true := by decide +kernel
theorem rf_ne {S : Nat} (hS : S < 64) (h : 1 ≤ S) : ∃ d, d < 6 ∧ S.testBit d = true := by
  rcases rf_ne1 S hS h with h | h | h | h | h | h
  · exact ⟨0, by omega, h⟩
  · exact ⟨1, by omega, h⟩
  · exact ⟨2, by omega, h⟩
  · exact ⟨3, by omega, h⟩
  · exact ⟨4, by omega, h⟩
  · exact ⟨5, by omega, h⟩
theorem rf_bl {n S d : Nat} (hS : S < 2 ^ n) (h : S.testBit d = true) : d < n := by
  by_cases e : d < n
  · exact e
  · rw [Nat.testBit_lt_two_pow (Nat.lt_of_lt_of_le hS (Nat.pow_le_pow_right (by omega) (by omega)))] at h
    exact absurd h (by decide)
theorem rf_smn (f : Nat → Nat) {S n : Nat} (hS : S < 2 ^ n) : ∀ r, rf_sm f S (n + r) = rf_sm f S n := by
  intro r
  induction r with
  | zero => rfl
  | succ r ih =>
    show rf_sm f S (n + r) + (if S.testBit (n + r) = true then f (n + r) else 0) = _
    rw [if_neg (fun h => absurd (rf_bl hS h) (by omega)), ih, Nat.add_zero]
theorem rf_sm6 (f : Nat → Nat) {S n : Nat} (hS : S < 2 ^ n) (hn : n ≤ 6) : rf_sm f S n = rf_sm f S 6 := by
  obtain ⟨r, hr⟩ : ∃ r, 6 = n + r := ⟨6 - n, by omega⟩
  rw [hr, rf_smn f hS]
theorem rf_smle (f : Nat → Nat) (S M : Nat) (hf : ∀ x, f x ≤ M) : ∀ N, rf_sm f S N ≤ M * rf_sm (fun _ => 1) S N := by
  intro N
  induction N with
  | zero => exact Nat.zero_le _
  | succ N ih =>
    show rf_sm f S N + (if S.testBit N = true then f N else 0) ≤ M * (rf_sm (fun _ => 1) S N + (if S.testBit N = true then 1 else 0))
    have := hf N
    rw [Nat.mul_add]
    by_cases h : S.testBit N = true
    · rw [if_pos h, if_pos h]; omega
    · rw [if_neg h, if_neg h]; omega
theorem rf_smrm (f : Nat → Nat) {S d : Nat} (hS : S < 64) (hd : d < 6) (h : S.testBit d = true) : ∀ N, N ≤ 6 → rf_sm f S N = rf_sm f (rf_rm S d) N + (if d < N then f d else 0) := by
  intro N
  induction N with
  | zero => intro _; rw [if_neg (by omega)]; rfl
  | succ N ih =>
    intro hN
    have ih := ih (by omega)
    have t5 := rf_t5 S hS d hd N (by omega)
    show rf_sm f S N + (if S.testBit N = true then f N else 0) = rf_sm f (rf_rm S d) N + (if (rf_rm S d).testBit N = true then f N else 0) + _
    by_cases e : N = d
    · subst e
      rw [if_pos h, if_neg (fun z => (t5.mp z).2 rfl), if_pos (by omega)]
      rw [if_neg (by omega)] at ih
      omega
    · by_cases z : S.testBit N = true
      · rw [if_pos z, if_pos (t5.mpr ⟨z, e⟩)]
        by_cases l : d < N
        · rw [if_pos l] at ih; rw [if_pos (by omega)]; omega
        · rw [if_neg l] at ih; rw [if_neg (by omega)]; omega
      · rw [if_neg z, if_neg (fun y => z (t5.mp y).1)]
        by_cases l : d < N
        · rw [if_pos l] at ih; rw [if_pos (by omega)]; omega
        · rw [if_neg l] at ih; rw [if_neg (by omega)]; omega
