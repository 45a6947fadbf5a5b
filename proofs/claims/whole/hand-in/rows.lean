section
theorem pk_us {f : Nat → Int32} {k : Nat} {x : Int32} : upd f k x k = x := if_pos rfl
theorem pk_un {f : Nat → Int32} {k j : Nat} {x : Int32} (h : j ≠ k) : upd f k x j = f j := if_neg h
theorem pk_sub {a b : Nat} (h : b ≤ a) : nI a - nI b = nI (a - b) := by
  obtain ⟨c, rfl⟩ : ∃ c, a = c + b := ⟨a - b, by omega⟩
  rw [← nI_add, Int32.add_sub_cancel, Nat.add_sub_cancel]
theorem pk_m1 (n : Nat) : nI (n + 1) + (-1) = nI n := by
  rw [← nI_1, Int32.add_assoc, show (1 : Int32) + (-1) = 0 from rfl, Int32.add_zero]
theorem pk_mul (a b : Nat) : nI a * nI b = nI (a * b) := (Int32.ofNat_mul a b).symm
theorem pk_div {a d : Nat} (ha : a < 2 ^ 31) (h0 : 0 < d) (hd : d < 2 ^ 31) : nI a / nI d = nI (a / d) := by
  apply Int32.toInt_inj.mp
  rw [lg_idiv_nonneg (by rw [nI_toInt ha]; omega) (by rw [nI_toInt hd]; omega), nI_toInt ha, nI_toInt hd, nI_toInt (Nat.lt_of_le_of_lt (Nat.div_le_self a d) ha)]
  first | rfl | exact (Int.natCast_ediv _ _).symm
theorem pk_rem {a d : Nat} (ha : a < 2 ^ 31) (h0 : 0 < d) (hd : d < 2 ^ 31) : nI a - nI a / nI d * nI d = nI (a % d) := by
  rw [pk_div ha h0 hd, pk_mul, pk_sub (Nat.div_mul_le_self a d)]
  exact congrArg nI (by have := Nat.div_add_mod' a d; omega)
theorem pk_ix (x : Int32) {n : Nat} (hn : n < 2 ^ 31) : x < 0 ∨ nI n ≤ x ∨ ∃ j : Nat, j < n ∧ x = nI j := by
  by_cases h : x < 0
  · exact Or.inl h
  · obtain ⟨j, hj, rfl⟩ := nI_of h
    by_cases h2 : j < n
    · exact Or.inr (Or.inr ⟨j, h2, rfl⟩)
    · exact Or.inr (Or.inl (nI_le (by omega) hj))
theorem pk_le {x y : Int32} {A B : Prop} (a b : Nat) (f : a ≤ b → A) (g : b < a → B) (hx : x = nI a := by rfl) (hy : y = nI b := by rfl) (ha : a < 2 ^ 31 := by omega) (hb : b < 2 ^ 31 := by omega) : (x ≤ y → A) ∧ (¬ x ≤ y → B) := by
  subst hx hy
  rw [nI_leI ha hb]
  exact ⟨f, fun z => g (by omega)⟩
theorem pk_lt {x y : Int32} {A B : Prop} (a b : Nat) (f : a < b → A) (g : b ≤ a → B) (hx : x = nI a := by rfl) (hy : y = nI b := by rfl) (ha : a < 2 ^ 31 := by omega) (hb : b < 2 ^ 31 := by omega) : (x < y → A) ∧ (¬ x < y → B) := by
  subst hx hy
  rw [nI_ltI ha hb]
  exact ⟨f, fun z => g (by omega)⟩
theorem pk_eq {x y : Int32} {A B : Prop} (a b : Nat) (f : a = b → A) (g : a ≠ b → B) (hx : x = nI a := by rfl) (hy : y = nI b := by rfl) (ha : a < 2 ^ 31 := by omega) (hb : b < 2 ^ 31 := by omega) : (x = y → A) ∧ (¬ x = y → B) := by
  subst hx hy
  rw [nI_eq ha hb]
  exact ⟨f, g⟩
theorem pk_in {x : Int32} (n N : Nat) (h : n < N) (hx : x = nI n := by rfl) (hN : N < 2 ^ 31 := by omega) : vp_in x N := by
  subst hx
  exact vp_in_nI h hN
theorem pk_cl {x : Int32} (n : Nat) (hx : x = nI n := by rfl) (h : n < 2 ^ 31 := by omega) : x.toNatClampNeg = n := by
  subst hx
  exact nI_clamp h
theorem pk_tn {n : Nat} (h : n < 2 ^ 32) : (nI n).toBitVec.toNat = n := Nat.mod_eq_of_lt h
theorem ax_lt1 {k : Nat} {P : Nat → Prop} (h : ∀ j, j < k → P j) (hk : P k) : ∀ j, j < k + 1 → P j := by
  intro j hj
  by_cases e : j = k
  · rw [e]; exact hk
  · exact h j (by omega)
def rf_fc : Nat → Nat
  | 0 => 1
  | k + 1 => (k + 1) * rf_fc k
def rf_sm (f : Nat → Nat) (S : Nat) : Nat → Nat
  | 0 => 0
  | x + 1 => rf_sm f S x + (if S.testBit x = true then f x else 0)
def rf_sz (S : Nat) : Nat := rf_sm (fun _ => 1) S 6
def rf_rm (S d : Nat) : Nat := if S.testBit d = true then S - 2 ^ d else S
def rf_ad (S d : Nat) : Nat := if S.testBit d = true then S else S + 2 ^ d
def rf_nx (S s : Nat) : Nat → Nat → Nat → Nat
  | 0, _, _ => 0
  | r + 1, d, l => if S.testBit d = true then (if l = s then d else rf_nx S s r (d + 1) (l + 1)) else rf_nx S s r (d + 1) l
def rf_nt (S s : Nat) : Nat := rf_nx S s 6 0 0
theorem rf_has : ∀ S, S < 64 → ∀ d, d < 6 → (((nI S >>> (nI d &&& 31)) &&& 1) = 1 ↔ S.testBit d = true) := by decide +kernel
theorem rf_hs0 : ∀ S, S < 64 → ∀ d, d < 6 → (((nI S >>> (nI d &&& 31)) &&& 1) = 0 ↔ ¬ S.testBit d = true) := by decide +kernel
theorem rf_hsv : ∀ S, S < 64 → ∀ d, d < 6 → ((nI S >>> (nI d &&& 31)) &&& 1) = nI (if S.testBit d = true then 1 else 0) := by decide +kernel
theorem rf_wo : ∀ S, S < 64 → ∀ d, d < 6 → nI S &&& (((1 : Int32) <<< (nI d &&& 31)) ^^^ (-1)) = nI (rf_rm S d) := by decide +kernel
theorem rf_wi : ∀ S, S < 64 → ∀ d, d < 6 → nI S ||| ((1 : Int32) <<< (nI d &&& 31)) = nI (rf_ad S d) := by decide +kernel
theorem rf_sh : ∀ d, d < 7 → ((1 : Int32) <<< (nI d &&& 31)) = nI (2 ^ d) := by decide +kernel
theorem rf_all : ∀ d, d < 7 → ((1 : Int32) <<< (nI d &&& 31)) - 1 = nI (2 ^ d - 1) := by decide +kernel
theorem rf_p2 : ∀ d, d < 7 → 2 ^ d ≤ 64 ∧ 1 ≤ 2 ^ d := by decide +kernel
theorem rf_p6 : ∀ d, d < 6 → 2 ^ d < 64 := by decide +kernel
theorem rf_fcb : ∀ d, d < 7 → rf_fc d ≤ 720 ∧ 1 ≤ rf_fc d := by decide +kernel
theorem rf_t1 : ∀ S, S < 64 → ∀ s, s < 6 → s < rf_sz S → rf_nt S s < 6 ∧ S.testBit (rf_nt S s) = true := by decide +kernel
theorem rf_t2 : ∀ S, S < 64 → ∀ d, d < 6 → S.testBit d = true → rf_sz (S % 2 ^ d) < rf_sz S ∧ rf_nt S (rf_sz (S % 2 ^ d)) = d := by decide +kernel
theorem rf_t3 : ∀ S, S < 64 → ∀ s, s < 6 → s < rf_sz S → ∀ d, d < rf_nt S s → S.testBit d = true → rf_sz (S % 2 ^ d) < s := by decide +kernel
theorem rf_t4 : ∀ S, S < 64 → ∀ d, d < 6 → S.testBit d = true → rf_sz (rf_rm S d) + 1 = rf_sz S ∧ rf_rm S d < S := by decide +kernel
theorem rf_t5 : ∀ S, S < 64 → ∀ d, d < 6 → ∀ e, e < 6 → ((rf_rm S d).testBit e = true ↔ (S.testBit e = true ∧ e ≠ d)) := by decide +kernel
theorem rf_t6 : ∀ S, S < 64 → ∀ d, d < 6 → rf_rm S d < 64 ∧ rf_ad S d < 64 ∧ rf_rm S d ≤ S := by decide +kernel
theorem rf_t7 : ∀ S, S < 64 → ∀ d, d < 6 → ∀ e, e < 6 → ((rf_ad S d).testBit e = true ↔ (S.testBit e = true ∨ e = d)) := by decide +kernel
theorem rf_t8 : ∀ S, S < 64 → ∀ d, d < 6 → ¬ S.testBit d = true → rf_sz (rf_ad S d) = rf_sz S + 1 := by decide +kernel
theorem rf_t9 : ∀ S, S < 64 → rf_sz S ≤ 6 ∧ (rf_sz S = 0 → S = 0) := by decide +kernel
theorem rf_t10 : ∀ n, n < 7 → rf_sz (2 ^ n - 1) = n := by decide +kernel
theorem rf_t11 : ∀ n, n < 7 → ∀ d, d < 6 → ((2 ^ n - 1).testBit d = true ↔ d < n) := by decide +kernel
theorem rf_t12 : ∀ d, d < 6 → ∀ e, e < 6 → ((2 ^ d).testBit e = true ↔ e = d) := by decide +kernel
theorem rf_t13 : ∀ d, d < 6 → rf_sz (2 ^ d) = 1 := by decide +kernel
theorem rf_ch : ∀ S, S < 64 → ∀ T, T < 64 → S &&& T = S → S ≤ T ∧ rf_sz S ≤ rf_sz T ∧ (rf_sz T ≤ rf_sz S → S = T) := by decide +kernel
theorem rf_ch2 : ∀ S, S < 64 → ∀ T, T < 64 → (∀ d, d < 6 → S.testBit d = true → T.testBit d = true) → S &&& T = S := by decide +kernel
theorem rf_ch3 {S T : Nat} (hS : S < 64) (hT : T < 64) (h : ¬ S &&& T = S) : ∃ d, d < 6 ∧ S.testBit d = true ∧ ¬ T.testBit d = true := by
  apply Classical.byContradiction
  intro z
  refine h (rf_ch2 S hS T hT (fun d hd hb => ?_))
  apply Classical.byContradiction
  intro y
  exact z ⟨d, hd, hb, y⟩
theorem rf_ne1 : ∀ S, S < 64 → 1 ≤ S → S.testBit 0 = true ∨ S.testBit 1 = true ∨ S.testBit 2 = true ∨ S.testBit 3 = true ∨ S.testBit 4 = true ∨ S.testBit 5 = true := by decide +kernel
theorem rf_ne {S : Nat} (hS : S < 64) (h : 1 ≤ S) : ∃ d, d < 6 ∧ S.testBit d = true := by
  rcases rf_ne1 S hS h with h | h | h | h | h | h
  · exact ⟨0, by omega, h⟩
  · exact ⟨1, by omega, h⟩
  · exact ⟨2, by omega, h⟩
  · exact ⟨3, by omega, h⟩
  · exact ⟨4, by omega, h⟩
  · exact ⟨5, by omega, h⟩
theorem rf_bl {n S d : Nat} (hS : S < 2 ^ n) (h : S.testBit d = true) : d < n := by
  by_cases e : d < n
  · exact e
  · rw [Nat.testBit_lt_two_pow (Nat.lt_of_lt_of_le hS (Nat.pow_le_pow_right (by omega) (by omega)))] at h
    exact absurd h (by decide)
theorem rf_smn (f : Nat → Nat) {S n : Nat} (hS : S < 2 ^ n) : ∀ r, rf_sm f S (n + r) = rf_sm f S n := by
  intro r
  induction r with
  | zero => rfl
  | succ r ih =>
    show rf_sm f S (n + r) + (if S.testBit (n + r) = true then f (n + r) else 0) = _
    rw [if_neg (fun h => absurd (rf_bl hS h) (by omega)), ih, Nat.add_zero]
theorem rf_sm6 (f : Nat → Nat) {S n : Nat} (hS : S < 2 ^ n) (hn : n ≤ 6) : rf_sm f S n = rf_sm f S 6 := by
  obtain ⟨r, hr⟩ : ∃ r, 6 = n + r := ⟨6 - n, by omega⟩
  rw [hr, rf_smn f hS]
theorem rf_smle (f : Nat → Nat) (S M : Nat) (hf : ∀ x, f x ≤ M) : ∀ N, rf_sm f S N ≤ M * rf_sm (fun _ => 1) S N := by
  intro N
  induction N with
  | zero => exact Nat.zero_le _
  | succ N ih =>
    show rf_sm f S N + (if S.testBit N = true then f N else 0) ≤ M * (rf_sm (fun _ => 1) S N + (if S.testBit N = true then 1 else 0))
    have := hf N
    rw [Nat.mul_add]
    by_cases h : S.testBit N = true
    · rw [if_pos h, if_pos h]; omega
    · rw [if_neg h, if_neg h]; omega
theorem rf_smrm (f : Nat → Nat) {S d : Nat} (hS : S < 64) (hd : d < 6) (h : S.testBit d = true) : ∀ N, N ≤ 6 → rf_sm f S N = rf_sm f (rf_rm S d) N + (if d < N then f d else 0) := by
  intro N
  induction N with
  | zero => intro _; rw [if_neg (by omega)]; rfl
  | succ N ih =>
    intro hN
    have ih := ih (by omega)
    have t5 := rf_t5 S hS d hd N (by omega)
    show rf_sm f S N + (if S.testBit N = true then f N else 0) = rf_sm f (rf_rm S d) N + (if (rf_rm S d).testBit N = true then f N else 0) + _
    by_cases e : N = d
    · subst e
      rw [if_pos h, if_neg (fun z => (t5.mp z).2 rfl), if_pos (by omega)]
      rw [if_neg (by omega)] at ih
      omega
    · by_cases z : S.testBit N = true
      · rw [if_pos z, if_pos (t5.mpr ⟨z, e⟩)]
        by_cases l : d < N
        · rw [if_pos l] at ih; rw [if_pos (by omega)]; omega
        · rw [if_neg l] at ih; rw [if_neg (by omega)]; omega
      · rw [if_neg z, if_neg (fun y => z (t5.mp y).1)]
        by_cases l : d < N
        · rw [if_pos l] at ih; rw [if_pos (by omega)]; omega
        · rw [if_neg l] at ih; rw [if_neg (by omega)]; omega
end
section
def rf_nz (x : Nat) : Nat := if x = 0 then 0 else 1
theorem rf_nz1 (x : Nat) : rf_nz x ≤ 1 := by unfold rf_nz; split <;> omega
def rf_ct (q : Nat → Nat) : Nat := rf_nz (q 0) + rf_nz (q 1) + rf_nz (q 2) + rf_nz (q 3) + rf_nz (q 4) + rf_nz (q 5)
theorem rf_ct6 (q : Nat → Nat) : rf_ct q ≤ 6 := by
  have := rf_nz1 (q 0); have := rf_nz1 (q 1); have := rf_nz1 (q 2); have := rf_nz1 (q 3); have := rf_nz1 (q 4); have := rf_nz1 (q 5)
  unfold rf_ct; omega
def rf_K (k wt c : Nat) (q : Nat → Nat) (aw an ap al : Nat → Int32) : Prop :=
  aw k = nI wt ∧ wt ≤ 9 ∧ an k = nI c ∧ c = rf_ct q ∧ (∀ d, d < 6 → ap (6 * k + d) = nI (q d) ∧ q d ≤ c ∧ (∀ p, q d = p + 1 → al (6 * k + p) = nI d)) ∧ (∀ p, p < c → ∃ d, d < 6 ∧ q d = p + 1)
def rf_Q (n m : Nat) (wt c : Nat → Nat) (q : Nat → Nat → Nat) (aw an ap al : Nat → Int32) : Prop :=
  2 ≤ n ∧ n ≤ 6 ∧ m ≤ 5 ∧ ∀ k, k < m → rf_K k (wt k) (c k) (q k) aw an ap al
def rf_P (wt : Nat → Nat) (q : Nat → Nat → Nat) (a b : Nat) : Nat → Nat
  | 0 => 0
  | k + 1 => rf_P wt q a b k + (if q k a ≠ 0 ∧ (q k b = 0 ∨ q k a < q k b) then wt k else 0)
theorem rf_Paa (wt : Nat → Nat) (q : Nat → Nat → Nat) (a : Nat) : ∀ k, rf_P wt q a a k = 0 := by
  intro k
  induction k with
  | zero => rfl
  | succ k ih =>
    show rf_P wt q a a k + _ = 0
    rw [ih, if_neg (by omega)]
theorem rf_Pb {wt : Nat → Nat} (q : Nat → Nat → Nat) (a b : Nat) : ∀ k, (∀ j, j < k → wt j ≤ 9) → rf_P wt q a b k ≤ 9 * k := by
  intro k
  induction k with
  | zero => intro _; exact Nat.le_refl _
  | succ k ih =>
    intro h
    have i1 := ih (fun j hj => h j (by omega))
    have i2 := h k (by omega)
    show rf_P wt q a b k + _ ≤ _
    split <;> omega
section
variable {n m : Nat} {wt c : Nat → Nat} {q : Nat → Nat → Nat} {aw an ap al : Nat → Int32}
theorem rf_ix {k d : Nat} : nI k * 6 + nI d = nI (6 * k + d) := by
  rw [show (6 : Int32) = nI 6 from rfl, pk_mul, nI_add, Nat.mul_comm]
theorem rf_iy {k d : Nat} : 6 * nI k + nI d = nI (6 * k + d) := by
  rw [show (6 : Int32) = nI 6 from rfl, pk_mul, nI_add]
theorem rf_Xa {f g : Int32} {asd aps : Nat → Int32} {k wk ck : Nat} {qk : Nat → Nat} (K : rf_K k wk ck qk aw an ap al) (hk : k < 5) {a b : Nat} (ha : a < 6) (hb : b < 6) {post : Int32 → Prop} (hp : post (if qk a ≠ 0 ∧ (qk b = 0 ∨ qk a < qk b) then 1 else 0)) : wpX_putsAbove post (f, g, aw, an, ap, asd, aps) (nI k) (nI a) (nI b) := by
  obtain ⟨-, -, -, hc, hd, -⟩ := K
  obtain ⟨a1, a2, -⟩ := hd a ha
  obtain ⟨b1, b2, -⟩ := hd b hb
  have c6 := rf_ct6 qk
  unfold wpX_putsAbove wpX_placeIndex
  dsimp only
  rw [rf_ix, rf_ix, nI_clamp (by omega), nI_clamp (by omega), a1, b1]
  refine ⟨vp_in_nI (by omega) (by omega), nm_e ⟨vp_in_nI (by omega) (by omega), nm_e ?_⟩⟩
  refine pk_eq (qk a) 0 (fun h => ?_) (fun h => ?_)
  · rw [if_neg (by omega)] at hp; exact hp
  refine pk_eq (qk b) 0 (fun h => ?_) (fun h => ?_)
  · rw [if_pos (by omega)] at hp; exact hp
  refine pk_le (qk b) (qk a) (fun h => ?_) (fun h => ?_)
  · rw [if_neg (by omega)] at hp; exact hp
  · rw [if_pos (by omega)] at hp; exact hp
theorem rf_Xp (Q : rf_Q n m wt c q aw an ap al) {asd aps : Nat → Int32} {a b : Nat} (ha : a < 6) (hb : b < 6) {post : Int32 → Prop} (hp : post (nI (rf_P wt q a b m))) : wpX_preference post (nI n, nI m, aw, an, ap, asd, aps) (nI a) (nI b) := by
  obtain ⟨n2, n6, m5, hK⟩ := Q
  have key : ∀ r k, k + r = m → wX_preference_5 post (nI a) (nI b) (nI n) (nI m) aw an ap asd aps (r + 1) (nI (rf_P wt q a b k)) (nI k) := by
    intro r
    induction r with
    | zero =>
      intro k hk
      have e : k = m := by omega
      subst e
      exact br_t (nI_le (by omega) (by omega)) hp
    | succ r ih =>
      intro k hk
      refine br_f (nI_ge (by omega) (by omega)) ?_
      have K := hK k (by omega)
      refine rf_Xa K (by omega) ha hb ?_
      have i1 := ih (k + 1) (by omega)
      by_cases e : q k a ≠ 0 ∧ (q k b = 0 ∨ q k a < q k b)
      · rw [if_pos e]
        refine br_f (by decide) ⟨vp_in_nI (by omega) (by omega), nm_r (e' := nI (rf_P wt q a b (k + 1))) ?_ (nm_r (nI_1 k) i1)⟩
        rw [nI_clamp (by omega), K.1, nI_add]
        show nI _ = nI (rf_P wt q a b k + _)
        rw [if_pos e]
      · rw [if_neg e]
        refine br_t rfl (nm_r (nI_1 k) ?_)
        have e2 : rf_P wt q a b (k + 1) = rf_P wt q a b k := by
          show rf_P wt q a b k + _ = _
          rw [if_neg e, Nat.add_zero]
        rw [e2] at i1
        exact i1
  exact ⟨m + 1, key m 0 (by omega)⟩
theorem rf_Yl {f g h : Int32} {ao : Nat → Int32} {k wk ck : Nat} {qk : Nat → Nat} (K : rf_K k wk ck qk aw an ap al) (hk : k < 5) {d : Nat} (hd6 : d < 6) {post : Int32 → Prop} (hp : post (nI (if qk d = 0 then 6 else qk d - 1))) : wpY_place post (f, g, h, aw, an, al, ao) (nI k) (nI d) := by
  obtain ⟨-, -, hn, hc, hd, hl⟩ := K
  have c6 := rf_ct6 qk
  obtain ⟨d1, d2, d3⟩ := hd d hd6
  have key : ∀ r p, p + r = ck → (∀ p', p' < p → qk d ≠ p' + 1) → wY_place_2 post (nI k) (nI d) f g h aw an al ao (r + 1) (nI p) := by
    intro r
    induction r with
    | zero =>
      intro p hpk hne
      refine ⟨vp_in_nI (by omega) (by omega), ?_⟩
      rw [nI_clamp (by omega), hn]
      refine br_t (nI_le (by omega) (by omega)) ?_
      have e : qk d = 0 := by
        have := hne (qk d - 1)
        omega
      rw [if_pos e] at hp
      exact hp
    | succ r ih =>
      intro p hpk hne
      refine ⟨vp_in_nI (by omega) (by omega), ?_⟩
      rw [nI_clamp (by omega), hn, rf_iy, nI_clamp (by omega)]
      refine br_f (nI_ge (by omega) (by omega)) (br_f (nI_ge (b := 6) (by omega) (by decide)) ⟨vp_in_nI (by omega) (by omega), ?_⟩)
      by_cases e : qk d = p + 1
      · refine br_t (d3 p e) ?_
        rw [if_neg (by omega), e] at hp
        exact hp
      · refine br_f ?_ (nm_r (nI_1 p) (ih (p + 1) (by omega) ?_))
        · intro z
          obtain ⟨d', h6, hq⟩ := hl p (by omega)
          have z2 := ((hd d' h6).2.2 p hq).symm.trans z
          rw [nI_eq (by omega) (by omega)] at z2
          exact e (z2 ▸ hq)
        · exact ax_lt1 hne e
  exact ⟨ck + 1, key ck 0 (by omega) (fun p' h => absurd h (by omega))⟩
theorem rf_Yd {fo g : Int32} {aw an al ao : Nat → Int32} (hn : n ≤ 6) {d : Nat} (hd : d < n) {post : Int32 → Prop} (hp : post 1) : wpY_document post (nI n, g, fo, aw, an, al, ao) (nI d) :=
  br_f (nI_pos (by omega)) (br_f (nI_ge (by omega) (by omega)) hp)
theorem rf_Xd {g : Int32} {aw an ap asd aps : Nat → Int32} (hn : n ≤ 6) {d : Nat} (hd : d < n) {post : Int32 → Prop} (hp : post 1) : wpX_isDocument post (nI n, g, aw, an, ap, asd, aps) (nI d) :=
  br_f (nI_pos (by omega)) (br_f (nI_ge (by omega) (by omega)) hp)
theorem rf_Yp (Q : rf_Q n m wt c q aw an ap al) {fo : Int32} {ao : Nat → Int32} {a b : Nat} (ha : a < n) (hb : b < n) (hab : a ≠ b) {post : Int32 → Prop} (hp : post (nI (rf_P wt q a b m))) : wpY_prefers post (nI n, nI m, fo, aw, an, al, ao) (nI a) (nI b) := by
  obtain ⟨n2, n6, m5, hK⟩ := Q
  have key : ∀ r k, k + r = m → wY_prefers_28 post (nI a) (nI b) (nI n) (nI m) fo aw an al ao (r + 1) (nI (rf_P wt q a b k)) (nI k) := by
    intro r
    induction r with
    | zero =>
      intro k hk
      have e : k = m := by omega
      subst e
      exact br_t (nI_le (by omega) (by omega)) hp
    | succ r ih =>
      intro k hk
      refine br_f (nI_ge (by omega) (by omega)) ?_
      have K := hK k (by omega)
      refine rf_Yl K (by omega) (by omega) (rf_Yl K (by omega) (by omega) ?_)
      have i1 := ih (k + 1) (by omega)
      obtain ⟨kw, -, -, kc, kd, -⟩ := K
      have c6 := rf_ct6 (q k)
      have qa := (kd a (by omega)).2.1
      have qb := (kd b (by omega)).2.1
      by_cases e : q k a ≠ 0 ∧ (q k b = 0 ∨ q k a < q k b)
      · refine br_f ?_ ⟨vp_in_nI (by omega) (by omega), nm_r (e' := nI (rf_P wt q a b (k + 1))) ?_ (nm_r (nI_1 k) i1)⟩
        · refine nI_ge ?_ ?_
          · split <;> split <;> omega
          · split <;> omega
        · rw [nI_clamp (by omega), kw, nI_add]
          show nI _ = nI (rf_P wt q a b k + _)
          rw [if_pos e]
      · refine br_t ?_ (nm_r (e' := nI (rf_P wt q a b (k + 1))) ?_ (nm_r (nI_1 k) i1))
        · refine nI_le ?_ ?_
          · split <;> split <;> omega
          · split <;> omega
        · show _ = nI (rf_P wt q a b k + _)
          rw [if_neg e, Nat.add_zero, Int32.add_zero]
  refine br_f ?_ (rf_Yd n6 ha (br_f (by decide) (rf_Yd n6 hb (br_f (by decide) ⟨m + 1, key m 0 (by omega)⟩))))
  rw [nI_eq (by omega) (by omega)]
  exact hab
end
end
section
def i_Rel (_ : Nat) (u : SX) (v : SY) : Prop :=
  ∃ (n m : Nat) (wt c : Nat → Nat) (q : Nat → Nat → Nat) (aw an ap al asd aps ao : Nat → Int32), u = (nI n, nI m, aw, an, ap, asd, aps) ∧ v = (nI n, nI m, nI (rf_fc n), aw, an, al, ao) ∧ rf_Q n m wt c q aw an ap al
theorem i_up {k : Nat} {u : SX} {v : SY} (h : i_Rel k u v) : i_Rel (k + 3) u v := h
theorem rf_mk (k : Nat) {n m : Nat} {wt c : Nat → Nat} {q : Nat → Nat → Nat} {aw an ap al : Nat → Int32} (Q : rf_Q n m wt c q aw an ap al) (asd aps ao : Nat → Int32) : i_Rel k (nI n, nI m, aw, an, ap, asd, aps) (nI n, nI m, nI (rf_fc n), aw, an, al, ao) :=
  ⟨n, m, wt, c, q, aw, an, ap, al, asd, aps, ao, rfl, rfl, Q⟩
theorem rf_Y0 {post : SY → Prop} {n : Nat} {a b c d : Nat → Int32} (hn : n ≤ 6) (hp : post (nI n, 0, nI (rf_fc n), a, b, c, d)) : ∀ r y, y + r = n → wY_init_66 post (nI n) 0 a b c d (r + 1) (nI (y + 1)) (nI (rf_fc y)) := by
  intro r
  induction r with
  | zero =>
    intro y hy
    have e : y = n := by omega
    subst e
    exact br_t (nI_lt (by omega) (by omega)) hp
  | succ r ih =>
    intro y hy
    refine br_f (nI_nlt (by omega) (by omega)) (nm_r (e' := nI (rf_fc (y + 1))) ?_ (nm_r (nI_1 (y + 1)) (ih (y + 1) (by omega))))
    rw [pk_mul]
    show nI _ = nI ((y + 1) * rf_fc y)
    rw [Nat.mul_comm]
theorem rf_i1 {n : Nat} (h2 : 2 ≤ n) (h6 : n ≤ 6) : ∃ n66 : Nat, wY_init_66 (fun v => i_Rel 1 (nI n, 0, (fun _ => 0), (fun _ => 0), (fun _ => 0), (fun _ => 0), (fun _ => 0)) v) (nI n) 0 (fun _ => 0) (fun _ => 0) (fun _ => 0) (fun _ => 0) n66 2 1 := by
  refine ⟨n - 1 + 1, rf_Y0 h6 ?_ (n - 1) 1 (by omega)⟩
  exact rf_mk 1 (n := n) (m := 0) (wt := fun _ => 0) (c := fun _ => 0) (q := fun _ _ => 0) ⟨h2, h6, by omega, fun k hk => absurd hk (by omega)⟩ _ _ _
theorem i_vc0 (k0 : Int32) : wpX_init (fun u => wpY_init (fun v => i_Rel 1 u v) k0) k0 := by
  by_cases h2 : 2 ≤ k0
  · by_cases h6 : k0 ≤ 6
    · have h0 : ¬ k0 < 0 := Int32.not_lt.mpr (Int32.le_trans (by decide) h2)
      obtain ⟨j, hj, rfl⟩ := nI_of2 (M := 6) (n := 6) (by decide) h0 h6
      have j2 : 2 ≤ j := (nI_leI (a := 2) (by decide) (by omega)).mp h2
      exact br_t h2 (br_t h6 (br_t h2 (br_t h6 (rf_i1 j2 hj))))
    · exact br_t h2 (br_f h6 (br_t h2 (br_f h6 (rf_i1 (n := 6) (by omega) (by omega)))))
  · exact br_f h2 (br_f h2 (rf_i1 (n := 2) (by omega) (by omega)))
theorem rf_Kc {k k' wt c : Nat} {q : Nat → Nat} {aw an ap al aw' an' ap' al' : Nat → Int32} (K : rf_K k wt c q aw an ap al) (h1 : aw' k' = aw k) (h2 : an' k' = an k) (h3 : ∀ d, d < 6 → ap' (6 * k' + d) = ap (6 * k + d)) (h4 : ∀ d, d < 6 → al' (6 * k' + d) = al (6 * k + d)) : rf_K k' wt c q aw' an' ap' al' := by
  obtain ⟨w1, w2, n1, n2, d1, p1⟩ := K
  refine ⟨h1.trans w1, w2, h2.trans n1, n2, fun d hd => ?_, p1⟩
  obtain ⟨a1, a2, a3⟩ := d1 d hd
  have := rf_ct6 q
  exact ⟨(h3 d hd).trans a1, a2, fun p hp => (h4 p (by omega)).trans (a3 p hp)⟩
theorem rf_Xb {post : Int32 → SX → Prop} {k n m : Nat} (hk : k < 5) {aw an asd aps : Nat → Int32} : ∀ r d (ap : Nat → Int32), d + r = 6 → (∀ e, e < d → ap (6 * k + e) = 0) → (∀ ap' : Nat → Int32, (∀ e, e < 6 → ap' (6 * k + e) = 0) → (∀ j, j < 6 * k → ap' j = ap j) → post (nI k) (nI n, nI (m + 1), aw, an, ap', asd, aps)) → wX_begin_45 post (nI k) (nI n) (nI m) (r + 1) (nI d) aw an ap asd aps := by
  intro r
  induction r with
  | zero =>
    intro d ap hd h0 hp
    have e : d = 6 := by omega
    subst e
    exact br_t (Int32.le_refl _) (nm_r (nI_1 m) (hp ap h0 (fun _ _ => rfl)))
  | succ r ih =>
    intro d ap hd h0 hp
    refine br_f (nI_ge (b := 6) (by omega) (by decide)) ?_
    show vp_in (nI k * 6 + nI d) 30 ∧ _
    rw [rf_ix]
    refine ⟨vp_in_nI (by omega) (by omega), nm_e (nm_r (nI_1 d) (ih (d + 1) _ (by omega) ?_ ?_))⟩
    · rw [nI_clamp (by omega)]
      refine ax_lt1 (fun e he => ?_) pk_us
      rw [pk_un (by omega)]
      exact h0 e he
    · intro ap' h1 h2
      refine hp ap' h1 (fun j hj => ?_)
      rw [h2 j hj, nI_clamp (by omega), pk_un (by omega)]
theorem i_vc_begin {k : Nat} {u : SX} {v : SY} (I : i_Rel k u v) (hk : k + 3 ≤ 1537) (v1 : Int32) : wpX_begin (fun r u' => wpY_begin (fun r' v' => r' = r ∧ i_Rel (k + 3) u' v') v v1) u v1 := by
  obtain ⟨n, m, wt, c, q, aw, an, ap, al, asd, aps, ao, rfl, rfl, Q⟩ := I
  by_cases h1 : v1 < 1
  · exact br_t h1 (br_t h1 ⟨rfl, rf_mk _ Q _ _ _⟩)
  by_cases h9 : v1 ≤ 9
  · have h0 : ¬ v1 < 0 := Int32.not_lt.mpr (Int32.le_trans (by decide) (Int32.not_lt.mp h1))
    obtain ⟨w, hw, rfl⟩ := nI_of2 (M := 9) (n := 9) (by decide) h0 h9
    obtain ⟨n2, n6, m5, hK⟩ := Q
    by_cases hm : m < 5
    · have hlt : nI m < 5 := nI_lt (b := 5) hm (by decide)
      have hv : vp_in (nI m) 5 := vp_in_nI hm (by decide)
      refine br_f h1 (br_t h9 (br_t hlt ⟨hv, nm_e ⟨hv, nm_e ⟨7, ?_⟩⟩⟩))
      refine rf_Xb hm 6 0 ap (by omega) (fun e he => absurd he (by omega)) (fun ap' e1 e2 => ?_)
      refine br_f h1 (br_t h9 (br_t hlt ⟨hv, nm_e ⟨hv, nm_e (nm_r (nI_1 m) ⟨?_, ?_⟩)⟩⟩))
      · rw [nI_pred]
      · refine rf_mk _ (n := n) (m := m + 1) (wt := fun j => if j = m then w else wt j) (c := fun j => if j = m then 0 else c j) (q := fun j => if j = m then (fun _ => 0) else q j) ⟨n2, n6, by omega, ?_⟩ _ _ _
        rw [nI_clamp (by omega)]
        intro j hj
        by_cases e : j = m
        · subst e
          dsimp only
          rw [if_pos rfl, if_pos rfl, if_pos rfl]
          exact ⟨pk_us, hw, pk_us, rfl, fun d hd => ⟨e1 d hd, Nat.le_refl 0, fun p hp => absurd (show 0 = p + 1 from hp) (by omega)⟩, fun p hp => absurd hp (by omega)⟩
        · dsimp only
          rw [if_neg e, if_neg e, if_neg e]
          exact rf_Kc (hK j (by omega)) (pk_un e) (pk_un e) (fun d hd => e2 _ (by omega)) (fun _ _ => rfl)
    · have hlt : ¬ nI m < 5 := nI_nlt (b := 5) (by omega) (by omega)
      exact br_f h1 (br_t h9 (br_f hlt (br_f h1 (br_t h9 (br_f hlt ⟨rfl, rf_mk _ ⟨n2, n6, m5, hK⟩ _ _ _⟩)))))
  · exact br_f h1 (br_f h9 (br_f h1 (br_f h9 ⟨rfl, rf_mk _ Q _ _ _⟩)))
theorem rf_ctu {q : Nat → Nat} {d v : Nat} (hd : d < 6) (h0 : q d = 0) (hv : v ≠ 0) : rf_ct (fun e => if e = d then v else q e) = rf_ct q + 1 := by
  have hz : rf_nz 0 = 0 := rfl
  have h1 : rf_nz v = 1 := if_neg hv
  have hd : d = 0 ∨ d = 1 ∨ d = 2 ∨ d = 3 ∨ d = 4 ∨ d = 5 := by omega
  unfold rf_ct
  rcases hd with rfl | rfl | rfl | rfl | rfl | rfl <;> simp [h0, hz, h1] <;> omega
theorem rf_Kn {k wt c d : Nat} {q : Nat → Nat} {aw an ap al : Nat → Int32} (K : rf_K k wt c q aw an ap al) (hd : d < 6) (h0 : q d = 0) : c < 6 ∧ rf_K k wt (c + 1) (fun e => if e = d then c + 1 else q e) aw (upd an k (nI (c + 1))) (upd ap (6 * k + d) (nI (c + 1))) (upd al (6 * k + c) (nI d)) := by
  obtain ⟨w1, w2, n1, n2, d1, p1⟩ := K
  have hc := rf_ctu (v := c + 1) hd h0 (by omega)
  have h6 := rf_ct6 (fun e => if e = d then c + 1 else q e)
  have c6 : c < 6 := by omega
  refine ⟨c6, w1, w2, pk_us, by omega, fun e he => ?_, fun p hp => ?_⟩
  · dsimp only
    by_cases z : e = d
    · subst z
      rw [if_pos rfl]
      refine ⟨pk_us, by omega, fun p hp => ?_⟩
      have z2 : p = c := by omega
      rw [z2]
      exact pk_us
    · rw [if_neg z]
      obtain ⟨a1, a2, a3⟩ := d1 e he
      refine ⟨(pk_un (by omega)).trans a1, by omega, fun p hp => ?_⟩
      rw [pk_un (by omega)]
      exact a3 p hp
  · by_cases z : p = c
    · exact ⟨d, hd, by dsimp only; rw [if_pos rfl, z]⟩
    · obtain ⟨e, he, hq⟩ := p1 p (by omega)
      refine ⟨e, he, ?_⟩
      dsimp only
      rw [if_neg (fun y => by rw [y, h0] at hq; omega)]
      exact hq
theorem rf_bad {x : Int32} {m : Nat} {A : Prop} {B : Prop} (h : x < 0 ∨ nI m ≤ x) (a : A) : (x < 0 → A) ∧ (¬ x < 0 → ((nI m ≤ x → A) ∧ (¬ nI m ≤ x → B))) := by
  by_cases z : x < 0
  · exact br_t z a
  · rcases h with h | h
    · exact absurd h z
    · exact br_f z (br_t h a)
theorem rf_ok {m j : Nat} (hm : m ≤ 6) (hj : j < m) {A B C : Prop} (b : B) : (nI j < 0 → A) ∧ (¬ nI j < 0 → ((nI m ≤ nI j → C) ∧ (¬ nI m ≤ nI j → B))) :=
  br_f (nI_pos (by omega)) (br_f (nI_ge hj (by omega)) b)
theorem rf_ix2 (x : Int32) {n : Nat} (hn : n ≤ 6) : (x < 0 ∨ nI n ≤ x) ∨ ∃ j : Nat, j < n ∧ x = nI j := by
  rcases pk_ix x (n := n) (by omega) with h | h | h
  · exact Or.inl (Or.inl h)
  · exact Or.inl (Or.inr h)
  · exact Or.inr h
theorem i_vc_name {k : Nat} {u : SX} {v : SY} (I : i_Rel k u v) (hk : k + 3 ≤ 1537) (v1 : Int32) (v2 : Int32) : wpX_name (fun r u' => wpY_name (fun r' v' => r' = r ∧ i_Rel (k + 3) u' v') v v1 v2) u v1 v2 := by
  obtain ⟨n, m, wt, c, q, aw, an, ap, al, asd, aps, ao, rfl, rfl, Q⟩ := I
  have Q' := Q
  obtain ⟨n2, n6, m5, hK⟩ := Q'
  rcases rf_ix2 v1 (n := m) (by omega) with h1 | ⟨i, hi, rfl⟩
  · exact rf_bad h1 (br_t rfl (rf_bad h1 ⟨rfl, rf_mk _ Q _ _ _⟩))
  refine rf_ok (by omega) hi (br_f (by decide) ?_)
  rcases rf_ix2 v2 (n := n) (by omega) with h2 | ⟨d, hd, rfl⟩
  · exact rf_bad h2 (br_t rfl (rf_ok (by omega) hi (rf_bad h2 (br_t rfl ⟨rfl, rf_mk _ Q _ _ _⟩))))
  refine rf_ok n6 hd (br_f (by decide) ?_)
  have K := hK i hi
  have Kd := K.2.2.2.2.1 d (by omega)
  have Kc := K.2.2.2.1
  have c6 := rf_ct6 (q i)
  show vp_in (nI i * 6 + nI d) 30 ∧ _
  rw [rf_ix, nI_clamp (by omega), nI_clamp (by omega)]
  have hv : vp_in (nI i) 5 := vp_in_nI (by omega) (by decide)
  have h30 : vp_in (nI (6 * i + d)) 30 := vp_in_nI (by omega) (by decide)
  refine ⟨h30, ?_⟩
  rw [Kd.1]
  refine pk_eq (q i d) 0 (fun h0 => ?_) (fun h0 => ?_)
  · refine ⟨hv, hv, nm_e ⟨hv, h30, nm_e ?_⟩⟩
    obtain ⟨c7, K2⟩ := rf_Kn K (by omega) h0
    refine rf_ok (by omega) hi (rf_ok n6 hd (br_f (by decide) (rf_Yl K (by omega) (by omega) ?_)))
    rw [if_pos h0]
    refine br_f (by decide) ⟨hv, ?_⟩
    rw [nI_clamp (by omega), K.2.2.1, rf_iy, nI_clamp (by omega)]
    refine br_t (nI_lt (b := 6) c7 (by decide)) ⟨hv, vp_in_nI (by omega) (by decide), nm_e ⟨hv, hv, nm_e ⟨rfl, ?_⟩⟩⟩
    rw [nI_1, pk_us]
    refine rf_mk _ (n := n) (m := m) (wt := wt) (c := fun j => if j = i then c i + 1 else c j) (q := fun j => if j = i then (fun e => if e = d then c i + 1 else q i e) else q j) ⟨n2, n6, m5, ?_⟩ _ _ _
    intro j hj
    by_cases e : j = i
    · subst e
      dsimp only
      rw [if_pos rfl, if_pos rfl]
      exact K2
    · dsimp only
      rw [if_neg e, if_neg e]
      exact rf_Kc (hK j hj) rfl (pk_un e) (fun d' hd' => pk_un (by omega)) (fun d' hd' => pk_un (by omega))
  · refine rf_ok (by omega) hi (rf_ok n6 hd (br_f (by decide) (rf_Yl K (by omega) (by omega) ?_)))
    rw [if_neg h0]
    exact br_t (nI_lt (b := 6) (by omega) (by decide)) ⟨rfl, rf_mk _ Q _ _ _⟩
theorem i_vc_rankings {k : Nat} {u : SX} {v : SY} (I : i_Rel k u v) (hk : k + 3 ≤ 1537) : wpX_rankings (fun r => wpY_rankings (fun r' => r' = r ∧ i_Rel (k + 3) u v) v) u := by
  obtain ⟨n, m, wt, c, q, aw, an, ap, al, asd, aps, ao, rfl, rfl, Q⟩ := I
  exact ⟨rfl, rf_mk _ Q _ _ _⟩
end
section
def rf_sf (a : Nat → Int32) (k : Nat) : Nat → (Nat → Int32)
  | 0 => a
  | r + 1 => rf_sf (upd a k (a (k + 1))) (k + 1) r
theorem rf_sfv : ∀ r k (a : Nat → Int32) j, rf_sf a k r j = if k ≤ j ∧ j < k + r then a (j + 1) else a j := by
  intro r
  induction r with
  | zero => intro k a j; rw [if_neg (by omega)]; rfl
  | succ r ih =>
    intro k a j
    show rf_sf (upd a k (a (k + 1))) (k + 1) r j = _
    rw [ih]
    by_cases e : j = k
    · subst e
      rw [if_neg (by omega), if_pos (by omega), pk_us]
    · by_cases h : k ≤ j ∧ j < k + (r + 1)
      · rw [if_pos h, if_pos (by omega), pk_un (by omega)]
      · rw [if_neg h, if_neg (by omega), pk_un e]
theorem rf_cpX {post : SX → Prop} {f g : Int32} {k : Nat} (hk : k < 4) {aw an asd aps : Nat → Int32} {ap0 : Nat → Int32} (hp : ∀ ap' : Nat → Int32, (∀ i, i < 6 * k ∨ 6 * k + 6 ≤ i → ap' i = ap0 i) → (∀ i, 6 * k ≤ i → i < 6 * k + 6 → ap' i = ap0 (i + 6)) → post (f, g, upd aw k (aw (k + 1)), upd an k (an (k + 1)), ap', asd, aps)) : wpX_copyRanking post (f, g, aw, an, ap0, asd, aps) (nI (k + 1)) (nI k) := by
  have v1 : vp_in (nI (k + 1)) 5 := vp_in_nI (by omega) (by decide)
  have v0 : vp_in (nI k) 5 := vp_in_nI (by omega) (by decide)
  have key : ∀ r d (ap : Nat → Int32), d + r = 6 → (∀ i, i < 6 * k ∨ 6 * k + d ≤ i → ap i = ap0 i) → (∀ i, 6 * k ≤ i → i < 6 * k + d → ap i = ap0 (i + 6)) → wX_copyRanking_26 post (nI (k + 1)) (nI k) f g (r + 1) (nI d) (upd aw k (aw (k + 1))) (upd an k (an (k + 1))) ap asd aps := by
    intro r
    induction r with
    | zero =>
      intro d ap hd h1 h2
      have e : d = 6 := by omega
      subst e
      exact br_t (Int32.le_refl _) (hp ap h1 h2)
    | succ r ih =>
      intro d ap hd h1 h2
      refine br_f (nI_ge (b := 6) (by omega) (by decide)) ?_
      show vp_in (nI (k + 1) * 6 + nI d) 30 ∧ (vp_in (nI k * 6 + nI d) 30 ∧ _)
      rw [rf_ix, rf_ix]
      refine ⟨vp_in_nI (by omega) (by decide), vp_in_nI (by omega) (by decide), nm_e (nm_r (nI_1 d) (ih (d + 1) _ (by omega) ?_ ?_))⟩
      · intro i hi
        rw [nI_clamp (by omega), pk_un (by omega)]
        exact h1 i (by omega)
      · intro i h3 h4
        rw [nI_clamp (by omega), nI_clamp (by omega)]
        by_cases e : i = 6 * k + d
        · subst e
          rw [pk_us, h1 _ (by omega)]
          exact congrArg ap0 (by omega)
        · rw [pk_un e]
          exact h2 i h3 (by omega)
  have e := key 6 0 ap0 (by omega) (fun _ _ => rfl) (fun i h3 h4 => absurd h4 (by omega))
  refine ⟨v1, v0, ?_⟩
  rw [nI_clamp (by omega), nI_clamp (by omega)]
  exact nm_e ⟨v1, v0, nm_e ⟨7, e⟩⟩
theorem rf_Xrm {post : Int32 → SX → Prop} {n m : Nat} (m5 : m ≤ 5) {asd aps : Nat → Int32} : ∀ r k (aw an ap : Nat → Int32), k + r + 1 = m → (∀ ap' : Nat → Int32, (∀ i, i < 6 * k → ap' i = ap i) → (∀ i, 6 * k ≤ i → i < 6 * k + 6 * r → ap' i = ap (i + 6)) → post 1 (nI n, nI (m - 1), rf_sf aw k r, rf_sf an k r, ap', asd, aps)) → wX_remove_12 post (r + 1) (nI k) (nI n) (nI m) aw an ap asd aps := by
  intro r
  have em : ∀ k, k + 1 ≤ m → nI m - 1 = nI (m - 1) := by
    intro k h
    obtain ⟨m', rfl⟩ : ∃ m', m = m' + 1 := ⟨m - 1, by omega⟩
    rw [nI_pred, Nat.add_sub_cancel]
  induction r with
  | zero =>
    intro k aw an ap hk hp
    refine br_t ?_ (nm_r (em k (by omega)) (hp ap (fun _ _ => rfl) (fun i h3 h4 => absurd h4 (by omega))))
    rw [em k (by omega)]
    exact nI_le (by omega) (by omega)
  | succ r ih =>
    intro k aw an ap hk hp
    refine br_f ?_ ?_
    · rw [em k (by omega)]
      exact nI_ge (by omega) (by omega)
    rw [nI_1]
    refine rf_cpX (by omega) (fun ap1 h1 h2 => nm_e (ih (k + 1) _ _ _ (by omega) (fun ap' h3 h4 => ?_)))
    refine hp ap' (fun i hi => ?_) (fun i h5 h6 => ?_)
    · rw [h3 i (by omega), h1 i (by omega)]
    · by_cases e : i < 6 * k + 6
      · rw [h3 i (by omega), h2 i h5 e]
      · rw [h4 i (by omega) (by omega), h1 _ (by omega)]
theorem rf_Yrm {post : Int32 → SY → Prop} {n m : Nat} {fo : Int32} (m5 : m ≤ 5) {ao : Nat → Int32} : ∀ r k (aw an al : Nat → Int32), k + r + 1 = m → (∀ al' : Nat → Int32, (∀ i, i < 6 * k → al' i = al i) → (∀ i, 6 * k ≤ i → i < 6 * k + 6 * r → al' i = al (i + 6)) → post 1 (nI n, nI (m - 1), fo, rf_sf aw k r, rf_sf an k r, al', ao)) → wY_remove_16 post (nI n) (nI m) fo (r + 1) (nI k) aw an al ao := by
  intro r
  have em : ∀ k, k + 1 ≤ m → nI m - 1 = nI (m - 1) := by
    intro k h
    obtain ⟨m', rfl⟩ : ∃ m', m = m' + 1 := ⟨m - 1, by omega⟩
    rw [nI_pred, Nat.add_sub_cancel]
  induction r with
  | zero =>
    intro k aw an al hk hp
    refine br_t ?_ (nm_r (em k (by omega)) (hp al (fun _ _ => rfl) (fun i h3 h4 => absurd h4 (by omega))))
    rw [nI_1]
    exact nI_le (by omega) (by omega)
  | succ r ih =>
    intro k aw an al0 hk hp
    have v1 : vp_in (nI (k + 1)) 5 := vp_in_nI (by omega) (by decide)
    have v0 : vp_in (nI k) 5 := vp_in_nI (by omega) (by decide)
    have key : ∀ s d (al : Nat → Int32), d + s = 6 → (∀ i, i < 6 * k ∨ 6 * k + d ≤ i → al i = al0 i) → (∀ i, 6 * k ≤ i → i < 6 * k + d → al i = al0 (i + 6)) → wY_remove_56 post (wY_remove_16 post (nI n) (nI m) fo (r + 1)) (nI k) (nI n) (nI m) fo (s + 1) (nI d) (upd aw k (aw (k + 1))) (upd an k (an (k + 1))) al ao := by
      intro s
      induction s with
      | zero =>
        intro d al hd h1 h2
        have e : d = 6 := by omega
        subst e
        refine br_t (Int32.le_refl _) (nm_r (nI_1 k) (ih (k + 1) _ _ _ (by omega) (fun al' h3 h4 => ?_)))
        refine hp al' (fun i hi => ?_) (fun i h5 h6 => ?_)
        · rw [h3 i (by omega), h1 i (by omega)]
        · by_cases e : i < 6 * k + 6
          · rw [h3 i (by omega), h2 i h5 e]
          · rw [h4 i (by omega) (by omega), h1 _ (by omega)]
      | succ s ih2 =>
        intro d al hd h1 h2
        refine br_f (nI_ge (b := 6) (by omega) (by decide)) ?_
        have e6 : 6 * nI k + 6 + nI d = nI (6 * k + 6 + d) := by
          have z : 6 * nI k + 6 = nI (6 * k + 6) := rf_iy (d := 6)
          rw [z, nI_add]
        rw [e6, rf_iy]
        refine ⟨vp_in_nI (by omega) (by decide), vp_in_nI (by omega) (by decide), nm_e (nm_r (nI_1 d) (ih2 (d + 1) _ (by omega) ?_ ?_))⟩
        · intro i hi
          rw [nI_clamp (by omega), pk_un (by omega)]
          exact h1 i (by omega)
        · intro i h3 h4
          rw [nI_clamp (by omega), nI_clamp (by omega)]
          by_cases e : i = 6 * k + d
          · subst e
            rw [pk_us, h1 _ (by omega)]
            exact congrArg al0 (by omega)
          · rw [pk_un e]
            exact h2 i h3 (by omega)
    have e := key 6 0 al0 (by omega) (fun _ _ => rfl) (fun i h3 h4 => absurd h4 (by omega))
    refine br_f ?_ ?_
    · rw [nI_1]
      exact nI_ge (by omega) (by omega)
    rw [nI_1]
    refine ⟨v1, v0, ?_⟩
    rw [nI_clamp (by omega), nI_clamp (by omega)]
    exact nm_e ⟨v1, v0, nm_e ⟨7, e⟩⟩
theorem i_vc_remove {k : Nat} {u : SX} {v : SY} (I : i_Rel k u v) (hk : k + 3 ≤ 1537) (v1 : Int32) : wpX_remove (fun r u' => wpY_remove (fun r' v' => r' = r ∧ i_Rel (k + 3) u' v') v v1) u v1 := by
  obtain ⟨n, m, wt, c, q, aw, an, ap, al, asd, aps, ao, rfl, rfl, Q⟩ := I
  have Q' := Q
  obtain ⟨n2, n6, m5, hK⟩ := Q'
  rcases rf_ix2 v1 (n := m) (by omega) with h1 | ⟨i, hi, rfl⟩
  · refine rf_bad h1 (br_t rfl ?_)
    by_cases z : v1 < 0
    · exact br_t z ⟨rfl, rf_mk _ Q _ _ _⟩
    · rcases h1 with h1 | h1
      · exact absurd h1 z
      · exact br_f z (br_f (Int32.not_lt.mpr h1) ⟨rfl, rf_mk _ Q _ _ _⟩)
  · refine rf_ok (by omega) hi (br_f (by decide) ⟨m - 1 - i + 1, ?_⟩)
    refine rf_Xrm m5 (m - 1 - i) i aw an ap (by omega) (fun ap' h3 h4 => ?_)
    refine br_f (nI_pos (by omega)) (br_t (nI_lt hi (by omega)) ⟨m - 1 - i + 1, ?_⟩)
    refine rf_Yrm m5 (m - 1 - i) i aw an al (by omega) (fun al' h5 h6 => ⟨rfl, ?_⟩)
    refine rf_mk _ (n := n) (m := m - 1) (wt := fun j => if j < i then wt j else wt (j + 1)) (c := fun j => if j < i then c j else c (j + 1)) (q := fun j => if j < i then q j else q (j + 1)) ⟨n2, n6, by omega, ?_⟩ _ _ _
    intro j hj
    dsimp only
    by_cases e : j < i
    · rw [if_pos e, if_pos e, if_pos e]
      refine rf_Kc (hK j (by omega)) ?_ ?_ (fun d hd => h3 _ (by omega)) (fun d hd => h5 _ (by omega))
      · rw [rf_sfv, if_neg (by omega)]
      · rw [rf_sfv, if_neg (by omega)]
    · rw [if_neg e, if_neg e, if_neg e]
      refine rf_Kc (hK (j + 1) (by omega)) ?_ ?_ (fun d hd => ?_) (fun d hd => ?_)
      · rw [rf_sfv, if_pos (by omega)]
      · rw [rf_sfv, if_pos (by omega)]
      · rw [h4 _ (by omega) (by omega)]; exact congrArg ap (by omega)
      · rw [h6 _ (by omega) (by omega)]; exact congrArg al (by omega)
end
section
def rf_PX (n : Nat) (g : Int32) (aw an ap : Nat → Int32) (P : Nat → Nat → Nat) : Prop :=
  ∀ (asd aps : Nat → Int32) (a b : Nat) (post : Int32 → Prop), a < n → b < n → post (nI (P a b)) → wpX_preference post (nI n, g, aw, an, ap, asd, aps) (nI a) (nI b)
def rf_PY (n : Nat) (g fo : Int32) (aw an al : Nat → Int32) (P : Nat → Nat → Nat) : Prop :=
  ∀ (ao : Nat → Int32) (a b : Nat) (post : Int32 → Prop), a < n → b < n → a ≠ b → post (nI (P a b)) → wpY_prefers post (nI n, g, fo, aw, an, al, ao) (nI a) (nI b)
theorem rf_open {k : Nat} {u : SX} {v : SY} (I : i_Rel k u v) : ∃ (n : Nat) (g : Int32) (aw an ap al asd aps ao : Nat → Int32) (P : Nat → Nat → Nat), u = (nI n, g, aw, an, ap, asd, aps) ∧ v = (nI n, g, nI (rf_fc n), aw, an, al, ao) ∧ 2 ≤ n ∧ n ≤ 6 ∧ rf_PX n g aw an ap P ∧ rf_PY n g (nI (rf_fc n)) aw an al P ∧ (∀ a b, P a b ≤ 45) ∧ (∀ a, P a a = 0) ∧ (∀ k' asd' aps' ao', i_Rel k' (nI n, g, aw, an, ap, asd', aps') (nI n, g, nI (rf_fc n), aw, an, al, ao')) := by
  obtain ⟨n, m, wt, c, q, aw, an, ap, al, asd, aps, ao, h1, h2, Q⟩ := I
  have Q' := Q
  obtain ⟨n2, n6, m5, hK⟩ := Q'
  refine ⟨n, nI m, aw, an, ap, al, asd, aps, ao, fun a b => rf_P wt q a b m, h1, h2, n2, n6, ?_, ?_, ?_, ?_, ?_⟩
  · intro asd aps a b post ha hb hp
    exact rf_Xp Q (by omega) (by omega) hp
  · intro ao a b post ha hb hab hp
    exact rf_Yp Q ha hb hab hp
  · intro a b
    have := rf_Pb (wt := wt) q a b m (fun j hj => (hK j hj).2.1)
    dsimp only
    omega
  · intro a
    exact rf_Paa wt q a m
  · intro k' asd' aps' ao'
    exact rf_mk k' Q asd' aps' ao'
theorem rf_pr (x y : Int32) {n : Nat} (hn : n ≤ 6) : (x = y ∨ (x < 0 ∨ nI n ≤ x) ∨ ((∃ a, a < n ∧ x = nI a) ∧ (y < 0 ∨ nI n ≤ y))) ∨ ∃ a b : Nat, a < n ∧ b < n ∧ a ≠ b ∧ x = nI a ∧ y = nI b := by
  by_cases e : x = y
  · exact Or.inl (Or.inl e)
  rcases rf_ix2 x hn with h | ⟨a, ha, rfl⟩
  · exact Or.inl (Or.inr (Or.inl h))
  rcases rf_ix2 y hn with h | ⟨b, hb, rfl⟩
  · exact Or.inl (Or.inr (Or.inr ⟨⟨a, ha, rfl⟩, h⟩))
  · exact Or.inr ⟨a, b, ha, hb, fun z => e (by rw [z]), rfl, rfl⟩
theorem rf_Xpr0 {x y : Int32} {n : Nat} (hn : n ≤ 6) (h : x = y ∨ (x < 0 ∨ nI n ≤ x) ∨ ((∃ a, a < n ∧ x = nI a) ∧ (y < 0 ∨ nI n ≤ y))) {g : Int32} {aw an ap asd aps : Nat → Int32} {post : Int32 → Prop} (hp : post 0) : wpX_isPair post (nI n, g, aw, an, ap, asd, aps) x y := by
  by_cases e : x = y
  · exact br_t e hp
  · refine br_f e ?_
    rcases h with h | h | ⟨⟨a, ha, rfl⟩, h⟩
    · exact absurd h e
    · exact rf_bad h (br_t rfl hp)
    · exact rf_ok hn ha (br_f (by decide) (rf_bad h (br_t rfl hp)))
theorem rf_Xpr1 {a b n : Nat} (hn : n ≤ 6) (ha : a < n) (hb : b < n) (hab : a ≠ b) {g : Int32} {aw an ap asd aps : Nat → Int32} {post : Int32 → Prop} (hp : post 1) : wpX_isPair post (nI n, g, aw, an, ap, asd, aps) (nI a) (nI b) := by
  refine br_f ?_ (rf_ok hn ha (br_f (by decide) (rf_ok hn hb (br_f (by decide) hp))))
  rw [nI_eq (by omega) (by omega)]
  exact hab
theorem rf_Ypr0 {x y : Int32} {n : Nat} (hn : n ≤ 6) (h : x = y ∨ (x < 0 ∨ nI n ≤ x) ∨ ((∃ a, a < n ∧ x = nI a) ∧ (y < 0 ∨ nI n ≤ y))) {g fo : Int32} {aw an al ao : Nat → Int32} {B C : Prop} (hB : B) : (x = y → B) ∧ (¬ x = y → (wpY_document (fun r_2 => (((r_2 = 0 → B) ∧ (¬ r_2 = 0 → (wpY_document (fun r_11 => (((r_11 = 0 → B) ∧ (¬ r_11 = 0 → C)))) (nI n, g, fo, aw, an, al, ao) y))))) (nI n, g, fo, aw, an, al, ao) x)) := by
  by_cases e : x = y
  · exact br_t e hB
  · refine br_f e ?_
    rcases h with h | h | ⟨⟨a, ha, rfl⟩, h⟩
    · exact absurd h e
    · exact rf_bad h (br_t rfl hB)
    · exact rf_ok hn ha (br_f (by decide) (rf_bad h (br_t rfl hB)))
theorem rf_Ypr1 {a b n : Nat} (hn : n ≤ 6) (ha : a < n) (hb : b < n) (hab : a ≠ b) {g fo : Int32} {aw an al ao : Nat → Int32} {B C : Prop} (hC : C) : (nI a = nI b → B) ∧ (¬ nI a = nI b → (wpY_document (fun r_2 => (((r_2 = 0 → B) ∧ (¬ r_2 = 0 → (wpY_document (fun r_11 => (((r_11 = 0 → B) ∧ (¬ r_11 = 0 → C)))) (nI n, g, fo, aw, an, al, ao) (nI b)))))) (nI n, g, fo, aw, an, al, ao) (nI a))) := by
  refine br_f ?_ (rf_ok hn ha (br_f (by decide) (rf_ok hn hb (br_f (by decide) hC))))
  rw [nI_eq (by omega) (by omega)]
  exact hab
theorem i_vc_prefers {k : Nat} {u : SX} {v : SY} (I : i_Rel k u v) (hk : k + 3 ≤ 1537) (v1 : Int32) (v2 : Int32) : wpX_prefers (fun r => wpY_prefers (fun r' => r' = r ∧ i_Rel (k + 3) u v) v v1 v2) u v1 v2 := by
  obtain ⟨n, g, aw, an, ap, al, asd, aps, ao, P, rfl, rfl, n2, n6, HX, HY, P45, P0, R⟩ := rf_open I
  rcases rf_pr v1 v2 n6 with h | ⟨a, b, ha, hb, hab, rfl, rfl⟩
  · unfold wpX_prefers
    dsimp only
    refine rf_Xpr0 n6 h ?_
    refine br_t rfl ?_
    refine rf_Ypr0 n6 h ?_
    exact ⟨rfl, R _ _ _ _⟩
  · unfold wpX_prefers
    dsimp only
    refine rf_Xpr1 n6 ha hb hab ?_
    refine br_f (by decide) ?_
    refine HX _ _ _ _ _ ha hb ?_
    refine HY _ _ _ _ ha hb hab ?_
    exact ⟨rfl, R _ _ _ _⟩
def rf_sc (P : Nat → Nat → Nat) (d : Nat) : Nat → Int32
  | 0 => 0
  | j + 1 => rf_sc P d j + (nI (P d j) - nI (P j d))
def rf_ah (s : Nat → Int32) (d : Nat) : Nat → Nat
  | 0 => 0
  | b + 1 => rf_ah s d b + (if s d < s b ∨ (s b = s d ∧ b < d) then 1 else 0)
theorem rf_ahb (s : Nat → Int32) (d : Nat) : ∀ b, rf_ah s d b ≤ b ∧ (d < b → rf_ah s d b < b) := by
  intro b
  induction b with
  | zero => exact ⟨Nat.le_refl 0, fun h => absurd h (by omega)⟩
  | succ b ih =>
    obtain ⟨i1, i2⟩ := ih
    have e : rf_ah s d (b + 1) = rf_ah s d b + (if s d < s b ∨ (s b = s d ∧ b < d) then 1 else 0) := rfl
    by_cases z : d = b
    · subst z
      rw [if_neg (fun h => by
        rcases h with h | h
        · exact Int32.lt_irrefl h
        · exact absurd h.2 (by omega))] at e
      omega
    · by_cases y : s d < s b ∨ (s b = s d ∧ b < d)
      · rw [if_pos y] at e
        refine ⟨by omega, fun h => ?_⟩
        have := i2 (by omega)
        omega
      · rw [if_neg y] at e
        omega
def rf_sa (h : Nat → Nat) (v : Int32) : Nat → Nat → Int32
  | 0, _ => -1
  | r + 1, d => if nI (h d) = v then nI d else rf_sa h v r (d + 1)
section
variable {n : Nat} {g fo : Int32} {aw an ap al : Nat → Int32} {P : Nat → Nat → Nat}
theorem rf_Xs (n6 : n ≤ 6) (HX : rf_PX n g aw an ap P) {asd aps : Nat → Int32} {d : Nat} (hd : d < n) {post : Int32 → Prop} (hp : post (rf_sc P d n)) : wpX_scoreOf post (nI n, g, aw, an, ap, asd, aps) (nI d) := by
  have key : ∀ r j, j + r = n → wX_scoreOf_4 post (nI d) (nI n) g aw an ap asd aps (r + 1) (rf_sc P d j) (nI j) := by
    intro r
    induction r with
    | zero =>
      intro j hj
      have e : j = n := by omega
      subst e
      exact br_t (Int32.le_refl _) hp
    | succ r ih =>
      intro j hj
      refine br_f (nI_ge (by omega) (by omega)) (HX _ _ _ _ _ hd (by omega) (HX _ _ _ _ _ (by omega) hd ?_))
      exact nm_e (nm_r (nI_1 j) (ih (j + 1) (by omega)))
  exact ⟨n + 1, key n 0 (by omega)⟩
theorem rf_Ys (n6 : n ≤ 6) (HY : rf_PY n g fo aw an al P) (P0 : ∀ a, P a a = 0) {ao : Nat → Int32} {d : Nat} (hd : d < n) {post : Int32 → Prop} (hp : post (rf_sc P d n)) : wpY_score post (nI n, g, fo, aw, an, al, ao) (nI d) := by
  have key : ∀ r j, j + r = n → wY_score_16 post (nI d) (nI n) g fo aw an al ao (r + 1) (rf_sc P d j) (nI j) := by
    intro r
    induction r with
    | zero =>
      intro j hj
      have e : j = n := by omega
      subst e
      exact br_t (Int32.le_refl _) hp
    | succ r ih =>
      intro j hj
      refine br_f (nI_ge (by omega) (by omega)) ?_
      have i1 := ih (j + 1) (by omega)
      by_cases e : j = d
      · subst e
        have e2 : rf_sc P j (j + 1) = rf_sc P j j := by
          show rf_sc P j j + (nI (P j j) - nI (P j j)) = _
          rw [Int32.sub_self, Int32.add_zero]
        rw [e2] at i1
        exact br_t rfl (nm_r (nI_1 j) i1)
      · refine br_f (by rw [nI_eq (by omega) (by omega)]; exact e) (HY _ _ _ _ hd (by omega) (fun z => e z.symm) (HY _ _ _ _ (by omega) hd e ?_))
        refine nm_r (e' := rf_sc P d (j + 1)) ?_ (nm_r (nI_1 j) i1)
        show _ = rf_sc P d j + (nI (P d j) - nI (P j d))
        rw [Int32.sub_eq_add_neg, Int32.sub_eq_add_neg, Int32.add_assoc]
  exact rf_ok n6 hd (br_f (by decide) ⟨n + 1, key n 0 (by omega)⟩)
theorem rf_Xsp (n6 : n ≤ 6) (HX : rf_PX n g aw an ap P) {asd aps : Nat → Int32} {d : Nat} (hd : d < n) {post : Int32 → Prop} (hp : post (nI (rf_ah (fun j => rf_sc P j n) d n))) : wpX_scorePlace post (nI n, g, aw, an, ap, asd, aps) (nI d) := by
  have key : ∀ r b, b + r = n → wX_scorePlace_11 post (nI d) (rf_sc P d n) (nI n) g aw an ap asd aps (r + 1) (nI (rf_ah (fun j => rf_sc P j n) d b)) (nI b) := by
    intro r
    induction r with
    | zero =>
      intro b hb
      have e : b = n := by omega
      subst e
      exact br_t (Int32.le_refl _) hp
    | succ r ih =>
      intro b hb
      refine br_f (nI_ge (by omega) (by omega)) (rf_Xs n6 HX (by omega) ?_)
      have i1 := ih (b + 1) (by omega)
      have e : rf_ah (fun j => rf_sc P j n) d (b + 1) = rf_ah (fun j => rf_sc P j n) d b + (if rf_sc P d n < rf_sc P b n ∨ (rf_sc P b n = rf_sc P d n ∧ b < d) then 1 else 0) := rfl
      rw [e] at i1
      refine br_c (fun h1 => ?_) (fun h1 => br_c (fun h2 => ?_) (fun h2 => ?_))
      · rw [if_pos (Or.inl h1)] at i1
        exact nm_r (nI_1 _) (nm_r (nI_1 b) i1)
      · refine pk_le d b (fun h3 => ?_) (fun h3 => ?_)
        · rw [if_neg (fun z => z.elim h1 (fun y => absurd y.2 (by omega))), Nat.add_zero] at i1
          exact nm_r (nI_1 b) i1
        · rw [if_pos (Or.inr ⟨h2, h3⟩)] at i1
          exact nm_r (nI_1 _) (nm_r (nI_1 b) i1)
      · rw [if_neg (fun z => z.elim h1 (fun y => h2 y.1)), Nat.add_zero] at i1
        exact nm_r (nI_1 b) i1
  exact rf_Xs n6 HX hd ⟨n + 1, key n 0 (by omega)⟩
theorem rf_Xsa (n6 : n ≤ 6) (HX : rf_PX n g aw an ap P) {asd aps : Nat → Int32} {v : Int32} {post : Int32 → Prop} : ∀ r d, d + r = n → post (rf_sa (fun d => rf_ah (fun j => rf_sc P j n) d n) v r d) → wX_scoreAt_12 post v (nI n) g aw an ap asd aps (r + 1) (nI d) := by
  intro r
  induction r with
  | zero =>
    intro d hd hp
    have e : d = n := by omega
    subst e
    exact br_t (Int32.le_refl _) hp
  | succ r ih =>
    intro d hd hp
    refine br_f (nI_ge (by omega) (by omega)) (rf_Xsp n6 HX (by omega) ?_)
    unfold rf_sa at hp
    refine br_c (fun h => ?_) (fun h => nm_r (nI_1 d) (ih (d + 1) (by omega) ?_))
    · rw [if_pos h] at hp; exact hp
    · rw [if_neg h] at hp; exact hp
theorem rf_Ysa (n6 : n ≤ 6) (HY : rf_PY n g fo aw an al P) (P0 : ∀ a, P a a = 0) {ao : Nat → Int32} {v : Int32} {post : Int32 → Prop} : ∀ r d, d + r = n → post (rf_sa (fun d => rf_ah (fun j => rf_sc P j n) d n) v r d) → wY_scoreAt_2 post v (nI n) g fo aw an al ao (r + 1) (nI d) := by
  intro r
  induction r with
  | zero =>
    intro d hd hp
    have e : d = n := by omega
    subst e
    exact br_t (Int32.le_refl _) hp
  | succ r ih =>
    intro d hd hp
    have key : ∀ t b, b + t = n → wY_scoreAt_22 post (wY_scoreAt_2 post v (nI n) g fo aw an al ao (r + 1)) v (nI d) (rf_sc P d n) (nI n) g fo aw an al ao (t + 1) (nI (rf_ah (fun j => rf_sc P j n) d b)) (nI b) := by
      intro t
      induction t with
      | zero =>
        intro b hb
        have e : b = n := by omega
        subst e
        refine br_t (Int32.le_refl _) ?_
        unfold rf_sa at hp
        refine br_c (fun h => ?_) (fun h => nm_r (nI_1 d) (ih (d + 1) (by omega) ?_))
        · rw [if_pos h] at hp; exact hp
        · rw [if_neg h] at hp; exact hp
      | succ t ih2 =>
        intro b hb
        refine br_f (nI_ge (by omega) (by omega)) (rf_Ys n6 HY P0 (by omega) ?_)
        have i1 := ih2 (b + 1) (by omega)
        have e : rf_ah (fun j => rf_sc P j n) d (b + 1) = rf_ah (fun j => rf_sc P j n) d b + (if rf_sc P d n < rf_sc P b n ∨ (rf_sc P b n = rf_sc P d n ∧ b < d) then 1 else 0) := rfl
        rw [e] at i1
        refine br_c (fun h1 => ?_) (fun h1 => br_c (fun h2 => ?_) (fun h2 => ?_))
        · rw [if_pos (Or.inl h1)] at i1
          exact nm_r (nI_1 _) (nm_r (nI_1 b) i1)
        · refine pk_le d b (fun h3 => ?_) (fun h3 => ?_)
          · rw [if_neg (fun z => z.elim h1 (fun y => absurd y.2 (by omega))), Nat.add_zero] at i1
            exact nm_r (Int32.add_zero _) (nm_r (nI_1 b) i1)
          · rw [if_pos (Or.inr ⟨h2, h3⟩)] at i1
            exact nm_r (nI_1 _) (nm_r (nI_1 b) i1)
        · rw [if_neg (fun z => z.elim h1 (fun y => h2 y.1)), Nat.add_zero] at i1
          exact nm_r (Int32.add_zero _) (nm_r (nI_1 b) i1)
    exact br_f (nI_ge (by omega) (by omega)) (rf_Ys n6 HY P0 (by omega) ⟨n + 1, key n 0 (by omega)⟩)
end
theorem rf_sab {n : Nat} (n6 : n ≤ 6) {h : Nat → Nat} {v : Int32} (hb : v < 0 ∨ nI n ≤ v) : ∀ r d, (∀ j, j < n → h j < n) → d + r = n → rf_sa h v r d = -1 := by
  intro r
  induction r with
  | zero => intro d _ _; rfl
  | succ r ih =>
    intro d hh hd
    unfold rf_sa
    have hj := hh d (by omega)
    rw [if_neg, ih (d + 1) hh (by omega)]
    intro z
    rw [← z] at hb
    rcases hb with hb | hb
    · exact nI_pos (by omega) hb
    · exact nI_ge hj (by omega) hb
theorem i_vc_score {k : Nat} {u : SX} {v : SY} (I : i_Rel k u v) (hk : k + 3 ≤ 1537) (v1 : Int32) : wpX_score (fun r => wpY_score (fun r' => r' = r ∧ i_Rel (k + 3) u v) v v1) u v1 := by
  obtain ⟨n, g, aw, an, ap, al, asd, aps, ao, P, rfl, rfl, n2, n6, HX, HY, P45, P0, R⟩ := rf_open I
  rcases rf_ix2 v1 n6 with h | ⟨d, hd, rfl⟩
  · exact rf_bad h (br_t rfl (rf_bad h (br_t rfl ⟨rfl, R _ _ _ _⟩)))
  · exact rf_ok n6 hd (br_f (by decide) (rf_Xs n6 HX hd (rf_Ys n6 HY P0 hd ⟨rfl, R _ _ _ _⟩)))
theorem i_vc_scoreAt {k : Nat} {u : SX} {v : SY} (I : i_Rel k u v) (hk : k + 3 ≤ 1537) (v1 : Int32) : wpX_scoreAt (fun r => wpY_scoreAt (fun r' => r' = r ∧ i_Rel (k + 3) u v) v v1) u v1 := by
  obtain ⟨n, g, aw, an, ap, al, asd, aps, ao, P, rfl, rfl, n2, n6, HX, HY, P45, P0, R⟩ := rf_open I
  rcases rf_ix2 v1 n6 with h | ⟨d, hd, rfl⟩
  · refine rf_bad h (br_t rfl ⟨n + 1, rf_Ysa n6 HY P0 n 0 (by omega) ⟨?_, R _ _ _ _⟩⟩)
    exact rf_sab n6 h n 0 (fun j hj => (rf_ahb _ j n).2 hj) (by omega)
  · exact rf_ok n6 hd (br_f (by decide) ⟨n + 1, rf_Xsa n6 HX n 0 (by omega) ⟨n + 1, rf_Ysa n6 HY P0 n 0 (by omega) ⟨rfl, R _ _ _ _⟩⟩⟩)
end
section
theorem pk_least (P : Nat → Prop) (h : ∃ k, P k) : ∃ k, P k ∧ ∀ j, j < k → ¬ P j := by
  obtain ⟨k, hk⟩ := h
  induction k using Nat.strongRecOn with
  | ind k ih =>
    by_cases e : ∃ j, j < k ∧ P j
    · obtain ⟨j, hj, pj⟩ := e
      exact ih j hj pj
    · exact ⟨k, hk, fun j hj pj => e ⟨j, hj, pj⟩⟩
def rf_Dm (P : Nat → Nat → Nat) (n S : Nat) : Prop := ∀ a, a < n → ∀ b, b < n → S.testBit a = true → ¬ S.testBit b = true → P b a < P a b
theorem rf_Xh {S d : Nat} (hS : S < 64) (hd : d < 6) {post : Int32 → Prop} (h1 : S.testBit d = true → post 1) (h0 : ¬ S.testBit d = true → post 0) : wpX_has post (nI S) (nI d) :=
  br_c (fun h => h1 ((rf_has S hS d hd).mp h)) (fun h => h0 (fun z => h ((rf_has S hS d hd).mpr z)))
section
variable {n : Nat} {g fo : Int32} {aw an ap al : Nat → Int32} {P : Nat → Nat → Nat}
theorem rf_Xbt (HX : rf_PX n g aw an ap P) (P45 : ∀ a b, P a b ≤ 45) {asd aps : Nat → Int32} {a b : Nat} (ha : a < n) (hb : b < n) {post : Int32 → Prop} (h1 : P b a < P a b → post 1) (h0 : P a b ≤ P b a → post 0) : wpX_beats post (nI n, g, aw, an, ap, asd, aps) (nI a) (nI b) := by
  have p1 := P45 a b
  have p2 := P45 b a
  refine HX _ _ _ _ _ ha hb ?_
  refine HX _ _ _ _ _ hb ha ?_
  exact pk_le (P a b) (P b a) h0 h1
theorem rf_Ybt (HY : rf_PY n g fo aw an al P) (P45 : ∀ a b, P a b ≤ 45) {ao : Nat → Int32} {a b : Nat} (ha : a < n) (hb : b < n) (hab : a ≠ b) {post : Int32 → Prop} (h1 : P b a < P a b → post 1) (h0 : P a b ≤ P b a → post 0) : wpY_beats post (nI n, g, fo, aw, an, al, ao) (nI a) (nI b) := by
  have p1 := P45 a b
  have p2 := P45 b a
  unfold wpY_beats
  dsimp only
  refine HY _ _ _ _ ha hb hab ?_
  refine HY _ _ _ _ hb ha (fun z => hab z.symm) ?_
  exact pk_le (P a b) (P b a) h0 h1
theorem rf_Xdm (n6 : n ≤ 6) (HX : rf_PX n g aw an ap P) (P45 : ∀ a b, P a b ≤ 45) {asd aps : Nat → Int32} {S : Nat} (hS : S < 64) {post : Int32 → Prop} (h1 : rf_Dm P n S → post 1) (h0 : ¬ rf_Dm P n S → post 0) : wpX_isDominant post (nI n, g, aw, an, ap, asd, aps) (nI S) := by
  have key : ∀ r a, a + r = n → (∀ a', a' < a → ∀ b, b < n → S.testBit a' = true → ¬ S.testBit b = true → P b a' < P a' b) → wX_isDominant_2 post (nI S) (nI n) g aw an ap asd aps (r + 1) (nI a) := by
    intro r
    induction r with
    | zero =>
      intro a ha h
      have e : a = n := by omega
      subst e
      exact br_t (Int32.le_refl _) (h1 h)
    | succ r ih =>
      intro a ha h
      refine br_f (nI_ge (by omega) (by omega)) ?_
      have key2 : ∀ t b, b + t = n → (∀ b', b' < b → S.testBit a = true → ¬ S.testBit b' = true → P b' a < P a b') → wX_isDominant_12 post (wX_isDominant_2 post (nI S) (nI n) g aw an ap asd aps (r + 1)) (nI S) (nI a) (nI n) g aw an ap asd aps (t + 1) (nI b) := by
        intro t
        induction t with
        | zero =>
          intro b hb h2
          have e : b = n := by omega
          subst e
          exact br_t (Int32.le_refl _) (nm_r (nI_1 a) (ih (a + 1) (by omega) (ax_lt1 h h2)))
        | succ t ih2 =>
          intro b hb h2
          refine br_f (nI_ge (by omega) (by omega)) ?_
          refine rf_Xh hS (by omega) (fun z => ?_) (fun z => ?_)
          · refine br_f (by decide) ?_
            refine rf_Xh hS (by omega) (fun y => ?_) (fun y => ?_)
            · refine br_f (by decide) (nm_r (nI_1 b) (ih2 (b + 1) (by omega) (ax_lt1 h2 (fun _ w => absurd y w))))
            · refine br_t rfl ?_
              refine rf_Xbt HX P45 (by omega) (by omega) (fun w => ?_) (fun w => ?_)
              · exact br_f (by decide) (nm_r (nI_1 b) (ih2 (b + 1) (by omega) (ax_lt1 h2 (fun _ _ => w))))
              · refine br_t rfl (h0 (fun D => ?_))
                have := D a (by omega) b (by omega) z y
                omega
          · exact br_t rfl (nm_r (nI_1 b) (ih2 (b + 1) (by omega) (ax_lt1 h2 (fun w => absurd w z))))
      exact ⟨n + 1, key2 n 0 (by omega) (fun b' hb' => absurd hb' (by omega))⟩
  exact ⟨n + 1, key n 0 (by omega) (fun b' hb' => absurd hb' (by omega))⟩
theorem rf_Ydm (n6 : n ≤ 6) (HY : rf_PY n g fo aw an al P) (P45 : ∀ a b, P a b ≤ 45) {ao : Nat → Int32} {S : Nat} (hS : S < 64) {post : Int32 → Prop} (h1 : rf_Dm P n S → post 1) (h0 : ¬ rf_Dm P n S → post 0) : wpY_top post (nI n, g, fo, aw, an, al, ao) (nI S) := by
  have key : ∀ r a x, a + r = n → ((x = 1 ∧ ∀ a', a' < a → ∀ b, b < n → S.testBit a' = true → ¬ S.testBit b = true → P b a' < P a' b) ∨ (x = 0 ∧ ¬ rf_Dm P n S)) → wY_top_4 post (nI S) (nI n) g fo aw an al ao (r + 1) x (nI a) := by
    intro r
    induction r with
    | zero =>
      intro a x ha h
      have e : a = n := by omega
      subst e
      refine br_t (Int32.le_refl _) ?_
      rcases h with ⟨rfl, h⟩ | ⟨rfl, h⟩
      · exact ⟨lw_bz_n 1, h1 h⟩
      · exact ⟨lw_bz_n 0, h0 h⟩
    | succ r ih =>
      intro a x ha h
      refine br_f (nI_ge (by omega) (by omega)) ?_
      have key2 : ∀ t b x, b + t = n → ((x = 1 ∧ (∀ a', a' < a → ∀ b, b < n → S.testBit a' = true → ¬ S.testBit b = true → P b a' < P a' b) ∧ ∀ b', b' < b → S.testBit a = true → ¬ S.testBit b' = true → P b' a < P a b') ∨ (x = 0 ∧ ¬ rf_Dm P n S)) → wY_top_15 post (wY_top_4 post (nI S) (nI n) g fo aw an al ao (r + 1)) (nI S) (nI a) (nI n) g fo aw an al ao (t + 1) x (nI b) := by
        intro t
        induction t with
        | zero =>
          intro b x hb h2
          have e : b = n := by omega
          subst e
          refine br_t (Int32.le_refl _) (nm_r (nI_1 a) (ih (a + 1) x (by omega) ?_))
          rcases h2 with ⟨e, h3, h4⟩ | h2
          · exact Or.inl ⟨e, ax_lt1 h3 h4⟩
          · exact Or.inr h2
        | succ t ih2 =>
          intro b x hb h2
          refine br_f (nI_ge (by omega) (by omega)) ?_
          have go : (S.testBit a = true → ¬ S.testBit b = true → P b a < P a b) → wY_top_15 post (wY_top_4 post (nI S) (nI n) g fo aw an al ao (r + 1)) (nI S) (nI a) (nI n) g fo aw an al ao (t + 1) x (nI (b + 1)) := by
            intro w
            refine ih2 (b + 1) x (by omega) ?_
            rcases h2 with ⟨e, h3, h4⟩ | h2
            · exact Or.inl ⟨e, h3, ax_lt1 h4 w⟩
            · exact Or.inr h2
          have ha6 := rf_has S hS a (by omega)
          have hb6 := rf_hs0 S hS b (by omega)
          refine br_c (fun z => ?_) (fun z => nm_r (nI_1 b) (go (fun w => absurd (ha6.mpr w) z)))
          refine br_c (fun y => ?_) (fun y => nm_r (nI_1 b) (go (fun _ w => absurd (hb6.mpr w) y)))
          have z' := ha6.mp z
          have y' := hb6.mp y
          rcases h2 with ⟨rfl, h3, h4⟩ | ⟨rfl, h2⟩
          · refine br_f (by decide) ?_
            refine rf_Ybt HY P45 (by omega) (by omega) (fun (e : a = b) => y' (e ▸ z')) (fun w => ?_) (fun w => ?_)
            · exact br_f (by decide) (nm_r (nI_1 b) (go (fun _ _ => w)))
            · refine br_t rfl (nm_r (nI_1 b) (ih2 (b + 1) 0 (by omega) (Or.inr ⟨rfl, fun D => ?_⟩)))
              have := D a (by omega) b (by omega) z' y'
              omega
          · exact br_t rfl (nm_r (nI_1 b) (ih2 (b + 1) 0 (by omega) (Or.inr ⟨rfl, h2⟩)))
      refine ⟨n + 1, key2 n 0 x (by omega) ?_⟩
      rcases h with ⟨e, h⟩ | h
      · exact Or.inl ⟨e, h, fun b' hb' => absurd hb' (by omega)⟩
      · exact Or.inr h
  exact ⟨n + 1, key n 0 1 (by omega) (Or.inl ⟨rfl, fun b' hb' => absurd hb' (by omega)⟩)⟩
theorem rf_cp (n6 : n ≤ 6) (HX : rf_PX n g aw an ap P) (HY : rf_PY n g fo aw an al P) (P45 : ∀ a b, P a b ≤ 45) {asd aps ao : Nat → Int32} : ∀ r d, d + r = n → ∃ x : Int32, (∀ post : Int32 → Prop, post x → wX_champion_2 post (nI n) g aw an ap asd aps (r + 1) (nI d)) ∧ (∀ post : Int32 → Prop, post x → wY_champion_2 post (nI n) g fo aw an al ao (r + 1) (nI d)) := by
  intro r
  induction r with
  | zero =>
    intro d hd
    have e : d = n := by omega
    subst e
    exact ⟨-1, fun post hp => br_t (Int32.le_refl _) hp, fun post hp => br_t (Int32.le_refl _) hp⟩
  | succ r ih =>
    intro d hd
    obtain ⟨x, i1, i2⟩ := ih (d + 1) (by omega)
    have e := rf_sh d (by omega)
    have hS := rf_p6 d (by omega)
    by_cases D : rf_Dm P n (2 ^ d)
    · refine ⟨nI d, fun post hp => br_f (nI_ge (by omega) (by omega)) (nm_r e ?_), fun post hp => br_f (nI_ge (by omega) (by omega)) ?_⟩
      · exact rf_Xdm n6 HX P45 hS (fun _ => br_f (by decide) hp) (fun z => absurd D z)
      · rw [e]
        exact rf_Ydm n6 HY P45 hS (fun _ => br_f (by decide) hp) (fun z => absurd D z)
    · refine ⟨x, fun post hp => br_f (nI_ge (by omega) (by omega)) (nm_r e ?_), fun post hp => br_f (nI_ge (by omega) (by omega)) ?_⟩
      · exact rf_Xdm n6 HX P45 hS (fun z => absurd z D) (fun _ => br_t rfl (nm_r (nI_1 d) (i1 post hp)))
      · rw [e]
        exact rf_Ydm n6 HY P45 hS (fun z => absurd z D) (fun _ => br_t rfl (nm_r (nI_1 d) (i2 post hp)))
theorem rf_Ysz {g : Int32} {n : Int32} {ao : Nat → Int32} {S : Nat} (hS : S < 64) {post : Int32 → Prop} (hp : post (nI (rf_sz S))) : wpY_sizeOf post (n, g, fo, aw, an, al, ao) (nI S) := by
  have key : ∀ r d, d + r = 6 → wY_sizeOf_4 post (nI S) n g fo aw an al ao (r + 1) (nI (rf_sm (fun _ => 1) S d)) (nI d) := by
    intro r
    induction r with
    | zero =>
      intro d hd
      have e : d = 6 := by omega
      subst e
      exact br_t (Int32.le_refl _) hp
    | succ r ih =>
      intro d hd
      refine br_f (nI_ge (b := 6) (by omega) (by decide)) (nm_r (e' := nI (rf_sm (fun _ => 1) S (d + 1))) ?_ (nm_r (nI_1 d) (ih (d + 1) (by omega))))
      rw [rf_hsv S hS d (by omega), nI_add]
      rfl
  exact ⟨7, key 6 0 (by omega)⟩
end
theorem rf_chn {P : Nat → Nat → Nat} {n S T : Nat} (n6 : n ≤ 6) (hS : S < 2 ^ n) (hT : T < 2 ^ n) (D1 : rf_Dm P n S) (D2 : rf_Dm P n T) : S &&& T = S ∨ T &&& S = T := by
  have p := (rf_p2 n (by omega)).1
  by_cases h1 : S &&& T = S
  · exact Or.inl h1
  by_cases h2 : T &&& S = T
  · exact Or.inr h2
  obtain ⟨a, -, a1, a2⟩ := rf_ch3 (by omega) (by omega) h1
  obtain ⟨b, -, b1, b2⟩ := rf_ch3 (by omega) (by omega) h2
  have x1 := D1 a (rf_bl hS a1) b (rf_bl hT b1) a1 b2
  have x2 := D2 b (rf_bl hT b1) a (rf_bl hS a1) b1 a2
  omega
theorem i_vc_champion {k : Nat} {u : SX} {v : SY} (I : i_Rel k u v) (hk : k + 3 ≤ 1537) : wpX_champion (fun r => wpY_champion (fun r' => r' = r ∧ i_Rel (k + 3) u v) v) u := by
  obtain ⟨n, g, aw, an, ap, al, asd, aps, ao, P, rfl, rfl, n2, n6, HX, HY, P45, P0, R⟩ := rf_open I
  obtain ⟨x, h1, h2⟩ := rf_cp (asd := asd) (aps := aps) (ao := ao) n6 HX HY P45 n 0 (by omega)
  exact ⟨n + 1, h1 _ ⟨n + 1, h2 _ ⟨rfl, R _ _ _ _⟩⟩⟩
theorem i_vc_topSet {k : Nat} {u : SX} {v : SY} (I : i_Rel k u v) (hk : k + 3 ≤ 1537) : wpX_topSet (fun r => wpY_topSet (fun r' => r' = r ∧ i_Rel (k + 3) u v) v) u := by
  obtain ⟨n, g, aw, an, ap, al, asd, aps, ao, P, rfl, rfl, n2, n6, HX, HY, P45, P0, R⟩ := rf_open I
  have p2 := rf_p2 n (by omega)
  have e1 := rf_all n (by omega)
  have e2 := rf_sh n (by omega)
  have p4 : 2 ^ 2 ≤ 2 ^ n := Nat.pow_le_pow_right (by omega) n2
  have Da : rf_Dm P n (2 ^ n - 1) := fun a _ b hb _ z => absurd ((rf_t11 n (by omega) b (by omega)).mpr hb) z
  obtain ⟨F, ⟨F1, DF⟩, Fm⟩ := pk_least (fun S => 1 ≤ S ∧ rf_Dm P n S) ⟨2 ^ n - 1, by omega, Da⟩
  have Fa : F ≤ 2 ^ n - 1 := by
    apply Classical.byContradiction
    intro z
    exact Fm (2 ^ n - 1) (by omega) ⟨by omega, Da⟩
  have X : ∀ (post : Int32 → Prop), post (nI F) → ∀ r S, S + r = 2 ^ n - 1 → 1 ≤ S → S ≤ F → wX_topSet_7 post (nI (2 ^ n - 1)) (nI n) g aw an ap asd aps (r + 1) (nI S) := by
    intro post hp r
    induction r with
    | zero =>
      intro S hS S1 SF
      have e : 2 ^ n - 1 = F := by omega
      have e3 : S = F := by omega
      rw [e, e3]
      exact br_t (Int32.le_refl _) hp
    | succ r ih =>
      intro S hS S1 SF
      refine br_f (nI_ge (by omega) (by omega)) ?_
      refine rf_Xdm n6 HX P45 (by omega) (fun D => ?_) (fun D => ?_)
      · have e3 : S = F := by
          apply Classical.byContradiction
          intro z
          exact Fm S (by omega) ⟨S1, D⟩
        rw [e3]
        exact br_f (by decide) hp
      · have e3 : S ≠ F := fun z => D (z ▸ DF)
        exact br_t rfl (nm_r (nI_1 S) (ih (S + 1) (by omega) (by omega) (by omega)))
  have Y : ∀ (post : Int32 → Prop), post (nI F) → ∀ r S B, S + r = 2 ^ n → 1 ≤ S → ((S ≤ F ∧ B = 2 ^ n - 1) ∨ (F < S ∧ B = F)) → wY_topSet_11 post (nI n) g (nI (rf_fc n)) aw an al ao (r + 1) (nI B) (nI S) := by
    intro post hp r
    induction r with
    | zero =>
      intro S B hS S1 h
      have e : S = 2 ^ n := by omega
      have e3 : B = F := by omega
      rw [e3]
      refine br_t ?_ hp
      rw [e2, e]
      exact Int32.le_refl _
    | succ r ih =>
      intro S B hS S1 h
      refine br_f ?_ ?_
      · rw [e2]
        exact nI_ge (by omega) (by omega)
      refine rf_Ydm n6 HY P45 (by omega) (fun D => ?_) (fun D => ?_)
      · refine br_f (by decide) ?_
        refine rf_Ysz (by omega) ?_
        refine rf_Ysz (by omega) ?_
        have s1 := (rf_t9 S (by omega)).1
        have s2 := (rf_t9 B (by omega)).1
        have SF : F ≤ S := by
          apply Classical.byContradiction
          intro z
          exact Fm S (by omega) ⟨S1, D⟩
        have cF : F &&& S = F := by
          rcases rf_chn n6 (by omega) (by omega) DF D with c | c
          · exact c
          · have c2 := rf_ch S (by omega) F (by omega) c
            have e3 : S = F := by omega
            rw [e3, Nat.and_self]
        have c2 := rf_ch F (by omega) S (by omega) cF
        refine pk_le (rf_sz B) (rf_sz S) (fun w => nm_r (nI_1 S) (ih (S + 1) B (by omega) (by omega) ?_)) (fun w => nm_r (nI_1 S) (ih (S + 1) S (by omega) (by omega) ?_))
        · right
          refine ⟨by omega, ?_⟩
          rcases h with h | h
          · have e3 : S = F := by omega
            have cA : F &&& (2 ^ n - 1) = F := by
              rcases rf_chn n6 (by omega) (by omega) DF Da with c | c
              · exact c
              · have c3 := rf_ch (2 ^ n - 1) (by omega) F (by omega) c
                have e4 : F = 2 ^ n - 1 := by omega
                rw [← e4, Nat.and_self]
            have c3 := rf_ch F (by omega) (2 ^ n - 1) (by omega) cA
            rw [h.2, e3] at w
            rw [h.2]
            exact (c3.2.2 w).symm
          · exact h.2
        · right
          rcases h with h | h
          · omega
          · rw [h.2] at w
            omega
      · refine br_t rfl (nm_r (nI_1 S) (ih (S + 1) B (by omega) (by omega) ?_))
        have e3 : S ≠ F := fun z => D (z ▸ DF)
        omega
  unfold wpX_topSet wpX_allDocuments
  dsimp only
  rw [e1]
  refine ⟨2 ^ n - 1 - 1 + 1, X _ ?_ (2 ^ n - 1 - 1) 1 (by omega) (by omega) F1⟩
  refine nm_r e1 ⟨2 ^ n - 1 + 1, Y _ ?_ (2 ^ n - 1) 1 _ (by omega) (by omega) (Or.inl ⟨F1, rfl⟩)⟩
  exact ⟨rfl, R _ _ _ _⟩
end
section
def rf_E (P : Nat → Nat → Nat) (s x y : Nat) : Prop := s ≤ P x y ∧ P y x < P x y
def rf_R (P : Nat → Nat → Nat) (n s a b : Nat) : Prop := ∀ Q : Nat → Prop, Q a → (∀ x y, x < n → y < n → Q x → rf_E P s x y → Q y) → Q b
def rf_T (n : Nat) (t : Nat → Int32) (D : Nat → Nat → Nat) : Prop := ∀ a, a < n → ∀ b, b < n → t (6 * a + b) = nI (D a b)
def rf_D0 (P : Nat → Nat → Nat) (a b : Nat) : Nat := if P b a < P a b then P a b else 0
def rf_N (D : Nat → Nat → Nat) (m a b : Nat) : Nat := max (D a b) (min (D a m) (D m b))
def rf_I (P : Nat → Nat → Nat) (n m : Nat) (D : Nat → Nat → Nat) : Prop :=
  (∀ a b, a < n → b < n → D a b ≤ 45) ∧ (∀ s a b, 1 ≤ s → a < n → b < n → s ≤ D a b → rf_R P n s a b) ∧ (∀ a b, a < n → b < n → rf_D0 P a b ≤ D a b) ∧ (∀ m', m' < m → ∀ a b, a < n → b < n → min (D a m') (D m' b) ≤ D a b)
def rf_V (P : Nat → Nat → Nat) (n : Nat) (D : Nat → Nat → Nat) : Prop :=
  (∀ a b, a < n → b < n → D a b ≤ 45) ∧ (∀ s a b, 1 ≤ s → a < n → b < n → a ≠ b → (s ≤ D a b ↔ rf_R P n s a b))
theorem rf_Rt {P : Nat → Nat → Nat} {n s a b c : Nat} (h1 : rf_R P n s a b) (h2 : rf_R P n s b c) : rf_R P n s a c :=
  fun Q qa hc => h2 Q (h1 Q qa hc) hc
theorem rf_I0 {P : Nat → Nat → Nat} {n : Nat} (P45 : ∀ a b, P a b ≤ 45) : rf_I P n 0 (rf_D0 P) := by
  refine ⟨fun a b _ _ => ?_, fun s a b hs ha hb h => ?_, fun a b _ _ => Nat.le_refl _, fun m' h => absurd h (by omega)⟩
  · have := P45 a b
    unfold rf_D0
    split <;> omega
  · unfold rf_D0 at h
    by_cases z : P b a < P a b
    · rw [if_pos z] at h
      exact fun Q qa hc => hc a b ha hb qa ⟨h, z⟩
    · rw [if_neg z] at h
      omega
theorem rf_IN {P : Nat → Nat → Nat} {n m : Nat} {D : Nat → Nat → Nat} (hm : m < n) (h : rf_I P n m D) : rf_I P n (m + 1) (rf_N D m) := by
  obtain ⟨h1, h2, h3, h4⟩ := h
  refine ⟨fun a b ha hb => ?_, fun s a b hs ha hb h => ?_, fun a b ha hb => ?_, fun m' hm' a b ha hb => ?_⟩
  · have x1 := h1 a b ha hb
    have x2 := h1 a m ha hm
    unfold rf_N
    omega
  · unfold rf_N at h
    by_cases z : s ≤ D a b
    · exact h2 s a b hs ha hb z
    · exact rf_Rt (h2 s a m hs ha hm (by omega)) (h2 s m b hs hm hb (by omega))
  · have x1 := h3 a b ha hb
    unfold rf_N
    omega
  · unfold rf_N
    by_cases z : m' = m
    · subst z
      omega
    · have x1 := h4 m' (by omega) a b ha hb
      have x2 := h4 m' (by omega) a m ha hm
      have x3 := h4 m' (by omega) m b hm hb
      omega
theorem rf_IV {P : Nat → Nat → Nat} {n : Nat} {D : Nat → Nat → Nat} (h : rf_I P n n D) : rf_V P n D := by
  obtain ⟨h1, h2, h3, h4⟩ := h
  refine ⟨h1, fun s a b hs ha hb hab => ⟨h2 s a b hs ha hb, fun h => ?_⟩⟩
  have z := h (fun x => x = a ∨ (x < n ∧ s ≤ D a x)) (Or.inl rfl) (fun x y hx hy qx e => ?_)
  · rcases z with z | z
    · exact absurd z.symm hab
    · exact z.2
  · right
    refine ⟨hy, ?_⟩
    have d0 := h3 x y hx hy
    unfold rf_D0 at d0
    rw [if_pos e.2] at d0
    have e1 := e.1
    rcases qx with rfl | qx
    · omega
    · have x1 := h4 x hx a y ha hy
      omega
def rf_C (D : Nat → Nat → Nat) (m a b a' b' : Nat) : Nat := if a' < a ∨ (a' = a ∧ b' < b) then rf_N D m a' b' else D a' b'
theorem rf_Cm (D : Nat → Nat → Nat) (m a b a' : Nat) : rf_C D m a b a' m = D a' m := by
  unfold rf_C rf_N
  split <;> omega
theorem rf_Cm2 (D : Nat → Nat → Nat) (m a b b' : Nat) : rf_C D m a b m b' = D m b' := by
  unfold rf_C rf_N
  split <;> omega
section
variable {n : Nat} {g fo : Int32} {aw an ap al : Nat → Int32} {P : Nat → Nat → Nat}
theorem rf_Xw (n6 : n ≤ 6) {asd aps : Nat → Int32} {D : Nat → Nat → Nat} (D45 : ∀ a b, a < n → b < n → D a b ≤ 45) {m a b : Nat} (hm : m < n) (ha : a < n) (hb : b < n) (T : rf_T n aps (rf_C D m a b)) {post : SX → Prop} (hp : ∀ aps', rf_T n aps' (rf_C D m a (b + 1)) → post (nI n, g, aw, an, ap, asd, aps')) : wpX_weighPathThrough post (nI n, g, aw, an, ap, asd, aps) (nI m) (nI a) (nI b) := by
  have t1 : aps (6 * a + m) = nI (D a m) := by rw [T a ha m hm, rf_Cm]
  have t2 : aps (6 * m + b) = nI (D m b) := by rw [T m hm b hb, rf_Cm2]
  have t3 : aps (6 * a + b) = nI (D a b) := by
    rw [T a ha b hb]
    unfold rf_C
    rw [if_neg (by omega)]
  have b1 := D45 a m ha hm
  have b2 := D45 m b hm hb
  have b3 := D45 a b ha hb
  have last : ∀ w, w = min (D a m) (D m b) → wX_weighPathThrough_38 post (nI a) (nI b) (nI w) (nI n) g aw an ap asd aps := by
    intro w hw
    unfold wX_weighPathThrough_38 wpX_pairIndex
    dsimp only
    rw [rf_ix, nI_clamp (by omega), t3]
    refine ⟨vp_in_nI (by omega) (by decide), pk_le w (D a b) (fun z => hp aps ?_) (fun z => ⟨vp_in_nI (by omega) (by decide), nm_e (hp _ ?_)⟩)⟩
    · intro a' ha' b' hb'
      rw [T a' ha' b' hb']
      unfold rf_C
      by_cases e : a' = a ∧ b' = b
      · obtain ⟨rfl, rfl⟩ := e
        rw [if_neg (by omega), if_pos (by omega)]
        unfold rf_N
        congr 1
        omega
      · by_cases y : a' < a ∨ (a' = a ∧ b' < b)
        · rw [if_pos y, if_pos (by omega)]
        · rw [if_neg y, if_neg (by omega)]
    · intro a' ha' b' hb'
      by_cases e : a' = a ∧ b' = b
      · obtain ⟨rfl, rfl⟩ := e
        rw [pk_us]
        unfold rf_C
        rw [if_pos (by omega)]
        unfold rf_N
        congr 1
        omega
      · rw [pk_un (by omega), T a' ha' b' hb']
        unfold rf_C
        by_cases y : a' < a ∨ (a' = a ∧ b' < b)
        · rw [if_pos y, if_pos (by omega)]
        · rw [if_neg y, if_neg (by omega)]
  unfold wpX_weighPathThrough wpX_pairIndex
  dsimp only
  rw [rf_ix, rf_ix, nI_clamp (by omega), nI_clamp (by omega), t1, t2]
  refine ⟨vp_in_nI (by omega) (by decide), nm_e ⟨vp_in_nI (by omega) (by decide), nm_e ?_⟩⟩
  exact pk_le (D m b) (D a m) (fun z => last _ (by omega)) (fun z => last _ (by omega))
theorem rf_Xfw (n6 : n ≤ 6) {asd : Nat → Int32} {post : SX → Prop} (hp : ∀ aps' D, rf_T n aps' D → rf_V P n D → post (nI n, g, aw, an, ap, asd, aps')) : ∀ r m (aps : Nat → Int32) (D : Nat → Nat → Nat), m + r = n → rf_T n aps D → rf_I P n m D → wX_fillPathStrengths_63 post (r + 1) (nI m) (nI n) g aw an ap asd aps := by
  intro r
  induction r with
  | zero =>
    intro m aps D hm T I
    have e : m = n := by omega
    subst e
    exact br_t (Int32.le_refl _) (hp aps D T (rf_IV I))
  | succ r ih =>
    intro m aps D hm T I
    refine br_f (nI_ge (by omega) (by omega)) ?_
    have key : ∀ t a (aps : Nat → Int32), a + t = n → rf_T n aps (rf_C D m a 0) → wX_fillPathStrengths_73 post (wX_fillPathStrengths_63 post (r + 1)) (nI m) (t + 1) (nI a) (nI n) g aw an ap asd aps := by
      intro t
      induction t with
      | zero =>
        intro a aps ha T
        have e : a = n := by omega
        subst e
        refine br_t (Int32.le_refl _) (nm_r (nI_1 m) (ih (m + 1) aps (rf_N D m) (by omega) ?_ (rf_IN (by omega) I)))
        intro a' ha' b' hb'
        rw [T a' ha' b' hb']
        unfold rf_C
        rw [if_pos (by omega)]
      | succ t ih2 =>
        intro a aps ha T
        refine br_f (nI_ge (by omega) (by omega)) ?_
        have key2 : ∀ w b (aps : Nat → Int32), b + w = n → rf_T n aps (rf_C D m a b) → wX_fillPathStrengths_83 post (wX_fillPathStrengths_63 post (r + 1)) (wX_fillPathStrengths_73 post (wX_fillPathStrengths_63 post (r + 1)) (nI m) (t + 1)) (nI m) (nI a) (w + 1) (nI b) (nI n) g aw an ap asd aps := by
          intro w
          induction w with
          | zero =>
            intro b aps hb T
            have e : b = n := by omega
            subst e
            refine br_t (Int32.le_refl _) (nm_r (nI_1 a) (ih2 (a + 1) aps (by omega) ?_))
            intro a' ha' b' hb'
            rw [T a' ha' b' hb']
            unfold rf_C
            by_cases y : a' < a ∨ (a' = a ∧ b' < b)
            · rw [if_pos y, if_pos (by omega)]
            · rw [if_neg y, if_neg (by omega)]
          | succ w ih3 =>
            intro b aps hb T
            refine br_f (nI_ge (by omega) (by omega)) ?_
            exact rf_Xw n6 I.1 (by omega) (by omega) (by omega) T (fun aps' T' => nm_r (nI_1 b) (ih3 (b + 1) aps' (by omega) T'))
        exact ⟨n + 1, key2 n 0 aps (by omega) T⟩
    refine ⟨n + 1, key n 0 aps (by omega) ?_⟩
    intro a' ha' b' hb'
    rw [T a' ha' b' hb']
    unfold rf_C
    rw [if_neg (by omega)]
theorem rf_Xfp (n6 : n ≤ 6) (HX : rf_PX n g aw an ap P) (P45 : ∀ a b, P a b ≤ 45) {asd aps : Nat → Int32} {post : SX → Prop} (hp : ∀ aps' D, rf_T n aps' D → rf_V P n D → post (nI n, g, aw, an, ap, asd, aps')) : wpX_fillPathStrengths post (nI n, g, aw, an, ap, asd, aps) := by
  have key : ∀ t a (aps : Nat → Int32), a + t = n → (∀ a', a' < a → ∀ b', b' < n → aps (6 * a' + b') = nI (rf_D0 P a' b')) → wX_fillPathStrengths_2 post (nI n) g (t + 1) (nI a) aw an ap asd aps := by
    intro t
    induction t with
    | zero =>
      intro a aps ha T
      have e : a = n := by omega
      subst e
      exact br_t (Int32.le_refl _) ⟨a + 1, rf_Xfw n6 hp a 0 aps (rf_D0 P) (by omega) T (rf_I0 P45)⟩
    | succ t ih =>
      intro a aps ha T
      refine br_f (nI_ge (by omega) (by omega)) ?_
      have key2 : ∀ w b (aps : Nat → Int32), b + w = n → (∀ a', a' < a → ∀ b', b' < n → aps (6 * a' + b') = nI (rf_D0 P a' b')) → (∀ b', b' < b → aps (6 * a + b') = nI (rf_D0 P a b')) → wX_fillPathStrengths_12 post (wX_fillPathStrengths_2 post (nI n) g (t + 1)) (nI a) (nI n) g (w + 1) (nI b) aw an ap asd aps := by
        intro w
        induction w with
        | zero =>
          intro b aps hb T1 T2
          have e : b = n := by omega
          subst e
          exact br_t (Int32.le_refl _) (nm_r (nI_1 a) (ih (a + 1) aps (by omega) (ax_lt1 T1 T2)))
        | succ w ih2 =>
          intro b aps hb T1 T2
          refine br_f (nI_ge (by omega) (by omega)) ?_
          have go : ∀ v, v = nI (rf_D0 P a b) → wX_fillPathStrengths_12 post (wX_fillPathStrengths_2 post (nI n) g (t + 1)) (nI a) (nI n) g (w + 1) (nI (b + 1)) aw an ap asd (upd aps (nI (6 * a + b)).toNatClampNeg v) := by
            intro v hv
            rw [nI_clamp (by omega)]
            refine ih2 (b + 1) _ (by omega) (fun a' ha' b' hb' => ?_) (ax_lt1 (fun b' hb' => ?_) ?_)
            · rw [pk_un (by omega)]
              exact T1 a' ha' b' hb'
            · rw [pk_un (by omega)]
              exact T2 b' hb'
            · rw [pk_us, hv]
          unfold wpX_pairIndex
          rw [rf_ix]
          have hv : vp_in (nI (6 * a + b)) 36 := vp_in_nI (by omega) (by decide)
          refine rf_Xbt HX P45 (by omega) (by omega) (fun z => ?_) (fun z => ?_)
          · refine br_f (by decide) ?_
            refine HX _ _ _ _ _ (by omega) (by omega) ?_
            refine ⟨hv, nm_e (nm_r (nI_1 b) (go _ ?_))⟩
            unfold rf_D0
            rw [if_pos z]
          · refine br_t rfl ⟨hv, nm_e (nm_r (nI_1 b) (go _ ?_))⟩
            unfold rf_D0
            rw [if_neg (by omega)]
            rfl
      exact ⟨n + 1, key2 n 0 aps (by omega) T (fun b' hb' => absurd hb' (by omega))⟩
  exact ⟨n + 1, key n 0 aps (by omega) (fun b' hb' => absurd hb' (by omega))⟩
end
end
section
def rf_Cl (P : Nat → Nat → Nat) (n s S : Nat) : Prop := ∀ x y, x < n → y < n → S.testBit x = true → rf_E P s x y → S.testBit y = true
section
variable {n : Nat} {g fo : Int32} {aw an ap al : Nat → Int32} {P : Nat → Nat → Nat}
theorem rf_adl : ∀ n, n < 7 → ∀ S, S < 64 → ∀ d, d < n → S < 2 ^ n → rf_ad S d < 2 ^ n := by decide +kernel
theorem rf_2l : ∀ n, n < 7 → ∀ d, d < n → 2 ^ d < 2 ^ n := by decide +kernel
theorem rf_Yr (n6 : n ≤ 6) (HY : rf_PY n g fo aw an al P) (P45 : ∀ a b, P a b ≤ 45) {ao : Nat → Int32} {a s : Nat} (ha : a < n) (hs : s ≤ 45) {post : Int32 → Prop} (hp : ∀ S, S < 64 → (∀ b, b < n → (S.testBit b = true ↔ rf_R P n s a b)) → post (nI S)) : wpY_reached post (nI n, g, fo, aw, an, al, ao) (nI a) (nI s) := by
  have p2 := rf_p2 n (by omega)
  have key : ∀ r p S, p + r = 6 → S < 2 ^ n → S.testBit a = true → (∀ b, b < n → S.testBit b = true → rf_R P n s a b) → (rf_Cl P n s S ∨ p + 1 ≤ rf_sz S) → wY_reached_7 post (nI s) (nI n) g fo aw an al ao (r + 1) (nI S) (nI p) := by
    intro r
    induction r with
    | zero =>
      intro p S hr S2 Sa SR h
      have e : p = 6 := by omega
      subst e
      refine br_t (Int32.le_refl _) (hp S (by omega) (fun b hb => ⟨SR b hb, fun w => ?_⟩))
      have s6 := (rf_t9 S (by omega)).1
      rcases h with h | h
      · exact w (fun x => S.testBit x = true) Sa (fun x y hx hy qx e => h x y hx hy qx e)
      · omega
    | succ r ih =>
      intro p S0 hr S2 Sa SR h
      refine br_f (nI_ge (b := 6) (by omega) (by decide)) ?_
      have key2 : ∀ t c S, c + t = 36 → S < 2 ^ n → S.testBit a = true → (∀ b, b < n → S.testBit b = true → rf_R P n s a b) → ((S = S0 ∧ ∀ c', c' < c → S0.testBit (c' / 6) = true → ¬ S0.testBit (c' % 6) = true → c' % 6 < n → ¬ rf_E P s (c' / 6) (c' % 6)) ∨ (rf_sz S0 < rf_sz S ∧ ¬ rf_Cl P n s S0)) → wY_reached_17 post (wY_reached_7 post (nI s) (nI n) g fo aw an al ao (r + 1)) (nI s) (nI p) (nI n) g fo aw an al ao (t + 1) (nI S) (nI c) := by
        intro t
        induction t with
        | zero =>
          intro c S ht S2 Sa SR h3
          have e : c = 36 := by omega
          subst e
          refine br_t (Int32.le_refl _) (nm_r (nI_1 p) (ih (p + 1) S (by omega) S2 Sa SR ?_))
          rcases h3 with ⟨rfl, h3⟩ | ⟨h3, h4⟩
          · left
            intro x y hx hy sx e
            apply Classical.byContradiction
            intro z
            have w := h3 (6 * x + y) (by omega)
            rw [show (6 * x + y) / 6 = x by omega, show (6 * x + y) % 6 = y by omega] at w
            exact w sx z hy e
          · right
            rcases h with h | h
            · exact absurd h h4
            · omega
        | succ t ih2 =>
          intro c S ht S2 Sa SR h3
          have go : (S = S0 → S0.testBit (c / 6) = true → ¬ S0.testBit (c % 6) = true → c % 6 < n → ¬ rf_E P s (c / 6) (c % 6)) → wY_reached_17 post (wY_reached_7 post (nI s) (nI n) g fo aw an al ao (r + 1)) (nI s) (nI p) (nI n) g fo aw an al ao (t + 1) (nI S) (nI (c + 1)) := by
            intro w
            refine ih2 (c + 1) S (by omega) S2 Sa SR ?_
            rcases h3 with ⟨e, h3⟩ | h3
            · exact Or.inl ⟨e, ax_lt1 h3 (w e)⟩
            · exact Or.inr h3
          have e1 : nI c / 6 = nI (c / 6) := pk_div (d := 6) (by omega) (by decide) (by decide)
          have e2 : nI c - nI c / 6 * 6 = nI (c % 6) := pk_rem (d := 6) (by omega) (by decide) (by decide)
          refine br_f (nI_ge (b := 36) (by omega) (by decide)) ⟨by decide, nm_r e1 ⟨by decide, nm_r e2 ?_⟩⟩
          have hx6 := rf_has S (by omega) (c / 6) (by omega)
          have hy6 := rf_hs0 S (by omega) (c % 6) (by omega)
          refine br_c (fun z => ?_) (fun z => nm_r (nI_1 c) (go (fun e w => absurd (hx6.mpr (e ▸ w)) z)))
          refine br_c (fun y => ?_) (fun y => nm_r (nI_1 c) (go (fun e _ w => absurd (hy6.mpr (e ▸ w)) y)))
          have z' := hx6.mp z
          have y' := hy6.mp y
          have xn := rf_bl S2 z'
          refine pk_le n (c % 6) (fun w => nm_r (nI_1 c) (go (fun _ _ _ w2 => absurd w2 (by omega)))) (fun yn => ?_)
          have xy : c / 6 ≠ c % 6 := fun e => y' (e ▸ z')
          have p45 := P45 (c / 6) (c % 6)
          refine HY _ _ _ _ xn yn xy ?_
          refine pk_lt (P (c / 6) (c % 6)) s (fun w => nm_r (nI_1 c) (go (fun _ _ _ _ w2 => absurd w2.1 (by omega)))) (fun q1 => ?_)
          refine rf_Ybt HY P45 xn yn xy (fun q2 => ?_) (fun q2 => ?_)
          · refine br_f (by decide) (nm_r (rf_wi S (by omega) (c % 6) (by omega)) (nm_r (nI_1 c) (ih2 (c + 1) _ (by omega) (rf_adl n (by omega) S (by omega) _ yn S2) ?_ ?_ ?_)))
            · exact (rf_t7 S (by omega) (c % 6) (by omega) a (by omega)).mpr (Or.inl Sa)
            · intro b hb hb2
              rcases (rf_t7 S (by omega) (c % 6) (by omega) b (by omega)).mp hb2 with w | w
              · exact SR b hb w
              · rw [w]
                exact fun Q qa hc => hc _ _ xn yn (SR _ xn z' Q qa hc) ⟨q1, q2⟩
            · right
              have sz := rf_t8 S (by omega) (c % 6) (by omega) y'
              rcases h3 with ⟨rfl, h3⟩ | ⟨h3, h4⟩
              · exact ⟨by omega, fun C => y' (C _ _ xn yn z' ⟨q1, q2⟩)⟩
              · exact ⟨by omega, h4⟩
          · refine br_t rfl (nm_r (nI_1 c) (go (fun _ _ _ _ w2 => absurd w2.2 (by omega))))
      refine ⟨37, key2 36 0 S0 (by omega) S2 Sa SR (Or.inl ⟨rfl, fun c' hc' => absurd hc' (by omega)⟩)⟩
  refine nm_r (rf_sh a (by omega)) ⟨7, key 6 0 (2 ^ a) (by omega) (rf_2l n (by omega) a ha) ?_ (fun b hb h => ?_) ?_⟩
  · exact (rf_t12 a (by omega) a (by omega)).mpr rfl
  · rw [(rf_t12 a (by omega) b (by omega)).mp h]
    exact fun Q qa hc => qa
  · rw [rf_t13 a (by omega)]
    exact Or.inr (by omega)
theorem rf_Yst (n6 : n ≤ 6) (HY : rf_PY n g fo aw an al P) (P45 : ∀ a b, P a b ≤ 45) {D : Nat → Nat → Nat} (V : rf_V P n D) {ao : Nat → Int32} {a b : Nat} (ha : a < n) (hb : b < n) (hab : a ≠ b) {post : Int32 → Prop} (hp : post (nI (D a b))) : wpY_strength post (nI n, g, fo, aw, an, al, ao) (nI a) (nI b) := by
  have key : ∀ s, s ≤ 45 → D a b ≤ s → wY_strength_26 post (nI a) (nI b) (nI n) g fo aw an al ao (s + 1) (nI s) := by
    intro s
    induction s with
    | zero =>
      intro _ h
      have e : D a b = 0 := by omega
      rw [e] at hp
      exact br_t (by decide) hp
    | succ s ih =>
      intro hs h
      refine br_f (nI_nlt (b := 1) (by omega) (by omega)) ?_
      refine rf_Yr n6 HY P45 ha hs (fun S hS hR => ?_)
      have v := V.2 (s + 1) a b (by omega) ha hb hab
      refine br_c (fun z => ?_) (fun z => nm_r (pk_m1 s) (ih (by omega) ?_))
      · have w := v.mpr ((hR b hb).mp ((rf_has S hS b (by omega)).mp z))
        have e : D a b = s + 1 := by omega
        rw [e] at hp
        exact hp
      · have w : ¬ s + 1 ≤ D a b := fun w => z ((rf_has S hS b (by omega)).mpr ((hR b hb).mpr (v.mp w)))
        omega
  unfold wpY_strength
  dsimp only
  refine rf_Ypr1 n6 ha hb hab ?_
  exact ⟨46, key 45 (by omega) (V.1 a b ha hb)⟩
theorem rf_Xpw (n6 : n ≤ 6) {D : Nat → Nat → Nat} (V : rf_V P n D) {asd aps : Nat → Int32} (T : rf_T n aps D) {a : Nat} (ha : a < n) {post : Int32 → Prop} (h1 : (∀ b, b < n → D b a ≤ D a b) → post 1) (h0 : ¬ (∀ b, b < n → D b a ≤ D a b) → post 0) : wpX_isPathWinner post (nI n, g, aw, an, ap, asd, aps) (nI a) := by
  have key : ∀ r b, b + r = n → (∀ b', b' < b → D b' a ≤ D a b') → wX_isPathWinner_2 post (nI a) (nI n) g aw an ap asd aps (r + 1) (nI b) := by
    intro r
    induction r with
    | zero =>
      intro b hb h
      have e : b = n := by omega
      subst e
      exact br_t (Int32.le_refl _) (h1 h)
    | succ r ih =>
      intro b hb h
      refine br_f (nI_ge (by omega) (by omega)) ?_
      unfold wpX_pairIndex
      dsimp only
      have v1 := V.1 a b ha (by omega)
      have v2 := V.1 b a (by omega) ha
      rw [rf_ix, rf_ix, nI_clamp (by omega), nI_clamp (by omega), T a ha b (by omega), T b (by omega) a ha]
      refine ⟨vp_in_nI (by omega) (by decide), vp_in_nI (by omega) (by decide), ?_⟩
      refine pk_le (D b a) (D a b) (fun w => nm_r (nI_1 b) (ih (b + 1) (by omega) (ax_lt1 h w))) (fun w => h0 (fun z => ?_))
      have := z b (by omega)
      omega
  exact ⟨n + 1, key n 0 (by omega) (fun b' hb' => absurd hb' (by omega))⟩
theorem rf_Ypw (n6 : n ≤ 6) (HY : rf_PY n g fo aw an al P) (P45 : ∀ a b, P a b ≤ 45) {D : Nat → Nat → Nat} (V : rf_V P n D) {ao : Nat → Int32} {a : Nat} (ha : a < n) {post : Int32 → Prop} {J4 : Int32 → Int32 → Prop} {S : Nat} (hS : S < 64) (h1 : (∀ b, b < n → D b a ≤ D a b) → J4 (nI (rf_ad S a)) (nI (a + 1))) (h0 : ¬ (∀ b, b < n → D b a ≤ D a b) → J4 (nI S) (nI (a + 1))) : ∃ w : Nat, wY_pathWinners_17 post J4 (nI S) (nI a) (nI n) g fo aw an al ao w 1 0 := by
  have key : ∀ r b x, b + r = n → ((x = 1 ∧ ∀ b', b' < b → D b' a ≤ D a b') ∨ (x = 0 ∧ ¬ (∀ b, b < n → D b a ≤ D a b))) → wY_pathWinners_17 post J4 (nI S) (nI a) (nI n) g fo aw an al ao (r + 1) x (nI b) := by
    intro r
    induction r with
    | zero =>
      intro b x hb h
      have e : b = n := by omega
      subst e
      refine br_t (Int32.le_refl _) ?_
      rcases h with ⟨rfl, h⟩ | ⟨rfl, h⟩
      · exact br_f (by decide) (nm_r (rf_wi S hS a (by omega)) (nm_r (nI_1 a) (h1 h)))
      · exact br_t rfl (nm_r (nI_1 a) (h0 h))
    | succ r ih =>
      intro b x hb h
      refine br_f (nI_ge (by omega) (by omega)) ?_
      by_cases e : a = b
      · subst e
        refine br_t rfl (br_t rfl ?_)
        rcases h with ⟨rfl, h⟩ | ⟨rfl, h⟩
        · exact br_f (by decide) (br_f (by decide) (nm_r (nI_1 a) (ih (a + 1) 1 (by omega) (Or.inl ⟨rfl, ax_lt1 h (Nat.le_refl _)⟩))))
        · exact br_t rfl (nm_r (nI_1 a) (ih (a + 1) 0 (by omega) (Or.inr ⟨rfl, h⟩)))
      · have v1 := V.1 a b ha (by omega)
        have v2 := V.1 b a (by omega) ha
        refine rf_Yst n6 HY P45 V ha (by omega) e ?_
        refine rf_Yst n6 HY P45 V (by omega) ha (fun z => e z.symm) ?_
        rcases h with ⟨rfl, h⟩ | ⟨rfl, h⟩
        · refine br_f (by decide) (pk_lt (D a b) (D b a) (fun w => nm_r (nI_1 b) (ih (b + 1) 0 (by omega) (Or.inr ⟨rfl, fun z => ?_⟩))) (fun w => nm_r (nI_1 b) (ih (b + 1) 1 (by omega) (Or.inl ⟨rfl, ax_lt1 h w⟩))))
          have := z b (by omega)
          omega
        · exact br_t rfl (nm_r (nI_1 b) (ih (b + 1) 0 (by omega) (Or.inr ⟨rfl, h⟩)))
  exact ⟨n + 1, key n 0 1 (by omega) (Or.inl ⟨rfl, fun b' hb' => absurd hb' (by omega)⟩)⟩
theorem rf_pws (n6 : n ≤ 6) (HY : rf_PY n g fo aw an al P) (P45 : ∀ a b, P a b ≤ 45) {D : Nat → Nat → Nat} (V : rf_V P n D) {asd aps ao : Nat → Int32} (T : rf_T n aps D) : ∀ r a S, a + r = n → S < 64 → ∃ x : Int32, (∀ post : Int32 → SX → Prop, post x (nI n, g, aw, an, ap, asd, aps) → wX_pathWinners_8 post (nI n) g aw an ap asd aps (r + 1) (nI S) (nI a)) ∧ (∀ post : Int32 → Prop, post x → wY_pathWinners_4 post (nI n) g fo aw an al ao (r + 1) (nI S) (nI a)) := by
  intro r
  induction r with
  | zero =>
    intro a S ha hS
    have e : a = n := by omega
    subst e
    exact ⟨nI S, fun post hp => br_t (Int32.le_refl _) hp, fun post hp => br_t (Int32.le_refl _) hp⟩
  | succ r ih =>
    intro a S ha hS
    by_cases W : ∀ b, b < n → D b a ≤ D a b
    · obtain ⟨x, i1, i2⟩ := ih (a + 1) (rf_ad S a) (by omega) (rf_t6 S hS a (by omega)).2.1
      refine ⟨x, fun post hp => br_f (nI_ge (by omega) (by omega)) ?_, fun post hp => br_f (nI_ge (by omega) (by omega)) ?_⟩
      · refine rf_Xpw n6 V T (by omega) (fun _ => ?_) (fun z => absurd W z)
        exact br_f (by decide) (nm_r (rf_wi S hS a (by omega)) (nm_r (nI_1 a) (i1 post hp)))
      · exact rf_Ypw n6 HY P45 V (by omega) hS (fun _ => i2 post hp) (fun z => absurd W z)
    · obtain ⟨x, i1, i2⟩ := ih (a + 1) S (by omega) hS
      refine ⟨x, fun post hp => br_f (nI_ge (by omega) (by omega)) ?_, fun post hp => br_f (nI_ge (by omega) (by omega)) ?_⟩
      · refine rf_Xpw n6 V T (by omega) (fun z => absurd z W) (fun _ => ?_)
        exact br_t rfl (nm_r (nI_1 a) (i1 post hp))
      · exact rf_Ypw n6 HY P45 V (by omega) hS (fun z => absurd z W) (fun _ => i2 post hp)
end
theorem i_vc_strength {k : Nat} {u : SX} {v : SY} (I : i_Rel k u v) (hk : k + 3 ≤ 1537) (v1 : Int32) (v2 : Int32) : wpX_strength (fun r u' => wpY_strength (fun r' => r' = r ∧ i_Rel (k + 3) u' v) v v1 v2) u v1 v2 := by
  obtain ⟨n, g, aw, an, ap, al, asd, aps, ao, P, rfl, rfl, n2, n6, HX, HY, P45, P0, R⟩ := rf_open I
  unfold wpX_strength
  dsimp only
  rcases rf_pr v1 v2 n6 with h | ⟨a, b, ha, hb, hab, rfl, rfl⟩
  · refine rf_Xpr0 n6 h ?_
    refine br_t rfl ?_
    refine rf_Ypr0 n6 h ?_
    exact ⟨rfl, R _ _ _ _⟩
  · refine rf_Xpr1 n6 ha hb hab ?_
    refine br_f (by decide) ?_
    refine rf_Xfp n6 HX P45 (fun aps' D T V => ?_)
    unfold wpX_pairIndex
    dsimp only
    rw [rf_ix, nI_clamp (by omega), T a ha b hb]
    refine ⟨vp_in_nI (by omega) (by decide), ?_⟩
    exact rf_Yst n6 HY P45 V ha hb hab ⟨rfl, R _ _ _ _⟩
theorem i_vc_pathWinners {k : Nat} {u : SX} {v : SY} (I : i_Rel k u v) (hk : k + 3 ≤ 1537) : wpX_pathWinners (fun r u' => wpY_pathWinners (fun r' => r' = r ∧ i_Rel (k + 3) u' v) v) u := by
  obtain ⟨n, g, aw, an, ap, al, asd, aps, ao, P, rfl, rfl, n2, n6, HX, HY, P45, P0, R⟩ := rf_open I
  unfold wpX_pathWinners
  dsimp only
  refine rf_Xfp n6 HX P45 (fun aps' D T V => ?_)
  obtain ⟨x, h1, h2⟩ := rf_pws (ap := ap) (asd := asd) (ao := ao) n6 HY P45 V T n 0 0 (by omega) (by omega)
  exact ⟨n + 1, h1 _ ⟨n + 1, h2 _ ⟨rfl, R _ _ _ _⟩⟩⟩
end
section
def rf_ld (P : Nat → Nat → Nat) (d R : Nat) : Nat := rf_sm (fun x => P x d) R 6
def rf_ds (P : Nat → Nat → Nat) : Nat → Nat → Nat → Nat
  | 0, _, _ => 0
  | j + 1, S, c => rf_ld P (rf_nt S (c / rf_fc j)) (rf_rm S (rf_nt S (c / rf_fc j))) + rf_ds P j (rf_rm S (rf_nt S (c / rf_fc j))) (c % rf_fc j)
def rf_od : Nat → Nat → Nat → Nat → Nat
  | 0, _, _, _ => 0
  | j + 1, S, c, k => if k = 0 then rf_nt S (c / rf_fc j) else rf_od j (rf_rm S (rf_nt S (c / rf_fc j))) (c % rf_fc j) (k - 1)
def rf_vl (T : Nat → Nat → Bool) : Nat → Nat → Nat → Prop
  | 0, _, _ => True
  | j + 1, S, c => T (rf_nt S (c / rf_fc j)) S = false ∧ rf_vl T j (rf_rm S (rf_nt S (c / rf_fc j))) (c % rf_fc j)
def rf_mn (P : Nat → Nat → Nat) (T : Nat → Nat → Bool) (t : Nat → Nat) (S : Nat) : Nat → Nat
  | 0 => 1000
  | d + 1 => if S.testBit d = true ∧ T d S = false then min (rf_mn P T t S d) (t (rf_rm S d) + rf_ld P d (rf_rm S d)) else rf_mn P T t S d
def rf_tb (P : Nat → Nat → Nat) (n : Nat) (T : Nat → Nat → Bool) (t : Nat → Nat) : Prop := t 0 = 0 ∧ ∀ S, 1 ≤ S → S < 2 ^ n → t S = rf_mn P T t S n
def rf_tr : Nat → Nat
  | 0 => 0
  | j + 1 => rf_tr j + j
theorem rf_tr6 : ∀ j, j < 7 → 45 * rf_tr j ≤ 675 := by decide
theorem rf_mnle {P : Nat → Nat → Nat} {T : Nat → Nat → Bool} {t : Nat → Nat} {S d : Nat} (h1 : S.testBit d = true) (h2 : T d S = false) : ∀ x, d < x → rf_mn P T t S x ≤ t (rf_rm S d) + rf_ld P d (rf_rm S d) := by
  intro x
  induction x with
  | zero => intro h; omega
  | succ x ih =>
    intro h
    unfold rf_mn
    by_cases e : d = x
    · subst e
      rw [if_pos ⟨h1, h2⟩]
      exact Nat.min_le_right _ _
    · have i := ih (by omega)
      split
      · exact Nat.le_trans (Nat.min_le_left _ _) i
      · exact i
theorem rf_mnex {P : Nat → Nat → Nat} {T : Nat → Nat → Bool} {t : Nat → Nat} {S : Nat} : ∀ x, rf_mn P T t S x ≤ 1000 ∧ (rf_mn P T t S x = 1000 ∨ ∃ d, d < x ∧ S.testBit d = true ∧ T d S = false ∧ rf_mn P T t S x = t (rf_rm S d) + rf_ld P d (rf_rm S d)) := by
  intro x
  induction x with
  | zero => exact ⟨Nat.le_refl _, Or.inl rfl⟩
  | succ x ih =>
    obtain ⟨i1, i2⟩ := ih
    have i3 : rf_mn P T t S x = 1000 ∨ ∃ d, d < x + 1 ∧ S.testBit d = true ∧ T d S = false ∧ rf_mn P T t S x = t (rf_rm S d) + rf_ld P d (rf_rm S d) := by
      rcases i2 with i2 | ⟨d, hd, i2⟩
      · exact Or.inl i2
      · exact Or.inr ⟨d, by omega, i2⟩
    unfold rf_mn
    by_cases e : S.testBit x = true ∧ T x S = false
    · rw [if_pos e]
      by_cases z : rf_mn P T t S x ≤ t (rf_rm S x) + rf_ld P x (rf_rm S x)
      · rw [Nat.min_eq_left z]
        exact ⟨i1, i3⟩
      · rw [Nat.min_eq_right (by omega)]
        exact ⟨by omega, Or.inr ⟨x, by omega, e.1, e.2, rfl⟩⟩
    · rw [if_neg e]
      exact ⟨i1, i3⟩
theorem rf_cd {s c f : Nat} (h : c < f) : (s * f + c) / f = s ∧ (s * f + c) % f = c := by
  rw [Nat.mul_comm s f, Nat.mul_add_div (by omega), Nat.div_eq_of_lt h, Nat.mul_add_mod, Nat.mod_eq_of_lt h]
  exact ⟨Nat.add_zero s, rfl⟩
theorem rf_cl {s c f j : Nat} (h : c < f) (hs : s < j) : s * f + c < j * f := by
  have : (s + 1) * f ≤ j * f := Nat.mul_le_mul_right f (by omega)
  rw [Nat.add_mul] at this
  omega
theorem rf_fp (j : Nat) : 1 ≤ rf_fc j := by
  induction j with
  | zero => exact Nat.le_refl 1
  | succ j ih =>
    show 1 ≤ (j + 1) * rf_fc j
    exact Nat.le_trans ih (Nat.le_mul_of_pos_left _ (by omega))
/-- what the first step of a code gives -/
theorem rf_st {n j S c : Nat} (n6 : n ≤ 6) (hS : S < 2 ^ n) (hj : rf_sz S = j + 1) (hc : c < rf_fc (j + 1)) : c / rf_fc j < j + 1 ∧ c % rf_fc j < rf_fc j ∧ rf_nt S (c / rf_fc j) < n ∧ S.testBit (rf_nt S (c / rf_fc j)) = true ∧ rf_rm S (rf_nt S (c / rf_fc j)) < 2 ^ n ∧ rf_sz (rf_rm S (rf_nt S (c / rf_fc j))) = j := by
  have p := (rf_p2 n (by omega)).1
  have f1 := rf_fp j
  have s6 := (rf_t9 S (by omega)).1
  have h1 : c / rf_fc j < j + 1 := by
    have hc' : c < (j + 1) * rf_fc j := hc
    exact Nat.div_lt_of_lt_mul (by rw [Nat.mul_comm]; exact hc')
  have h3 := rf_t1 S (by omega) (c / rf_fc j) (by omega) (by omega)
  have h4 := rf_t4 S (by omega) _ h3.1 h3.2
  exact ⟨h1, Nat.mod_lt _ f1, rf_bl hS h3.2, h3.2, by omega, by omega⟩
theorem rf_s0 {n S : Nat} (n6 : n ≤ 6) (hS : S < 2 ^ n) (h : rf_sz S = 0) : S = 0 := by
  have p := (rf_p2 n (by omega)).1
  exact (rf_t9 S (by omega)).2 h
theorem rf_s1' {n S j : Nat} (h : rf_sz S = j + 1) : 1 ≤ S := by
  apply Classical.byContradiction
  intro z
  have e : S = 0 := by omega
  rw [e, show rf_sz 0 = 0 from rfl] at h
  omega
theorem rf_ldb {P : Nat → Nat → Nat} (P45 : ∀ a b, P a b ≤ 45) (d R : Nat) : rf_ld P d R ≤ 45 * rf_sz R :=
  rf_smle (fun x => P x d) R 45 (fun x => P45 x d) 6
theorem rf_A {P : Nat → Nat → Nat} {n : Nat} {T : Nat → Nat → Bool} {t : Nat → Nat} (n6 : n ≤ 6) (P45 : ∀ a b, P a b ≤ 45) (tb : rf_tb P n T t) (hE : ∀ S, 1 ≤ S → S < 2 ^ n → ∃ d, d < n ∧ S.testBit d = true ∧ T d S = false) : ∀ j S, S < 2 ^ n → rf_sz S = j → (∀ c, c < rf_fc j → rf_vl T j S c → t S ≤ rf_ds P j S c) ∧ (∃ c, c < rf_fc j ∧ rf_vl T j S c ∧ rf_ds P j S c = t S) ∧ t S ≤ 45 * rf_tr j := by
  have p := (rf_p2 n (by omega)).1
  intro j
  induction j with
  | zero =>
    intro S hS hj
    have e := rf_s0 n6 hS hj
    rw [e, tb.1]
    exact ⟨fun c _ _ => Nat.zero_le _, ⟨0, by decide, trivial, rfl⟩, Nat.zero_le _⟩
  | succ j ih =>
    intro S hS hj
    have S1 := rf_s1' (n := n) hj
    have s6 := (rf_t9 S (by omega)).1
    have tS := tb.2 S S1 hS
    have sub : ∀ d, S.testBit d = true → rf_rm S d < 2 ^ n ∧ rf_sz (rf_rm S d) = j := by
      intro d hd
      have hn := rf_bl hS hd
      have h4 := rf_t4 S (by omega) d (by omega) hd
      omega
    have bnd : ∀ d, S.testBit d = true → t (rf_rm S d) + rf_ld P d (rf_rm S d) ≤ 45 * rf_tr (j + 1) := by
      intro d hd
      have s := sub d hd
      have b1 := (ih _ s.1 s.2).2.2
      have b2 := rf_ldb P45 d (rf_rm S d)
      rw [s.2] at b2
      show _ ≤ 45 * (rf_tr j + j)
      omega
    have up : t S ≤ 45 * rf_tr (j + 1) := by
      obtain ⟨d, hd, h1, h2⟩ := hE S S1 hS
      have b1 := bnd d h1
      have b2 := rf_mnle (P := P) (t := t) h1 h2 n hd
      omega
    refine ⟨fun c hc hv => ?_, ?_, up⟩
    · obtain ⟨x1, x2, x3, x4, x5, x6⟩ := rf_st n6 hS hj hc
      obtain ⟨v1, v2⟩ := hv
      have i1 := (ih _ x5 x6).1 _ x2 v2
      have b2 := rf_mnle (P := P) (t := t) x4 v1 n x3
      show _ ≤ _ + _
      omega
    · have tr := rf_tr6 (j + 1) (by omega)
      rcases (rf_mnex (P := P) (T := T) (t := t) (S := S) n).2 with h | ⟨d, hd, h1, h2, h3⟩
      · omega
      · have s := sub d h1
        obtain ⟨c, c1, c2, c3⟩ := (ih _ s.1 s.2).2.1
        obtain ⟨t1, t2⟩ := rf_t2 S (by omega) d (by omega) h1
        obtain ⟨e1, e2⟩ := rf_cd (s := rf_sz (S % 2 ^ d)) c1
        refine ⟨rf_sz (S % 2 ^ d) * rf_fc j + c, rf_cl c1 (by omega), ?_, ?_⟩
        · unfold rf_vl
          rw [e1, e2, t2]
          exact ⟨h2, c2⟩
        · unfold rf_ds
          rw [e1, e2, t2, c3]
          omega
theorem rf_vt : ∀ j S c, rf_vl (fun _ _ => false) j S c := by
  intro j
  induction j with
  | zero => intro S c; trivial
  | succ j ih => intro S c; exact ⟨rfl, ih _ _⟩
def rf_fs (P : Nat → Nat → Nat) (t : Nat → Nat) (j S c : Nat) : Prop := c < rf_fc j ∧ rf_ds P j S c = t S ∧ ∀ c', c' < c → rf_ds P j S c' ≠ t S
theorem rf_B {P : Nat → Nat → Nat} {n : Nat} {t : Nat → Nat} (n6 : n ≤ 6) (P45 : ∀ a b, P a b ≤ 45) (tb : rf_tb P n (fun _ _ => false) t) (hE : ∀ S, 1 ≤ S → S < 2 ^ n → ∃ d, d < n ∧ S.testBit d = true ∧ false = false) {j S c : Nat} (hS : S < 2 ^ n) (hj : rf_sz S = j + 1) (h : rf_fs P t (j + 1) S c) : (t (rf_rm S (rf_nt S (c / rf_fc j))) + rf_ld P (rf_nt S (c / rf_fc j)) (rf_rm S (rf_nt S (c / rf_fc j))) = t S ∧ ∀ d', d' < rf_nt S (c / rf_fc j) → S.testBit d' = true → t (rf_rm S d') + rf_ld P d' (rf_rm S d') ≠ t S) ∧ rf_fs P t j (rf_rm S (rf_nt S (c / rf_fc j))) (c % rf_fc j) := by
  obtain ⟨hc, hd, hf⟩ := h
  have p := (rf_p2 n (by omega)).1
  have s6 := (rf_t9 S (by omega)).1
  obtain ⟨x1, x2, x3, x4, x5, x6⟩ := rf_st n6 hS hj hc
  have A := rf_A n6 P45 tb hE
  have a1 := (A j _ x5 x6).1 _ x2 (rf_vt _ _ _)
  have tS := tb.2 S (rf_s1' (n := n) hj) hS
  have b2 := rf_mnle (P := P) (T := fun _ _ => false) (t := t) x4 rfl n x3
  have e : rf_ds P (j + 1) S c = rf_ld P (rf_nt S (c / rf_fc j)) (rf_rm S (rf_nt S (c / rf_fc j))) + rf_ds P j (rf_rm S (rf_nt S (c / rf_fc j))) (c % rf_fc j) := rfl
  have dm := Nat.div_add_mod' c (rf_fc j)
  refine ⟨⟨by omega, fun d' hd' hb z => ?_⟩, x2, by omega, fun c' hc' z => ?_⟩
  · have d6 : d' < 6 := by omega
    have h4 := rf_t4 S (by omega) d' d6 hb
    obtain ⟨c2, k1, k2, k3⟩ := (A j (rf_rm S d') (by omega) (by omega)).2.1
    obtain ⟨t1, t2⟩ := rf_t2 S (by omega) d' d6 hb
    have t3 := rf_t3 S (by omega) (c / rf_fc j) (by omega) (by omega) d' hd' hb
    obtain ⟨e1, e2⟩ := rf_cd (s := rf_sz (S % 2 ^ d')) k1
    have lt := rf_cl k1 t3
    refine hf (rf_sz (S % 2 ^ d') * rf_fc j + c2) (by omega) ?_
    unfold rf_ds
    rw [e1, e2, t2, k3]
    omega
  · obtain ⟨e1, e2⟩ := rf_cd (s := c / rf_fc j) (c := c') (f := rf_fc j) (by omega)
    refine hf (c / rf_fc j * rf_fc j + c') (by omega) ?_
    unfold rf_ds
    rw [e1, e2]
    omega
theorem rf_oz (j S c : Nat) : rf_od (j + 1) S c 0 = rf_nt S (c / rf_fc j) := by
  unfold rf_od
  rw [if_pos rfl]
theorem rf_os (j S c k : Nat) : rf_od (j + 1) S c (k + 1) = rf_od j (rf_rm S (rf_nt S (c / rf_fc j))) (c % rf_fc j) k := by
  rw [rf_od, if_neg (by omega), Nat.add_sub_cancel]
theorem rf_o1 {n : Nat} (n6 : n ≤ 6) : ∀ j S c, S < 2 ^ n → rf_sz S = j → c < rf_fc j → ∀ k, k < j → rf_od j S c k < n ∧ S.testBit (rf_od j S c k) = true := by
  intro j
  have p := (rf_p2 n (by omega)).1
  induction j with
  | zero => intro S c _ _ _ k hk; omega
  | succ j ih =>
    intro S c hS hj hc k hk
    obtain ⟨x1, x2, x3, x4, x5, x6⟩ := rf_st n6 hS hj hc
    cases k with
    | zero => rw [rf_oz]; exact ⟨x3, x4⟩
    | succ k =>
      rw [rf_os]
      have i := ih _ _ x5 x6 x2 k (by omega)
      exact ⟨i.1, ((rf_t5 S (by omega) _ (by omega) _ (by omega)).mp i.2).1⟩
theorem rf_o2 {n : Nat} (n6 : n ≤ 6) : ∀ j S c, S < 2 ^ n → rf_sz S = j → c < rf_fc j → ∀ k i, k < j → i < k → rf_od j S c k ≠ rf_od j S c i := by
  intro j
  have p := (rf_p2 n (by omega)).1
  induction j with
  | zero => intro S c _ _ _ k i hk; omega
  | succ j ih =>
    intro S c hS hj hc k i hk hi
    obtain ⟨x1, x2, x3, x4, x5, x6⟩ := rf_st n6 hS hj hc
    obtain ⟨k, rfl⟩ : ∃ k', k = k' + 1 := ⟨k - 1, by omega⟩
    rw [rf_os]
    cases i with
    | zero =>
      rw [rf_oz]
      have i := rf_o1 n6 j _ _ x5 x6 x2 k (by omega)
      exact ((rf_t5 S (by omega) _ (by omega) _ (by omega)).mp i.2).2
    | succ i =>
      rw [rf_os]
      exact ih _ _ x5 x6 x2 k i (by omega) (by omega)
def rf_s1 (h : Nat → Nat) : Nat → Nat
  | 0 => 0
  | k + 1 => rf_s1 h k + h k
theorem rf_s1s (h : Nat → Nat) : ∀ j, rf_s1 h (j + 1) = h 0 + rf_s1 (fun k => h (k + 1)) j := by
  intro j
  induction j with
  | zero => show 0 + h 0 = h 0 + 0; omega
  | succ j ih =>
    show rf_s1 h (j + 1) + h (j + 1) = h 0 + (rf_s1 (fun k => h (k + 1)) j + h (j + 1))
    omega
theorem rf_s1a (h h' : Nat → Nat) : ∀ j, rf_s1 (fun k => h k + h' k) j = rf_s1 h j + rf_s1 h' j := by
  intro j
  induction j with
  | zero => rfl
  | succ j ih =>
    show rf_s1 (fun k => h k + h' k) j + (h j + h' j) = rf_s1 h j + h j + (rf_s1 h' j + h' j)
    omega
theorem rf_s1c {h h' : Nat → Nat} : ∀ j, (∀ k, k < j → h k = h' k) → rf_s1 h j = rf_s1 h' j := by
  intro j
  induction j with
  | zero => intro _; rfl
  | succ j ih =>
    intro e
    show rf_s1 h j + h j = rf_s1 h' j + h' j
    rw [ih (fun k hk => e k (by omega)), e j (by omega)]
theorem rf_o3 {n : Nat} (n6 : n ≤ 6) (f : Nat → Nat) : ∀ j S c, S < 2 ^ n → rf_sz S = j → c < rf_fc j → rf_s1 (fun k => f (rf_od j S c k)) j = rf_sm f S 6 := by
  intro j
  have p := (rf_p2 n (by omega)).1
  induction j with
  | zero =>
    intro S c hS hj hc
    rw [rf_s0 n6 hS hj]
    rfl
  | succ j ih =>
    intro S c hS hj hc
    obtain ⟨x1, x2, x3, x4, x5, x6⟩ := rf_st n6 hS hj hc
    rw [rf_s1s, rf_oz, rf_smrm f (S := S) (by omega) (by omega) x4 6 (by omega), if_pos (by omega), ← ih _ _ x5 x6 x2, Nat.add_comm]
    congr 1
def rf_dd (G : Nat → Nat → Nat) (j : Nat) : Nat := rf_s1 (fun k => rf_s1 (fun i => G k i) k) j
theorem rf_dds (G : Nat → Nat → Nat) (j : Nat) : rf_dd G (j + 1) = rf_s1 (fun k => G (k + 1) 0) j + rf_dd (fun k i => G (k + 1) (i + 1)) j := by
  unfold rf_dd
  rw [rf_s1s, ← rf_s1a]
  show 0 + _ = _
  rw [Nat.zero_add]
  exact rf_s1c _ (fun k hk => rf_s1s _ _)
theorem rf_o4 {n : Nat} (n6 : n ≤ 6) (P : Nat → Nat → Nat) : ∀ j S c, S < 2 ^ n → rf_sz S = j → c < rf_fc j → rf_dd (fun k i => P (rf_od j S c k) (rf_od j S c i)) j = rf_ds P j S c := by
  intro j
  induction j with
  | zero => intro S c _ _ _; rfl
  | succ j ih =>
    intro S c hS hj hc
    obtain ⟨x1, x2, x3, x4, x5, x6⟩ := rf_st n6 hS hj hc
    rw [rf_dds, rf_oz]
    show _ = rf_ld P _ _ + rf_ds P j _ _
    rw [← ih _ _ x5 x6 x2]
    congr 1
    · unfold rf_ld
      rw [← rf_o3 n6 (fun x => P x (rf_nt S (c / rf_fc j))) j _ _ x5 x6 x2]
      exact rf_s1c _ (fun k hk => by rw [rf_os])
theorem rf_o5 {n : Nat} (n6 : n ≤ 6) {a b : Nat} (ha : a < n) : ∀ j S c, S < 2 ^ n → rf_sz S = j → c < rf_fc j → ¬ S.testBit a = true → rf_vl (fun d S => decide (d = b) && S.testBit a) j S c := by
  intro j
  have p := (rf_p2 n (by omega)).1
  induction j with
  | zero => intro S c _ _ _ _; trivial
  | succ j ih =>
    intro S c hS hj hc h
    obtain ⟨x1, x2, x3, x4, x5, x6⟩ := rf_st n6 hS hj hc
    refine ⟨?_, ih _ _ x5 x6 x2 (fun z => h ((rf_t5 S (by omega) _ (by omega) a (by omega)).mp z).1)⟩
    dsimp only
    cases hh : S.testBit a
    · exact Bool.and_false _
    · exact absurd hh h
theorem rf_o6 {n : Nat} (n6 : n ≤ 6) {a : Nat} : ∀ j S c, S < 2 ^ n → rf_sz S = j → c < rf_fc j → S.testBit a = true → ∃ k, k < j ∧ rf_od j S c k = a := by
  intro j
  have p := (rf_p2 n (by omega)).1
  induction j with
  | zero =>
    intro S c hS hj _ h
    rw [rf_s0 n6 hS hj, Nat.zero_testBit] at h
    exact absurd h (by decide)
  | succ j ih =>
    intro S c hS hj hc h
    have an := rf_bl hS h
    obtain ⟨x1, x2, x3, x4, x5, x6⟩ := rf_st n6 hS hj hc
    by_cases e : a = rf_nt S (c / rf_fc j)
    · exact ⟨0, by omega, by rw [rf_oz, e]⟩
    · obtain ⟨k, hk, h2⟩ := ih _ _ x5 x6 x2 ((rf_t5 S (by omega) _ (by omega) a (by omega)).mpr ⟨h, e⟩)
      exact ⟨k + 1, by omega, by rw [rf_os, h2]⟩
theorem rf_o7 {n : Nat} (n6 : n ≤ 6) {a b : Nat} (hab : a ≠ b) : ∀ j S c, S < 2 ^ n → rf_sz S = j → c < rf_fc j → S.testBit a = true → S.testBit b = true → ∃ ka kb, ka < j ∧ kb < j ∧ rf_od j S c ka = a ∧ rf_od j S c kb = b ∧ (rf_vl (fun d S => decide (d = b) && S.testBit a) j S c ↔ ka < kb) := by
  intro j
  have p := (rf_p2 n (by omega)).1
  induction j with
  | zero =>
    intro S c hS hj _ h
    rw [rf_s0 n6 hS hj, Nat.zero_testBit] at h
    exact absurd h (by decide)
  | succ j ih =>
    intro S c hS hj hc h1 h2
    have an := rf_bl hS h1
    have bn := rf_bl hS h2
    obtain ⟨x1, x2, x3, x4, x5, x6⟩ := rf_st n6 hS hj hc
    by_cases e : a = rf_nt S (c / rf_fc j)
    · obtain ⟨k, hk, h3⟩ := rf_o6 n6 j _ _ x5 x6 x2 ((rf_t5 S (by omega) _ (by omega) b (by omega)).mpr ⟨h2, fun z => hab (e.trans z.symm)⟩)
      refine ⟨0, k + 1, by omega, by omega, by rw [rf_oz, e], by rw [rf_os, h3], ⟨fun _ => by omega, fun _ => ⟨?_, ?_⟩⟩⟩
      · dsimp only
        rw [decide_eq_false (fun z => hab (e.trans z))]
        exact Bool.false_and _
      · exact rf_o5 n6 an j _ _ x5 x6 x2 (fun z => ((rf_t5 S (by omega) _ (by omega) a (by omega)).mp z).2 e)
    · by_cases f : b = rf_nt S (c / rf_fc j)
      · obtain ⟨k, hk, h3⟩ := rf_o6 n6 j _ _ x5 x6 x2 ((rf_t5 S (by omega) _ (by omega) a (by omega)).mpr ⟨h1, e⟩)
        refine ⟨k + 1, 0, by omega, by omega, by rw [rf_os, h3], by rw [rf_oz, f], ⟨fun v => ?_, fun z => by omega⟩⟩
        have v1 := v.1
        dsimp only at v1
        rw [decide_eq_true f.symm, h1] at v1
        exact absurd v1 (by decide)
      · obtain ⟨ka, kb, k1, k2, k3, k4, k5⟩ := ih _ _ x5 x6 x2 ((rf_t5 S (by omega) _ (by omega) a (by omega)).mpr ⟨h1, e⟩) ((rf_t5 S (by omega) _ (by omega) b (by omega)).mpr ⟨h2, f⟩)
        refine ⟨ka + 1, kb + 1, by omega, by omega, by rw [rf_os, k3], by rw [rf_os, k4], ⟨fun v => ?_, fun z => ⟨?_, k5.mpr (by omega)⟩⟩⟩
        · have := k5.mp v.2
          omega
        · dsimp only
          rw [decide_eq_false (fun z => f z.symm)]
          exact Bool.false_and _
end
section
theorem rf_mnc {P : Nat → Nat → Nat} {T : Nat → Nat → Bool} {t t' : Nat → Nat} {S : Nat} (hS : S < 64) (h : ∀ R, R < S → t R = t' R) : ∀ x, x ≤ 6 → rf_mn P T t S x = rf_mn P T t' S x := by
  intro x
  induction x with
  | zero => intro _; rfl
  | succ x ih =>
    intro hx
    have i := ih (by omega)
    unfold rf_mn
    by_cases e : S.testBit x = true ∧ T x S = false
    · rw [if_pos e, if_pos e, i, h _ (rf_t4 S hS x (by omega) e.1).2]
    · rw [if_neg e, if_neg e, i]
section
variable {n : Nat} {g fo : Int32} {aw an ap al : Nat → Int32} {P : Nat → Nat → Nat}
theorem rf_Xdl (n6 : n ≤ 6) (HX : rf_PX n g aw an ap P) {asd aps : Nat → Int32} {S d v : Nat} (hS : S < 2 ^ n) (hd : d < n) (e : asd (rf_rm S d) = nI v) {post : Int32 → Prop} (hp : post (nI (v + rf_ld P d (rf_rm S d)))) : wpX_distanceLedBy post (nI n, g, aw, an, ap, asd, aps) (nI d) (nI S) := by
  have p := (rf_p2 n (by omega)).1
  have t6 := rf_t6 S (by omega) d (by omega)
  have h6 : rf_sm (fun x => P x d) (rf_rm S d) n = rf_ld P d (rf_rm S d) := rf_sm6 _ (by omega) n6
  rw [← h6] at hp
  have key : ∀ r x, x + r = n → wX_distanceLedBy_17 post (nI d) (nI (rf_rm S d)) (nI n) g aw an ap asd aps (r + 1) (nI (v + rf_sm (fun x => P x d) (rf_rm S d) x)) (nI x) := by
    intro r
    induction r with
    | zero =>
      intro x hx
      have e : x = n := by omega
      subst e
      exact br_t (Int32.le_refl _) hp
    | succ r ih =>
      intro x hx
      refine br_f (nI_ge (by omega) (by omega)) ?_
      have i := ih (x + 1) (by omega)
      have e2 : rf_sm (fun x => P x d) (rf_rm S d) (x + 1) = rf_sm (fun x => P x d) (rf_rm S d) x + (if (rf_rm S d).testBit x = true then P x d else 0) := rfl
      rw [e2] at i
      refine rf_Xh t6.1 (by omega) (fun z => ?_) (fun z => ?_)
      · refine br_f (by decide) ?_
        refine HX _ _ _ _ _ (by omega) hd ?_
        rw [if_pos z] at i
        refine nm_r ?_ (nm_r (nI_1 x) i)
        rw [nI_add, Nat.add_assoc]
      · rw [if_neg z, Nat.add_zero] at i
        exact br_t rfl (nm_r (nI_1 x) i)
  unfold wpX_distanceLedBy wpX_without
  dsimp only
  rw [rf_wo S (by omega) d (by omega), nI_clamp (by omega), e]
  exact ⟨vp_in_nI t6.1 (by decide), nm_e ⟨n + 1, key n 0 (by omega)⟩⟩
theorem rf_Xfs (n6 : n ≤ 6) (HX : rf_PX n g aw an ap P) (P45 : ∀ a b, P a b ≤ 45) {T : Nat → Nat → Bool} {x1 x2 : Int32} (hT : ∀ d S, d < n → S < 64 → (T d S = true ↔ (nI d = x2 ∧ ((nI S >>> (x1 &&& 31)) &&& 1) = 1))) {asd0 aps : Nat → Int32} {post : SX → Prop} (hp : ∀ asd' t, (∀ S, S < 2 ^ n → asd' S = nI (t S)) → rf_tb P n T t → post (nI n, g, aw, an, ap, asd', aps)) : wpX_fillSetDistances post (nI n, g, aw, an, ap, asd0, aps) x1 x2 := by
  have p := rf_p2 n (by omega)
  have key : ∀ r S (asd : Nat → Int32) (t : Nat → Nat), S + r = 2 ^ n → 1 ≤ S → t 0 = 0 → (∀ R, 1 ≤ R → R < S → t R = rf_mn P T t R n) → (∀ R, R < S → asd R = nI (t R)) → wX_fillSetDistances_15 post x1 x2 (nI (2 ^ n - 1)) (nI n) g (r + 1) (nI S) aw an ap asd aps := by
    intro r
    induction r with
    | zero =>
      intro S asd t hr S1 t0 tR aR
      have e : S = 2 ^ n := by omega
      subst e
      exact br_t (nI_lt (by omega) (by omega)) (hp asd t aR ⟨t0, tR⟩)
    | succ r ih =>
      intro S asd t hr S1 t0 tR aR
      refine br_f (nI_nlt (by omega) (by omega)) ?_
      have tb1 : ∀ R, R < S → t R ≤ 1000 := by
        intro R hR
        by_cases z : R = 0
        · rw [z, t0]; omega
        · rw [tR R (by omega) hR]
          exact (rf_mnex n).1
      have key2 : ∀ w d, d + w = n → wX_fillSetDistances_29 post (wX_fillSetDistances_15 post x1 x2 (nI (2 ^ n - 1)) (nI n) g (r + 1)) x1 x2 (nI (2 ^ n - 1)) (nI S) (nI n) g aw an ap asd aps (w + 1) (nI (rf_mn P T t S d)) (nI d) := by
        intro w
        induction w with
        | zero =>
          intro d hd
          have e : d = n := by omega
          subst e
          refine br_t (Int32.le_refl _) ⟨vp_in_nI (by omega) (by decide), nm_e (nm_r (nI_1 S) ?_)⟩
          rw [nI_clamp (by omega)]
          have hlt : ∀ R, R < S → t R = (fun R => if R = S then rf_mn P T t S d else t R) R := by
            intro R hR
            dsimp only
            rw [if_neg (by omega)]
          refine ih (S + 1) _ (fun R => if R = S then rf_mn P T t S d else t R) (by omega) (by omega) ?_ ?_ ?_
          · rw [if_neg (by omega)]
            exact t0
          · intro R R1 hR
            by_cases z : R = S
            · subst z
              rw [← rf_mnc (by omega) hlt d n6]
              rw [if_pos rfl]
            · rw [← rf_mnc (by omega) (fun Q hQ => hlt Q (by omega)) d n6]
              rw [if_neg z]
              exact tR R R1 (by omega)
          · intro R hR
            by_cases z : R = S
            · subst z
              rw [pk_us]
              rw [if_pos rfl]
            · rw [pk_un z]
              rw [if_neg z]
              exact aR R (by omega)
        | succ w ih2 =>
          intro d hd
          refine br_f (nI_ge (by omega) (by omega)) ?_
          have i := ih2 (d + 1) (by omega)
          have e2 : rf_mn P T t S (d + 1) = if S.testBit d = true ∧ T d S = false then min (rf_mn P T t S d) (t (rf_rm S d) + rf_ld P d (rf_rm S d)) else rf_mn P T t S d := rfl
          rw [e2] at i
          have m1 := (rf_mnex (P := P) (T := T) (t := t) (S := S) d).1
          have tail : ∀ z0 : Int32, (T d S = true → z0 = 1) → (T d S = false → z0 = 0) → wX_fillSetDistances_58 post (wX_fillSetDistances_15 post x1 x2 (nI (2 ^ n - 1)) (nI n) g (r + 1)) (wX_fillSetDistances_29 post (wX_fillSetDistances_15 post x1 x2 (nI (2 ^ n - 1)) (nI n) g (r + 1)) x1 x2 (nI (2 ^ n - 1)) (nI S) (nI n) g aw an ap asd aps (w + 1)) x1 x2 (nI (2 ^ n - 1)) (nI S) (nI (rf_mn P T t S d)) (nI d) z0 (nI n) g aw an ap asd aps := by
            intro z0 hz1 hz0
            refine rf_Xh (by omega) (by omega) (fun z => ?_) (fun z => ?_)
            · refine br_f (by decide) ?_
              cases hh : T d S
              · refine br_t (hz0 hh) ?_
                have t4 := rf_t4 S (by omega) d (by omega) z
                have t9 := rf_t9 (rf_rm S d) (by omega)
                have lb := rf_ldb P45 d (rf_rm S d)
                have tl := tb1 _ t4.2
                rw [if_pos ⟨z, hh⟩] at i
                refine rf_Xdl n6 HX (by omega) (by omega) (aR _ t4.2) ?_
                refine pk_le (rf_mn P T t S d) (t (rf_rm S d) + rf_ld P d (rf_rm S d)) (fun l => nm_r (nI_1 d) ?_) (fun l => nm_r (nI_1 d) ?_)
                · rw [Nat.min_eq_left l] at i
                  exact i
                · rw [Nat.min_eq_right (by omega)] at i
                  exact i
              · rw [if_neg (fun y => by rw [hh] at y; exact absurd y.2 (by decide))] at i
                refine br_f (by rw [hz1 hh]; decide) (nm_r (nI_1 d) i)
            · rw [if_neg (fun y => z y.1)] at i
              exact br_t rfl (nm_r (nI_1 d) i)
          have hTd := hT d S (by omega) (by omega)
          refine br_c (fun y => br_c (fun x => br_f (by decide) (tail 1 (fun _ => rfl) (fun q => ?_))) (fun x => br_t rfl (tail 0 (fun q => ?_) (fun _ => rfl)))) (fun y => tail 0 (fun q => ?_) (fun _ => rfl))
          · rw [hTd.mpr ⟨y, x⟩] at q
            exact absurd q (by decide)
          · exact absurd (hTd.mp q).2 x
          · exact absurd (hTd.mp q).1 y
      exact ⟨n + 1, key2 n 0 (by omega)⟩
  unfold wpX_fillSetDistances wpX_allDocuments
  dsimp only
  rw [rf_all n (by omega)]
  refine nm_e ⟨2 ^ n - 1 + 1, key (2 ^ n - 1) 1 _ (fun _ => 0) (by omega) (by omega) rfl (fun R h1 h2 => absurd h1 (by omega)) (fun R hR => ?_)⟩
  have e : R = 0 := by omega
  rw [e, pk_us]
  rfl
theorem rf_Xbl (n6 : n ≤ 6) (HX : rf_PX n g aw an ap P) (P45 : ∀ a b, P a b ≤ 45) {asd aps : Nat → Int32} {t : Nat → Nat} (aT : ∀ S, S < 2 ^ n → asd S = nI (t S)) (tb1 : ∀ S, S < 2 ^ n → t S ≤ 1000) {S d : Nat} (hS : S < 2 ^ n) (hd : S.testBit d = true) (h1 : t (rf_rm S d) + rf_ld P d (rf_rm S d) = t S) (h2 : ∀ d', d' < d → S.testBit d' = true → t (rf_rm S d') + rf_ld P d' (rf_rm S d') ≠ t S) {post : Int32 → Prop} (hp : post (nI d)) : wpX_bestLeader post (nI n, g, aw, an, ap, asd, aps) (nI S) := by
  have p := (rf_p2 n (by omega)).1
  have dn := rf_bl hS hd
  have key : ∀ r x, x + r = n → x ≤ d → wX_bestLeader_2 post (nI S) (nI n) g aw an ap asd aps (r + 1) (nI x) := by
    intro r
    induction r with
    | zero => intro x hx hxd; omega
    | succ r ih =>
      intro x hx hxd
      refine br_f (nI_ge (by omega) (by omega)) ?_
      refine rf_Xh (by omega) (by omega) (fun z => ?_) (fun z => ?_)
      · refine br_f (by decide) ?_
        have t4 := rf_t4 S (by omega) x (by omega) z
        have t9 := rf_t9 (rf_rm S x) (by omega)
        have lb := rf_ldb P45 x (rf_rm S x)
        have b1 := tb1 (rf_rm S x) (by omega)
        have b2 := tb1 S hS
        refine rf_Xdl n6 HX hS (by omega) (aT _ (by omega)) ?_
        refine ⟨vp_in_nI (by omega) (by decide), ?_⟩
        rw [nI_clamp (by omega), aT S hS]
        refine pk_eq (t (rf_rm S x) + rf_ld P x (rf_rm S x)) (t S) (fun y => ?_) (fun y => ?_)
        · have e : x = d := by
            apply Classical.byContradiction
            intro w
            exact h2 x (by omega) z y
          rw [e]
          exact hp
        · have e : x ≠ d := fun w => y (by rw [w]; exact h1)
          exact nm_r (nI_1 x) (ih (x + 1) (by omega) (by omega))
      · have e : x ≠ d := fun w => z (by rw [w]; exact hd)
        exact br_t rfl (nm_r (nI_1 x) (ih (x + 1) (by omega) (by omega)))
  exact ⟨n + 1, key n 0 (by omega) (by omega)⟩
theorem rf_Xba (n6 : n ≤ 6) (HX : rf_PX n g aw an ap P) (P45 : ∀ a b, P a b ≤ 45) {asd aps : Nat → Int32} {t : Nat → Nat} (tb : rf_tb P n (fun _ _ => false) t) (hE : ∀ S, 1 ≤ S → S < 2 ^ n → ∃ d, d < n ∧ S.testBit d = true ∧ false = false) (aT : ∀ S, S < 2 ^ n → asd S = nI (t S)) (tb1 : ∀ S, S < 2 ^ n → t S ≤ 1000) {K : Nat} (hK : K < n) {post : Int32 → SX → Prop} : ∀ r q S j c, q + r = K → S < 2 ^ n → rf_sz S = j + 1 → rf_fs P t (j + 1) S c → r ≤ j → post (nI (rf_od (j + 1) S c r)) (nI n, g, aw, an, ap, asd, aps) → wX_bestAt_30 post (nI K) (nI n) g aw an ap asd aps (r + 1) (nI S) (nI (rf_nt S (c / rf_fc j))) (nI q) := by
  have p := (rf_p2 n (by omega)).1
  intro r
  induction r with
  | zero =>
    intro q S j c hq hS hj hf hr hp
    rw [rf_oz] at hp
    exact br_t (nI_le (by omega) (by omega)) hp
  | succ r ih =>
    intro q S j c hq hS hj hf hr hp
    obtain ⟨x1, x2, x3, x4, x5, x6⟩ := rf_st n6 hS hj hf.1
    have B := (rf_B n6 P45 tb hE hS hj hf).2
    rw [rf_os] at hp
    obtain ⟨j, rfl⟩ : ∃ j', j = j' + 1 := ⟨j - 1, by omega⟩
    refine br_f (nI_ge (by omega) (by omega)) ?_
    unfold wpX_without
    dsimp only
    rw [rf_wo S (by omega) _ (by omega)]
    obtain ⟨y1, y2, y3, y4, y5, y6⟩ := rf_st n6 x5 x6 B.1
    have B2 := (rf_B n6 P45 tb hE x5 x6 B).1
    refine rf_Xbl n6 HX P45 aT tb1 x5 y4 B2.1 B2.2 ?_
    exact nm_r (nI_1 q) (ih (q + 1) _ j _ (by omega) x5 x6 B (by omega) hp)
end
end
section
section
variable {n : Nat} {g fo : Int32} {aw an ap al : Nat → Int32} {P : Nat → Nat → Nat}
theorem rf_Ynt {f g fo : Int32} {ao : Nat → Int32} {S s : Nat} (hS : S < 64) (hs : s < 6) {post : Int32 → Prop} (hp : post (nI (rf_nt S s))) : wpY_nth post (f, g, fo, aw, an, al, ao) (nI S) (nI s) := by
  have key : ∀ r d l, d + r = 6 → l ≤ d → post (nI (rf_nx S s r d l)) → wY_nth_5 post (nI S) (nI s) f g fo aw an al ao (r + 1) (nI l) (nI d) := by
    intro r
    induction r with
    | zero =>
      intro d l hd hl hp
      have e : d = 6 := by omega
      subst e
      exact br_t (Int32.le_refl _) hp
    | succ r ih =>
      intro d l hd hl hp
      refine br_f (nI_ge (b := 6) (by omega) (by decide)) ?_
      have hb := rf_has S hS d (by omega)
      unfold rf_nx at hp
      refine br_c (fun z => ?_) (fun z => ?_)
      · rw [if_pos (hb.mp z)] at hp
        refine pk_eq l s (fun e => ?_) (fun e => ?_)
        · rw [if_pos e] at hp
          exact hp
        · rw [if_neg e] at hp
          exact nm_r (nI_1 l) (nm_r (nI_1 d) (ih (d + 1) (l + 1) (by omega) (by omega) hp))
      · rw [if_neg (fun y => z (hb.mpr y))] at hp
        exact nm_r (nI_1 d) (ih (d + 1) l (by omega) (by omega) hp)
  exact ⟨7, key 6 0 0 (by omega) (by omega) hp⟩
theorem rf_Ysp (n6 : n ≤ 6) {post : SY → Prop} : ∀ j k S c (ao : Nat → Int32), k + j = n → S < 2 ^ n → rf_sz S = j → c < rf_fc j → (∀ ao' : Nat → Int32, (∀ i, i < k → ao' i = ao i) → (∀ i, i < j → ao' (k + i) = nI (rf_od j S c i)) → post (nI n, g, fo, aw, an, al, ao')) → wY_spell_20 post (nI n) g fo (j + 1) (nI c) (nI (rf_fc j)) (nI S) (nI k) aw an al ao := by
  have p := (rf_p2 n (by omega)).1
  intro j
  induction j with
  | zero =>
    intro k S c ao hk hS hj hc hp
    have e : k = n := by omega
    subst e
    exact br_t (Int32.le_refl _) (hp ao (fun _ _ => rfl) (fun i hi => absurd hi (by omega)))
  | succ j ih =>
    intro k S c ao hk hS hj hc hp
    obtain ⟨x1, x2, x3, x4, x5, x6⟩ := rf_st n6 hS hj hc
    have fb := rf_fcb (j + 1) (by omega)
    have fb2 := rf_fcb j (by omega)
    have e1 : nI n - nI k = nI (j + 1) := by
      rw [pk_sub (by omega)]
      exact congrArg nI (by omega)
    have e2 : nI (rf_fc (j + 1)) / nI (j + 1) = nI (rf_fc j) := by
      rw [pk_div (by omega) (by omega) (by omega)]
      exact congrArg nI (Nat.mul_div_cancel_left _ (by omega))
    have e3 : nI c / nI (rf_fc j) = nI (c / rf_fc j) := pk_div (by omega) (by omega) (by omega)
    have e4 : nI c - nI c / nI (rf_fc j) * nI (rf_fc j) = nI (c % rf_fc j) := pk_rem (by omega) (by omega) (by omega)
    have hne : ¬ nI (rf_fc j) ≤ 0 := nI_nle (by omega) (by omega)
    have hnz : ¬ nI (rf_fc j) = 0 := nI_ne0 (by omega) (by omega)
    refine br_f (nI_ge (by omega) (by omega)) ?_
    rw [e1]
    refine ⟨nI_ne0 (by omega) (by omega), nm_r e2 (br_f hne ⟨hnz, ?_⟩)⟩
    rw [e3]
    refine br_f hne ⟨hnz, ?_⟩
    rw [e4]
    refine rf_Ynt (by omega) (by omega) ?_
    refine ⟨vp_in_nI (by omega) (by decide), nm_e (nm_r (rf_wo S (by omega) _ (by omega)) (nm_r (nI_1 k) (ih (k + 1) _ _ _ (by omega) x5 x6 x2 (fun ao' h1 h2 => ?_))))⟩
    refine hp ao' (fun i hi => ?_) (fun i hi => ?_)
    · rw [h1 i (by omega), nI_clamp (by omega), pk_un (by omega)]
    · cases i with
      | zero =>
        rw [rf_oz, Nat.add_zero, h1 k (by omega), nI_clamp (by omega), pk_us]
      | succ i =>
        rw [rf_os, show k + (i + 1) = k + 1 + i by omega]
        exact h2 i (by omega)
theorem rf_Ysq (n6 : n ≤ 6) {ao : Nat → Int32} {c : Nat} (hc : c < rf_fc n) {post : SY → Prop} (hp : ∀ ao' : Nat → Int32, (∀ i, i < n → ao' i = nI (rf_od n (2 ^ n - 1) c i)) → post (nI n, g, nI (rf_fc n), aw, an, al, ao')) : wpY_spell post (nI n, g, nI (rf_fc n), aw, an, al, ao) (nI c) := by
  have p := rf_p2 n (by omega)
  refine nm_r (rf_all n (by omega)) ⟨n + 1, rf_Ysp n6 n 0 (2 ^ n - 1) c ao (by omega) (by omega) (rf_t10 n (by omega)) hc (fun ao' h1 h2 => hp ao' (fun i hi => ?_))⟩
  have := h2 i hi
  rw [Nat.zero_add] at this
  exact this
theorem rf_Ydi (n6 : n ≤ 6) (HY : rf_PY n g fo aw an al P) {ao : Nat → Int32} {o : Nat → Nat} (ho : ∀ i, i < n → ao i = nI (o i)) (hn : ∀ i, i < n → o i < n) (hd : ∀ k i, k < n → i < k → o k ≠ o i) {post : Int32 → Prop} (hp : post (nI (rf_dd (fun k i => P (o k) (o i)) n))) : wpY_distance post (nI n, g, fo, aw, an, al, ao) := by
  have key : ∀ r k, k + r = n → wY_distance_4 post (nI n) g fo aw an al ao (r + 1) (nI (rf_dd (fun k i => P (o k) (o i)) k)) (nI k) := by
    intro r
    induction r with
    | zero =>
      intro k hk
      have e : k = n := by omega
      subst e
      exact br_t (Int32.le_refl _) hp
    | succ r ih =>
      intro k hk
      refine br_f (nI_ge (by omega) (by omega)) ?_
      have key2 : ∀ w i, i + w = k → wY_distance_14 post (wY_distance_4 post (nI n) g fo aw an al ao (r + 1)) (nI k) (nI n) g fo aw an al ao (w + 1) (nI (rf_dd (fun k i => P (o k) (o i)) k + rf_s1 (fun i => P (o k) (o i)) i)) (nI i) := by
        intro w
        induction w with
        | zero =>
          intro i hi
          have e : i = k := by omega
          subst e
          exact br_t (Int32.le_refl _) (nm_r (nI_1 i) (ih (i + 1) (by omega)))
        | succ w ih2 =>
          intro i hi
          refine br_f (nI_ge (by omega) (by omega)) ⟨vp_in_nI (by omega) (by decide), vp_in_nI (by omega) (by decide), ?_⟩
          rw [nI_clamp (by omega), nI_clamp (by omega), ho k (by omega), ho i (by omega)]
          refine HY _ _ _ _ (hn k (by omega)) (hn i (by omega)) (hd k i (by omega) (by omega)) ?_
          refine nm_r ?_ (nm_r (nI_1 i) (ih2 (i + 1) (by omega)))
          rw [nI_add, Nat.add_assoc]
          rfl
      exact ⟨k + 1, key2 k 0 (by omega)⟩
  exact ⟨n + 1, key n 0 (by omega)⟩
theorem rf_Yod (n6 : n ≤ 6) (HY : rf_PY n g fo aw an al P) {ao : Nat → Int32} {c : Nat} (hc : c < rf_fc n) (ho : ∀ i, i < n → ao i = nI (rf_od n (2 ^ n - 1) c i)) {post : Int32 → Prop} (hp : post (nI (rf_ds P n (2 ^ n - 1) c))) : wpY_distance post (nI n, g, fo, aw, an, al, ao) := by
  have p := rf_p2 n (by omega)
  have s := rf_t10 n (by omega)
  rw [← rf_o4 n6 P n (2 ^ n - 1) c (by omega) s hc] at hp
  exact rf_Ydi n6 HY (o := rf_od n (2 ^ n - 1) c) ho (fun i hi => (rf_o1 n6 n _ c (by omega) s hc i hi).1) (fun k i hk hi => rf_o2 n6 n _ c (by omega) s hc k i hk hi) hp
theorem rf_Ybf (n6 : n ≤ 6) {ao : Nat → Int32} {c a b : Nat} (ha : a < n) (hb : b < n) (hab : a ≠ b) (hc : c < rf_fc n) (ho : ∀ i, i < n → ao i = nI (rf_od n (2 ^ n - 1) c i)) {post : Int32 → Prop} (h1 : rf_vl (fun d S => decide (d = b) && S.testBit a) n (2 ^ n - 1) c → post 1) (h0 : ¬ rf_vl (fun d S => decide (d = b) && S.testBit a) n (2 ^ n - 1) c → post 0) : wpY_before post (nI n, g, fo, aw, an, al, ao) (nI a) (nI b) := by
  have p := rf_p2 n (by omega)
  have s := rf_t10 n (by omega)
  obtain ⟨ka, kb, k1, k2, k3, k4, k5⟩ := rf_o7 n6 hab n (2 ^ n - 1) c (by omega) s hc ((rf_t11 n (by omega) a (by omega)).mpr ha) ((rf_t11 n (by omega) b (by omega)).mpr hb)
  have un : ∀ k i, k < n → i < n → rf_od n (2 ^ n - 1) c k = rf_od n (2 ^ n - 1) c i → k = i := by
    intro k i hk hi e
    apply Classical.byContradiction
    intro z
    by_cases l : i < k
    · exact rf_o2 n6 n _ c (by omega) s hc k i hk l e
    · exact rf_o2 n6 n _ c (by omega) s hc i k hi (by omega) e.symm
  have key : ∀ r k, k + r = n → wY_before_10 post (nI a) (nI b) (nI n) g fo aw an al ao (r + 1) (nI (if ka < k then ka else 6)) (nI (if kb < k then kb else 6)) (nI k) := by
    intro r
    induction r with
    | zero =>
      intro k hk
      have e : k = n := by omega
      subst e
      rw [if_pos k1, if_pos k2]
      refine br_t (Int32.le_refl _) (pk_le kb ka (fun l => h0 (fun v => ?_)) (fun l => h1 (k5.mpr l)))
      have := k5.mp v
      omega
    | succ r ih =>
      intro k hk
      have i := ih (k + 1) (by omega)
      have on := (rf_o1 n6 n _ c (by omega) s hc k (by omega)).1
      refine br_f (nI_ge (by omega) (by omega)) ⟨vp_in_nI (by omega) (by decide), ?_⟩
      rw [nI_clamp (by omega), ho k (by omega)]
      have tail : ∀ z0, z0 = (if ka < k + 1 then ka else 6) → wY_before_36 post (wY_before_10 post (nI a) (nI b) (nI n) g fo aw an al ao (r + 1)) (nI a) (nI b) (nI (if kb < k then kb else 6)) (nI k) (nI z0) (nI n) g fo aw an al ao := by
        intro z0 hz
        rw [← hz] at i
        refine ⟨vp_in_nI (by omega) (by decide), ?_⟩
        rw [nI_clamp (by omega), ho k (by omega)]
        refine pk_eq (rf_od n (2 ^ n - 1) c k) b (fun e => nm_r (nI_1 k) ?_) (fun e => nm_r (nI_1 k) ?_)
        · have e2 : k = kb := un k kb (by omega) k2 (e.trans k4.symm)
          rw [if_pos (by omega), ← e2] at i
          exact i
        · have e2 : k ≠ kb := fun z => e (by rw [z]; exact k4)
          have e3 : (if kb < k + 1 then kb else 6) = (if kb < k then kb else 6) := by
            by_cases l : kb < k
            · rw [if_pos l, if_pos (by omega)]
            · rw [if_neg l, if_neg (by omega)]
          rw [e3] at i
          exact i
      refine pk_eq (rf_od n (2 ^ n - 1) c k) a (fun e => tail k ?_) (fun e => tail _ ?_)
      · have e2 : k = ka := un k ka (by omega) k1 (e.trans k3.symm)
        rw [if_pos (by omega), e2]
      · have e2 : k ≠ ka := fun z => e (by rw [z]; exact k3)
        by_cases l : ka < k
        · rw [if_pos l, if_pos (by omega)]
        · rw [if_neg l, if_neg (by omega)]
  have e := key n 0 (by omega)
  rw [if_neg (by omega), if_neg (by omega)] at e
  exact ⟨n + 1, e⟩
theorem rf_dsb {P : Nat → Nat → Nat} (P45 : ∀ a b, P a b ≤ 45) : ∀ j S c, rf_ds P j S c ≤ 270 * j := by
  intro j
  induction j with
  | zero => intro S c; exact Nat.zero_le _
  | succ j ih =>
    intro S c
    have i := ih (rf_rm S (rf_nt S (c / rf_fc j))) (c % rf_fc j)
    have l := rf_ldb P45 (rf_nt S (c / rf_fc j)) (rf_rm S (rf_nt S (c / rf_fc j)))
    have s : rf_sz (rf_rm S (rf_nt S (c / rf_fc j))) ≤ 6 := by
      unfold rf_sz
      have h1 : ∀ N (S : Nat), rf_sm (fun _ => 1) S N ≤ N := by
        intro N
        induction N with
        | zero => intro S; exact Nat.le_refl _
        | succ N ih =>
          intro S
          have := ih S
          show rf_sm (fun _ => 1) S N + (if S.testBit N = true then 1 else 0) ≤ _
          split <;> omega
      exact h1 6 _
    show rf_ld P _ _ + rf_ds P j _ _ ≤ _
    omega
theorem rf_Yle (n6 : n ≤ 6) (HY : rf_PY n g (nI (rf_fc n)) aw an al P) (P45 : ∀ a b, P a b ≤ 45) {t : Nat} (tl : ∀ c, c < rf_fc n → t ≤ rf_ds P n (2 ^ n - 1) c) (te : ∃ c, c < rf_fc n ∧ rf_ds P n (2 ^ n - 1) c = t) {ao : Nat → Int32} {post : Int32 → SY → Prop} (hp : ∀ ao', post (nI t) (nI n, g, nI (rf_fc n), aw, an, al, ao')) : wpY_least post (nI n, g, nI (rf_fc n), aw, an, al, ao) := by
  have fb := rf_fcb n (by omega)
  have key : ∀ r c M (ao : Nat → Int32), c + r = rf_fc n → M ≤ 100000 → (∀ c', c' < c → M ≤ rf_ds P n (2 ^ n - 1) c') → (M = 100000 ∨ ∃ c', c' < c ∧ rf_ds P n (2 ^ n - 1) c' = M) → wY_least_5 post (r + 1) (nI M) (nI c) (nI n) g (nI (rf_fc n)) aw an al ao := by
    intro r
    induction r with
    | zero =>
      intro c M ao hc hM h1 h2
      have e : c = rf_fc n := by omega
      subst e
      obtain ⟨c1, c2, c3⟩ := te
      have a1 := h1 c1 c2
      have db := rf_dsb P45 n (2 ^ n - 1) c1
      have a2 : t ≤ M := by
        rcases h2 with h2 | ⟨c', h3, h4⟩
        · omega
        · have := tl c' h3
          omega
      have e : M = t := by omega
      rw [e]
      exact br_t (Int32.le_refl _) (hp ao)
    | succ r ih =>
      intro c M ao hc hM h1 h2
      refine br_f (nI_ge (by omega) (by omega)) (br_f (nI_ge (b := 720) (by omega) (by decide)) ?_)
      refine rf_Ysq n6 (by omega) (fun ao' ho => ?_)
      refine rf_Yod n6 HY (by omega) ho ?_
      have db := rf_dsb P45 n (2 ^ n - 1) c
      refine pk_le M (rf_ds P n (2 ^ n - 1) c) (fun l => nm_r (nI_1 c) (ih (c + 1) M ao' (by omega) hM (ax_lt1 h1 l) ?_)) (fun l => nm_r (nI_1 c) (ih (c + 1) _ ao' (by omega) (by omega) (ax_lt1 (fun c' hc' => ?_) (Nat.le_refl _)) ?_))
      · rcases h2 with h2 | ⟨c', h3, h4⟩
        · exact Or.inl h2
        · exact Or.inr ⟨c', by omega, h4⟩
      · have := h1 c' hc'
        omega
      · exact Or.inr ⟨c, by omega, rfl⟩
  exact ⟨rf_fc n + 1, key (rf_fc n) 0 100000 ao (by omega) (by omega) (fun c' hc' => absurd hc' (by omega)) (Or.inl rfl)⟩
theorem rf_Ylw (n6 : n ≤ 6) (HY : rf_PY n g (nI (rf_fc n)) aw an al P) (P45 : ∀ a b, P a b ≤ 45) {a b t : Nat} (ha : a < n) (hb : b < n) (hab : a ≠ b) (tl : ∀ c, c < rf_fc n → rf_vl (fun d S => decide (d = b) && S.testBit a) n (2 ^ n - 1) c → t ≤ rf_ds P n (2 ^ n - 1) c) (te : ∃ c, c < rf_fc n ∧ rf_vl (fun d S => decide (d = b) && S.testBit a) n (2 ^ n - 1) c ∧ rf_ds P n (2 ^ n - 1) c = t) {ao : Nat → Int32} {post : Int32 → SY → Prop} (hp : ∀ ao', post (nI t) (nI n, g, nI (rf_fc n), aw, an, al, ao')) : ∃ w : Nat, wY_leastWith_29 post (nI a) (nI b) w 100000 0 (nI n) g (nI (rf_fc n)) aw an al ao := by
  have fb := rf_fcb n (by omega)
  have key : ∀ r c M (ao : Nat → Int32), c + r = rf_fc n → M ≤ 100000 → (∀ c', c' < c → rf_vl (fun d S => decide (d = b) && S.testBit a) n (2 ^ n - 1) c' → M ≤ rf_ds P n (2 ^ n - 1) c') → (M = 100000 ∨ ∃ c', c' < c ∧ rf_vl (fun d S => decide (d = b) && S.testBit a) n (2 ^ n - 1) c' ∧ rf_ds P n (2 ^ n - 1) c' = M) → wY_leastWith_29 post (nI a) (nI b) (r + 1) (nI M) (nI c) (nI n) g (nI (rf_fc n)) aw an al ao := by
    intro r
    induction r with
    | zero =>
      intro c M ao hc hM h1 h2
      have e : c = rf_fc n := by omega
      subst e
      obtain ⟨c1, c2, c3, c4⟩ := te
      have a1 := h1 c1 c2 c3
      have db := rf_dsb P45 n (2 ^ n - 1) c1
      have a2 : t ≤ M := by
        rcases h2 with h2 | ⟨c', h3, h4, h5⟩
        · omega
        · have := tl c' h3 h4
          omega
      have e : M = t := by omega
      rw [e]
      exact br_t (Int32.le_refl _) (hp ao)
    | succ r ih =>
      intro c M ao hc hM h1 h2
      refine br_f (nI_ge (by omega) (by omega)) (br_f (nI_ge (b := 720) (by omega) (by decide)) ?_)
      have h2' : M = 100000 ∨ ∃ c', c' < c + 1 ∧ rf_vl (fun d S => decide (d = b) && S.testBit a) n (2 ^ n - 1) c' ∧ rf_ds P n (2 ^ n - 1) c' = M := by
        rcases h2 with h2 | ⟨c', h3, h4⟩
        · exact Or.inl h2
        · exact Or.inr ⟨c', by omega, h4⟩
      refine rf_Ysq n6 (by omega) (fun ao' ho => ?_)
      refine rf_Ybf n6 ha hb hab (by omega) ho (fun v => ?_) (fun v => ?_)
      · refine br_f (by decide) ?_
        refine rf_Yod n6 HY (by omega) ho ?_
        have db := rf_dsb P45 n (2 ^ n - 1) c
        refine pk_le M (rf_ds P n (2 ^ n - 1) c) (fun l => nm_r (nI_1 c) (ih (c + 1) M ao' (by omega) hM (ax_lt1 h1 (fun _ => l)) h2')) (fun l => nm_r (nI_1 c) (ih (c + 1) _ ao' (by omega) (by omega) (ax_lt1 (fun c' hc' v' => ?_) (fun _ => Nat.le_refl _)) ?_))
        · have := h1 c' hc' v'
          omega
        · exact Or.inr ⟨c, by omega, v, rfl⟩
      · exact br_t rfl (nm_r (nI_1 c) (ih (c + 1) M ao' (by omega) hM (ax_lt1 h1 (fun z => absurd z v)) h2'))
  exact ⟨rf_fc n + 1, key (rf_fc n) 0 100000 ao (by omega) (by omega) (fun c' hc' => absurd hc' (by omega)) (Or.inl rfl)⟩
theorem rf_Yba (n6 : n ≤ 6) (HY : rf_PY n g (nI (rf_fc n)) aw an al P) (P45 : ∀ a b, P a b ≤ 45) {t c0 K : Nat} (hK : K < n) (h0 : c0 < rf_fc n) (h1 : rf_ds P n (2 ^ n - 1) c0 = t) (h2 : ∀ c', c' < c0 → rf_ds P n (2 ^ n - 1) c' ≠ t) {ao : Nat → Int32} {post : Int32 → SY → Prop} (hp : ∀ ao', post (nI (rf_od n (2 ^ n - 1) c0 K)) (nI n, g, nI (rf_fc n), aw, an, al, ao')) : ∃ w : Nat, wY_bestAt_21 post (nI K) (nI t) w 0 (nI n) g (nI (rf_fc n)) aw an al ao := by
  have fb := rf_fcb n (by omega)
  have tb := rf_dsb P45 n (2 ^ n - 1) c0
  have key : ∀ r c (ao : Nat → Int32), c + r = rf_fc n → c ≤ c0 → wY_bestAt_21 post (nI K) (nI t) (r + 1) (nI c) (nI n) g (nI (rf_fc n)) aw an al ao := by
    intro r
    induction r with
    | zero => intro c ao hc hl; omega
    | succ r ih =>
      intro c ao hc hl
      refine br_f (nI_ge (by omega) (by omega)) (br_f (nI_ge (b := 720) (by omega) (by decide)) ?_)
      refine rf_Ysq n6 (by omega) (fun ao' ho => ?_)
      refine rf_Yod n6 HY (by omega) ho ?_
      have db := rf_dsb P45 n (2 ^ n - 1) c
      refine pk_eq (rf_ds P n (2 ^ n - 1) c) t (fun e => ⟨vp_in_nI (by omega) (by decide), ?_⟩) (fun e => nm_r (nI_1 c) (ih (c + 1) ao' (by omega) ?_))
      · have e2 : c = c0 := by
          apply Classical.byContradiction
          intro z
          exact h2 c (by omega) e
        rw [nI_clamp (by omega), ho K hK, e2]
        exact hp ao'
      · have e2 : c ≠ c0 := fun z => e (by rw [z]; exact h1)
        omega
  exact ⟨rf_fc n + 1, key (rf_fc n) 0 ao (by omega) (by omega)⟩
end
end
section
theorem rf_E0 {n : Nat} (n6 : n ≤ 6) : ∀ S, 1 ≤ S → S < 2 ^ n → ∃ d, d < n ∧ S.testBit d = true ∧ false = false := by
  intro S h1 hS
  have p := rf_p2 n (by omega)
  obtain ⟨d, -, h⟩ := rf_ne (by omega) h1
  exact ⟨d, rf_bl hS h, h, rfl⟩
theorem rf_E1 {n a b : Nat} (n6 : n ≤ 6) (hab : a ≠ b) : ∀ S, 1 ≤ S → S < 2 ^ n → ∃ d, d < n ∧ S.testBit d = true ∧ (fun d S => decide (d = b) && S.testBit a) d S = false := by
  intro S h1 hS
  by_cases e : S.testBit a = true
  · refine ⟨a, rf_bl hS e, e, ?_⟩
    dsimp only
    rw [decide_eq_false hab]
    exact Bool.false_and _
  · obtain ⟨d, h2, h3, -⟩ := rf_E0 n6 S h1 hS
    refine ⟨d, h2, h3, ?_⟩
    dsimp only
    cases hh : S.testBit a
    · exact Bool.and_false _
    · exact absurd hh e
theorem rf_T0 {n : Nat} (n6 : n ≤ 6) : ∀ d S, d < n → S < 64 → ((fun (_ _ : Nat) => false) d S = true ↔ (nI d = -1 ∧ ((nI S >>> ((-1) &&& 31)) &&& 1) = 1)) := by
  intro d S hd _
  refine ⟨fun h => absurd (show false = true from h) (by decide), fun h => ?_⟩
  have z : ¬ nI d < 0 := nI_pos (by omega)
  rw [h.1] at z
  exact absurd (by decide) z
theorem rf_T1 {n a b : Nat} (n6 : n ≤ 6) (ha : a < n) (hb : b < n) : ∀ d S, d < n → S < 64 → ((fun d S => decide (d = b) && S.testBit a) d S = true ↔ (nI d = nI b ∧ ((nI S >>> (nI a &&& 31)) &&& 1) = 1)) := by
  intro d S hd hS
  rw [rf_has S hS a (by omega), nI_eq (by omega) (by omega)]
  dsimp only
  rw [Bool.and_eq_true, decide_eq_true_iff]
theorem rf_tb1 {P : Nat → Nat → Nat} {n : Nat} {T : Nat → Nat → Bool} {t : Nat → Nat} (tb : rf_tb P n T t) : ∀ S, S < 2 ^ n → t S ≤ 1000 := by
  intro S hS
  by_cases z : S = 0
  · rw [z, tb.1]; omega
  · rw [tb.2 S (by omega) hS]
    exact (rf_mnex n).1
theorem i_vc_least {k : Nat} {u : SX} {v : SY} (I : i_Rel k u v) (hk : k + 3 ≤ 1537) : wpX_least (fun r u' => wpY_least (fun r' v' => r' = r ∧ i_Rel (k + 3) u' v') v) u := by
  obtain ⟨n, g, aw, an, ap, al, asd, aps, ao, P, rfl, rfl, n2, n6, HX, HY, P45, P0, R⟩ := rf_open I
  have p := rf_p2 n (by omega)
  unfold wpX_least
  dsimp only
  refine rf_Xfs n6 HX P45 (rf_T0 n6) (fun asd' t aT tb => ?_)
  unfold wpX_allDocuments
  dsimp only
  rw [rf_all n (by omega), nI_clamp (by omega), aT _ (by omega)]
  refine ⟨vp_in_nI (by omega) (by decide), ?_⟩
  have A := rf_A n6 P45 tb (rf_E0 n6) n (2 ^ n - 1) (by omega) (rf_t10 n (by omega))
  obtain ⟨c, c1, -, c3⟩ := A.2.1
  exact rf_Yle n6 HY P45 (fun c hc => A.1 c hc (rf_vt _ _ _)) ⟨c, c1, c3⟩ (fun ao' => ⟨rfl, R _ _ _ _⟩)
theorem i_vc_leastWith {k : Nat} {u : SX} {v : SY} (I : i_Rel k u v) (hk : k + 3 ≤ 1537) (v1 : Int32) (v2 : Int32) : wpX_leastWith (fun r u' => wpY_leastWith (fun r' v' => r' = r ∧ i_Rel (k + 3) u' v') v v1 v2) u v1 v2 := by
  obtain ⟨n, g, aw, an, ap, al, asd, aps, ao, P, rfl, rfl, n2, n6, HX, HY, P45, P0, R⟩ := rf_open I
  have p := rf_p2 n (by omega)
  unfold wpX_leastWith
  dsimp only
  rcases rf_pr v1 v2 n6 with h | ⟨a, b, ha, hb, hab, rfl, rfl⟩
  · refine rf_Xpr0 n6 h ?_
    refine br_t rfl ?_
    refine rf_Ypr0 n6 h ?_
    exact ⟨rfl, R _ _ _ _⟩
  · refine rf_Xpr1 n6 ha hb hab ?_
    refine br_f (by decide) ?_
    refine rf_Xfs n6 HX P45 (rf_T1 n6 ha hb) (fun asd' t aT tb => ?_)
    unfold wpX_allDocuments
    dsimp only
    rw [rf_all n (by omega), nI_clamp (by omega), aT _ (by omega)]
    refine ⟨vp_in_nI (by omega) (by decide), ?_⟩
    have A := rf_A n6 P45 tb (rf_E1 n6 hab) n (2 ^ n - 1) (by omega) (rf_t10 n (by omega))
    unfold wpY_leastWith
    dsimp only
    refine rf_Ypr1 n6 ha hb hab ?_
    exact rf_Ylw n6 HY P45 ha hb hab A.1 A.2.1 (fun ao' => ⟨rfl, R _ _ _ _⟩)
theorem i_vc_bestAt {k : Nat} {u : SX} {v : SY} (I : i_Rel k u v) (hk : k + 3 ≤ 1537) (v1 : Int32) : wpX_bestAt (fun r u' => wpY_bestAt (fun r' v' => r' = r ∧ i_Rel (k + 3) u' v') v v1) u v1 := by
  obtain ⟨n, g, aw, an, ap, al, asd, aps, ao, P, rfl, rfl, n2, n6, HX, HY, P45, P0, R⟩ := rf_open I
  have p := rf_p2 n (by omega)
  unfold wpX_bestAt
  dsimp only
  rcases rf_ix2 v1 n6 with h | ⟨K, hK, rfl⟩
  · refine rf_bad h ?_
    refine br_t rfl ?_
    by_cases z : v1 < 0
    · exact br_t z ⟨rfl, R _ _ _ _⟩
    · rcases h with h | h
      · exact absurd h z
      · exact br_f z (br_f (Int32.not_lt.mpr h) ⟨rfl, R _ _ _ _⟩)
  · refine rf_ok n6 hK ?_
    refine br_f (by decide) ?_
    refine rf_Xfs n6 HX P45 (rf_T0 n6) (fun asd' t aT tb => ?_)
    unfold wpX_allDocuments
    dsimp only
    rw [rf_all n (by omega)]
    have sz := rf_t10 n (by omega)
    have A := rf_A n6 P45 tb (rf_E0 n6) n (2 ^ n - 1) (by omega) sz
    obtain ⟨c, ⟨c1, c2⟩, c3⟩ := pk_least (fun c => c < rf_fc n ∧ rf_ds P n (2 ^ n - 1) c = t (2 ^ n - 1)) (by
      obtain ⟨c, c1, -, c3⟩ := A.2.1
      exact ⟨c, c1, c3⟩)
    have c4 : ∀ c', c' < c → rf_ds P n (2 ^ n - 1) c' ≠ t (2 ^ n - 1) := fun c' hc' e => c3 c' hc' ⟨by omega, e⟩
    have Yw : wpY_bestAt (fun r' v' => r' = nI (rf_od n (2 ^ n - 1) c K) ∧ i_Rel (k + 3) (nI n, g, aw, an, ap, asd', aps) v') (nI n, g, nI (rf_fc n), aw, an, al, ao) (nI K) := by
      refine br_f (nI_pos (by omega)) (br_t (nI_lt hK (by omega)) ?_)
      refine rf_Yle n6 HY P45 (fun c hc => A.1 c hc (rf_vt _ _ _)) ⟨c, c1, c2⟩ (fun ao' => ?_)
      exact rf_Yba n6 HY P45 hK c1 c2 c4 (fun ao'' => ⟨rfl, R _ _ _ _⟩)
    obtain ⟨j, rfl⟩ : ∃ j, n = j + 1 := ⟨n - 1, by omega⟩
    have fs : rf_fs P t (j + 1) (2 ^ (j + 1) - 1) c := ⟨c1, c2, c4⟩
    have B := (rf_B n6 P45 tb (rf_E0 n6) (by omega) sz fs).1
    obtain ⟨x1, x2, x3, x4, x5, x6⟩ := rf_st n6 (by omega) sz c1
    refine rf_Xbl n6 HX P45 aT (rf_tb1 tb) (by omega) x4 B.1 B.2 ?_
    exact ⟨K + 1, rf_Xba n6 HX P45 tb (rf_E0 n6) aT (rf_tb1 tb) hK K 0 _ j c (by omega) (by omega) sz fs (by omega) Yw⟩
end
