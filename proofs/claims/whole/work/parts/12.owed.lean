theorem rf_E0 {n : Nat} (n6 : n ≤ 6) : ∀ S, 1 ≤ S → S < 2 ^ n → ∃ d, d < n ∧ S.testBit d = true ∧ false = false := by
  intro S h1 hS
  have p := rf_p2 n (by omega)
  obtain ⟨d, -, h⟩ := rf_ne (by omega) h1
  exact ⟨d, rf_bl hS h, h, rfl⟩
theorem rf_E1 {n a b : Nat} (n6 : n ≤ 6) (hab : a ≠ b) : ∀ S, 1 ≤ S → S < 2 ^ n → ∃ d, d < n ∧ S.testBit d = true ∧ (fun d S => decide (d = b) && S.testBit a) d S = false := by
  intro S h1 hS
  by_cases e : S.testBit a = true
  · refine ⟨a, rf_bl hS e, e, ?_⟩
    dsimp only
    rw [decide_eq_false hab]
    exact Bool.false_and _
  · obtain ⟨d, h2, h3, -⟩ := rf_E0 n6 S h1 hS
    refine ⟨d, h2, h3, ?_⟩
    dsimp only
    cases hh : S.testBit a
    · exact Bool.and_false _
    · exact absurd hh e
theorem rf_T0 {n : Nat} (n6 : n ≤ 6) : ∀ d S, d < n → S < 64 → ((fun (_ _ : Nat) => false) d S = true ↔ (nI d = -1 ∧ ((nI S >>> ((-1) &&& 31)) &&& 1) = 1)) := by
  intro d S hd _
  refine ⟨fun h => absurd (show false = true from h) (by decide), fun h => ?_⟩
  have z : ¬ nI d < 0 := nI_pos (by omega)
  rw [h.1] at z
  exact absurd (by decide) z
theorem rf_T1 {n a b : Nat} (n6 : n ≤ 6) (ha : a < n) (hb : b < n) : ∀ d S, d < n → S < 64 → ((fun d S => decide (d = b) && S.testBit a) d S = true ↔ (nI d = nI b ∧ ((nI S >>> (nI a &&& 31)) &&& 1) = 1)) := by
  intro d S hd hS
  rw [rf_has S hS a (by omega), nI_eq (by omega) (by omega)]
  dsimp only
  rw [Bool.and_eq_true, decide_eq_true_iff]
theorem rf_tb1 {P : Nat → Nat → Nat} {n : Nat} {T : Nat → Nat → Bool} {t : Nat → Nat} (tb : rf_tb P n T t) : ∀ S, S < 2 ^ n → t S ≤ 1000 := by
  intro S hS
  by_cases z : S = 0
  · rw [z, tb.1]; omega
  · rw [tb.2 S (by omega) hS]
    exact (rf_mnex n).1
theorem i_vc_least {k : Nat} {u : SX} {v : SY} (I : i_Rel k u v) (hk : k + 3 ≤ 1537) : wpX_least (fun r u' => wpY_least (fun r' v' => r' = r ∧ i_Rel (k + 3) u' v') v) u := by
  obtain ⟨n, g, aw, an, ap, al, asd, aps, ao, P, rfl, rfl, n2, n6, HX, HY, P45, P0, R⟩ := rf_open I
  have p := rf_p2 n (by omega)
  unfold wpX_least
  dsimp only
  refine rf_Xfs n6 HX P45 (rf_T0 n6) (fun asd' t aT tb => ?_)
  unfold wpX_allDocuments
  dsimp only
  rw [rf_all n (by omega), nI_clamp (by omega), aT _ (by omega)]
  refine ⟨vp_in_nI (by omega) (by decide), ?_⟩
  have A := rf_A n6 P45 tb (rf_E0 n6) n (2 ^ n - 1) (by omega) (rf_t10 n (by omega))
  obtain ⟨c, c1, -, c3⟩ := A.2.1
  exact rf_Yle n6 HY P45 (fun c hc => A.1 c hc (rf_vt _ _ _)) ⟨c, c1, c3⟩ (fun ao' => ⟨rfl, R _ _ _ _⟩)
theorem i_vc_leastWith {k : Nat} {u : SX} {v : SY} (I : i_Rel k u v) (hk : k + 3 ≤ 1537) (v1 : Int32) (v2 : Int32) : wpX_leastWith (fun r u' => wpY_leastWith (fun r' v' => r' = r ∧ i_Rel (k + 3) u' v') v v1 v2) u v1 v2 := by
  obtain ⟨n, g, aw, an, ap, al, asd, aps, ao, P, rfl, rfl, n2, n6, HX, HY, P45, P0, R⟩ := rf_open I
  have p := rf_p2 n (by omega)
  unfold wpX_leastWith
  dsimp only
  rcases rf_pr v1 v2 n6 with h | ⟨a, b, ha, hb, hab, rfl, rfl⟩
  · refine rf_Xpr0 n6 h ?_
    refine br_t rfl ?_
    refine rf_Ypr0 n6 h ?_
    exact ⟨rfl, R _ _ _ _⟩
  · refine rf_Xpr1 n6 ha hb hab ?_
    refine br_f (by decide) ?_
    refine rf_Xfs n6 HX P45 (rf_T1 n6 ha hb) (fun asd' t aT tb => ?_)
    unfold wpX_allDocuments
    dsimp only
    rw [rf_all n (by omega), nI_clamp (by omega), aT _ (by omega)]
    refine ⟨vp_in_nI (by omega) (by decide), ?_⟩
    have A := rf_A n6 P45 tb (rf_E1 n6 hab) n (2 ^ n - 1) (by omega) (rf_t10 n (by omega))
    unfold wpY_leastWith
    dsimp only
    refine rf_Ypr1 n6 ha hb hab ?_
    exact rf_Ylw n6 HY P45 ha hb hab A.1 A.2.1 (fun ao' => ⟨rfl, R _ _ _ _⟩)
theorem i_vc_bestAt {k : Nat} {u : SX} {v : SY} (I : i_Rel k u v) (hk : k + 3 ≤ 1537) (v1 : Int32) : wpX_bestAt (fun r u' => wpY_bestAt (fun r' v' => r' = r ∧ i_Rel (k + 3) u' v') v v1) u v1 := by
  obtain ⟨n, g, aw, an, ap, al, asd, aps, ao, P, rfl, rfl, n2, n6, HX, HY, P45, P0, R⟩ := rf_open I
  have p := rf_p2 n (by omega)
  unfold wpX_bestAt
  dsimp only
  rcases rf_ix2 v1 n6 with h | ⟨K, hK, rfl⟩
  · refine rf_bad h ?_
    refine br_t rfl ?_
    by_cases z : v1 < 0
    · exact br_t z ⟨rfl, R _ _ _ _⟩
    · rcases h with h | h
      · exact absurd h z
      · exact br_f z (br_f (Int32.not_lt.mpr h) ⟨rfl, R _ _ _ _⟩)
  · refine rf_ok n6 hK ?_
    refine br_f (by decide) ?_
    refine rf_Xfs n6 HX P45 (rf_T0 n6) (fun asd' t aT tb => ?_)
    unfold wpX_allDocuments
    dsimp only
    rw [rf_all n (by omega)]
    have sz := rf_t10 n (by omega)
    have A := rf_A n6 P45 tb (rf_E0 n6) n (2 ^ n - 1) (by omega) sz
    obtain ⟨c, ⟨c1, c2⟩, c3⟩ := pk_least (fun c => c < rf_fc n ∧ rf_ds P n (2 ^ n - 1) c = t (2 ^ n - 1)) (by
      obtain ⟨c, c1, -, c3⟩ := A.2.1
      exact ⟨c, c1, c3⟩)
    have c4 : ∀ c', c' < c → rf_ds P n (2 ^ n - 1) c' ≠ t (2 ^ n - 1) := fun c' hc' e => c3 c' hc' ⟨by omega, e⟩
    have Yw : wpY_bestAt (fun r' v' => r' = nI (rf_od n (2 ^ n - 1) c K) ∧ i_Rel (k + 3) (nI n, g, aw, an, ap, asd', aps) v') (nI n, g, nI (rf_fc n), aw, an, al, ao) (nI K) := by
      refine br_f (nI_pos (by omega)) (br_t (nI_lt hK (by omega)) ?_)
      refine rf_Yle n6 HY P45 (fun c hc => A.1 c hc (rf_vt _ _ _)) ⟨c, c1, c2⟩ (fun ao' => ?_)
      exact rf_Yba n6 HY P45 hK c1 c2 c4 (fun ao'' => ⟨rfl, R _ _ _ _⟩)
    obtain ⟨j, rfl⟩ : ∃ j, n = j + 1 := ⟨n - 1, by omega⟩
    have fs : rf_fs P t (j + 1) (2 ^ (j + 1) - 1) c := ⟨c1, c2, c4⟩
    have B := (rf_B n6 P45 tb (rf_E0 n6) (by omega) sz fs).1
    obtain ⟨x1, x2, x3, x4, x5, x6⟩ := rf_st n6 (by omega) sz c1
    refine rf_Xbl n6 HX P45 aT (rf_tb1 tb) (by omega) x4 B.1 B.2 ?_
    exact ⟨K + 1, rf_Xba n6 HX P45 tb (rf_E0 n6) aT (rf_tb1 tb) hK K 0 _ j c (by omega) (by omega) sz fs (by omega) Yw⟩
