def rf_nz (x : Nat) : Nat := if x = 0 then 0 else 1
theorem rf_nz1 (x : Nat) : rf_nz x ≤ 1 := by unfold rf_nz; split <;> omega
def rf_ct (q : Nat → Nat) : Nat := rf_nz (q 0) + rf_nz (q 1) + rf_nz (q 2) + rf_nz (q 3) + rf_nz (q 4) + rf_nz (q 5)
theorem rf_ct6 (q : Nat → Nat) : rf_ct q ≤ 6 := by
  have := rf_nz1 (q 0); have := rf_nz1 (q 1); have := rf_nz1 (q 2); have := rf_nz1 (q 3); have := rf_nz1 (q 4); have := rf_nz1 (q 5)
  unfold rf_ct; omega
def rf_K (k wt c : Nat) (q : Nat → Nat) (aw an ap al : Nat → Int32) : Prop :=
  aw k = nI wt ∧ wt ≤ 9 ∧ an k = nI c ∧ c = rf_ct q ∧ (∀ d, d < 6 → ap (6 * k + d) = nI (q d) ∧ q d ≤ c ∧ (∀ p, q d = p + 1 → al (6 * k + p) = nI d)) ∧ (∀ p, p < c → ∃ d, d < 6 ∧ q d = p + 1)
def rf_Q (n m : Nat) (wt c : Nat → Nat) (q : Nat → Nat → Nat) (aw an ap al : Nat → Int32) : Prop :=
  2 ≤ n ∧ n ≤ 6 ∧ m ≤ 5 ∧ ∀ k, k < m → rf_K k (wt k) (c k) (q k) aw an ap al
def rf_P (wt : Nat → Nat) (q : Nat → Nat → Nat) (a b : Nat) : Nat → Nat
  | 0 => 0
  | k + 1 => rf_P wt q a b k + (if q k a ≠ 0 ∧ (q k b = 0 ∨ q k a < q k b) then wt k else 0)
theorem rf_Paa (wt : Nat → Nat) (q : Nat → Nat → Nat) (a : Nat) : ∀ k, rf_P wt q a a k = 0 := by
  intro k
  induction k with
  | zero => rfl
  | succ k ih =>
    show rf_P wt q a a k + _ = 0
    rw [ih, if_neg (by omega)]
theorem rf_Pb {wt : Nat → Nat} (q : Nat → Nat → Nat) (a b : Nat) : ∀ k, (∀ j, j < k → wt j ≤ 9) → rf_P wt q a b k ≤ 9 * k := by
  intro k
  induction k with
  | zero => intro _; exact Nat.le_refl _
  | succ k ih =>
    intro h
    have i1 := ih (fun j hj => h j (by omega))
    have i2 := h k (by omega)
    show rf_P wt q a b k + _ ≤ _
    split <;> omega
section
variable {n m : Nat} {wt c : Nat → Nat} {q : Nat → Nat → Nat} {aw an ap al : Nat → Int32}
theorem rf_ix {k d : Nat} : nI k * 6 + nI d = nI (6 * k + d) := by
  rw [show (6 : Int32) = nI 6 from rfl, pk_mul, nI_add, Nat.mul_comm]
theorem rf_iy {k d : Nat} : 6 * nI k + nI d = nI (6 * k + d) := by
  rw [show (6 : Int32) = nI 6 from rfl, pk_mul, nI_add]
theorem rf_Xa {f g : Int32} {asd aps : Nat → Int32} {k wk ck : Nat} {qk : Nat → Nat} (K : rf_K k wk ck qk aw an ap al) (hk : k < 5) {a b : Nat} (ha : a < 6) (hb : b < 6) {post : Int32 → Prop} (hp : post (if qk a ≠ 0 ∧ (qk b = 0 ∨ qk a < qk b) then 1 else 0)) : wpX_putsAbove post (f, g, aw, an, ap, asd, aps) (nI k) (nI a) (nI b) := by
  obtain ⟨-, -, -, hc, hd, -⟩ := K
  obtain ⟨a1, a2, -⟩ := hd a ha
  obtain ⟨b1, b2, -⟩ := hd b hb
  have c6 := rf_ct6 qk
  unfold wpX_putsAbove wpX_placeIndex
  dsimp only
  rw [rf_ix, rf_ix, nI_clamp (by omega), nI_clamp (by omega), a1, b1]
  refine ⟨vp_in_nI (by omega) (by omega), nm_e ⟨vp_in_nI (by omega) (by omega), nm_e ?_⟩⟩
  refine pk_eq (qk a) 0 (fun h => ?_) (fun h => ?_)
  · rw [if_neg (by omega)] at hp; exact hp
  refine pk_eq (qk b) 0 (fun h => ?_) (fun h => ?_)
  · rw [if_pos (by omega)] at hp; exact hp
  refine pk_le (qk b) (qk a) (fun h => ?_) (fun h => ?_)
  · rw [if_neg (by omega)] at hp; exact hp
  · rw [if_pos (by omega)] at hp; exact hp
theorem rf_Xp (Q : rf_Q n m wt c q aw an ap al) {asd aps : Nat → Int32} {a b : Nat} (ha : a < 6) (hb : b < 6) {post : Int32 → Prop} (hp : post (nI (rf_P wt q a b m))) : wpX_preference post (nI n, nI m, aw, an, ap, asd, aps) (nI a) (nI b) := by
  obtain ⟨n2, n6, m5, hK⟩ := Q
  have key : ∀ r k, k + r = m → wX_preference_5 post (nI a) (nI b) (nI n) (nI m) aw an ap asd aps (r + 1) (nI (rf_P wt q a b k)) (nI k) := by
    intro r
    induction r with
    | zero =>
      intro k hk
      have e : k = m := by omega
      subst e
      exact br_t (nI_le (by omega) (by omega)) hp
    | succ r ih =>
      intro k hk
      refine br_f (nI_ge (by omega) (by omega)) ?_
      have K := hK k (by omega)
      refine rf_Xa K (by omega) ha hb ?_
      have i1 := ih (k + 1) (by omega)
      by_cases e : q k a ≠ 0 ∧ (q k b = 0 ∨ q k a < q k b)
      · rw [if_pos e]
        refine br_f (by decide) ⟨vp_in_nI (by omega) (by omega), nm_r (e' := nI (rf_P wt q a b (k + 1))) ?_ (nm_r (nI_1 k) i1)⟩
        rw [nI_clamp (by omega), K.1, nI_add]
        show nI _ = nI (rf_P wt q a b k + _)
        rw [if_pos e]
      · rw [if_neg e]
        refine br_t rfl (nm_r (nI_1 k) ?_)
        have e2 : rf_P wt q a b (k + 1) = rf_P wt q a b k := by
          show rf_P wt q a b k + _ = _
          rw [if_neg e, Nat.add_zero]
        rw [e2] at i1
        exact i1
  exact ⟨m + 1, key m 0 (by omega)⟩
theorem rf_Yl {f g h : Int32} {ao : Nat → Int32} {k wk ck : Nat} {qk : Nat → Nat} (K : rf_K k wk ck qk aw an ap al) (hk : k < 5) {d : Nat} (hd6 : d < 6) {post : Int32 → Prop} (hp : post (nI (if qk d = 0 then 6 else qk d - 1))) : wpY_place post (f, g, h, aw, an, al, ao) (nI k) (nI d) := by
  obtain ⟨-, -, hn, hc, hd, hl⟩ := K
  have c6 := rf_ct6 qk
  obtain ⟨d1, d2, d3⟩ := hd d hd6
  have key : ∀ r p, p + r = ck → (∀ p', p' < p → qk d ≠ p' + 1) → wY_place_2 post (nI k) (nI d) f g h aw an al ao (r + 1) (nI p) := by
    intro r
    induction r with
    | zero =>
      intro p hpk hne
      refine ⟨vp_in_nI (by omega) (by omega), ?_⟩
      rw [nI_clamp (by omega), hn]
      refine br_t (nI_le (by omega) (by omega)) ?_
      have e : qk d = 0 := by
        have := hne (qk d - 1)
        omega
      rw [if_pos e] at hp
      exact hp
    | succ r ih =>
      intro p hpk hne
      refine ⟨vp_in_nI (by omega) (by omega), ?_⟩
      rw [nI_clamp (by omega), hn, rf_iy, nI_clamp (by omega)]
      refine br_f (nI_ge (by omega) (by omega)) (br_f (nI_ge (b := 6) (by omega) (by decide)) ⟨vp_in_nI (by omega) (by omega), ?_⟩)
      by_cases e : qk d = p + 1
      · refine br_t (d3 p e) ?_
        rw [if_neg (by omega), e] at hp
        exact hp
      · refine br_f ?_ (nm_r (nI_1 p) (ih (p + 1) (by omega) ?_))
        · intro z
          obtain ⟨d', h6, hq⟩ := hl p (by omega)
          have z2 := ((hd d' h6).2.2 p hq).symm.trans z
          rw [nI_eq (by omega) (by omega)] at z2
          exact e (z2 ▸ hq)
        · exact ax_lt1 hne e
  exact ⟨ck + 1, key ck 0 (by omega) (fun p' h => absurd h (by omega))⟩
theorem rf_Yd {fo g : Int32} {aw an al ao : Nat → Int32} (hn : n ≤ 6) {d : Nat} (hd : d < n) {post : Int32 → Prop} (hp : post 1) : wpY_document post (nI n, g, fo, aw, an, al, ao) (nI d) :=
  br_f (nI_pos (by omega)) (br_f (nI_ge (by omega) (by omega)) hp)
theorem rf_Xd {g : Int32} {aw an ap asd aps : Nat → Int32} (hn : n ≤ 6) {d : Nat} (hd : d < n) {post : Int32 → Prop} (hp : post 1) : wpX_isDocument post (nI n, g, aw, an, ap, asd, aps) (nI d) :=
  br_f (nI_pos (by omega)) (br_f (nI_ge (by omega) (by omega)) hp)
theorem rf_Yp (Q : rf_Q n m wt c q aw an ap al) {fo : Int32} {ao : Nat → Int32} {a b : Nat} (ha : a < n) (hb : b < n) (hab : a ≠ b) {post : Int32 → Prop} (hp : post (nI (rf_P wt q a b m))) : wpY_prefers post (nI n, nI m, fo, aw, an, al, ao) (nI a) (nI b) := by
  obtain ⟨n2, n6, m5, hK⟩ := Q
  have key : ∀ r k, k + r = m → wY_prefers_28 post (nI a) (nI b) (nI n) (nI m) fo aw an al ao (r + 1) (nI (rf_P wt q a b k)) (nI k) := by
    intro r
    induction r with
    | zero =>
      intro k hk
      have e : k = m := by omega
      subst e
      exact br_t (nI_le (by omega) (by omega)) hp
    | succ r ih =>
      intro k hk
      refine br_f (nI_ge (by omega) (by omega)) ?_
      have K := hK k (by omega)
      refine rf_Yl K (by omega) (by omega) (rf_Yl K (by omega) (by omega) ?_)
      have i1 := ih (k + 1) (by omega)
      obtain ⟨kw, -, -, kc, kd, -⟩ := K
      have c6 := rf_ct6 (q k)
      have qa := (kd a (by omega)).2.1
      have qb := (kd b (by omega)).2.1
      by_cases e : q k a ≠ 0 ∧ (q k b = 0 ∨ q k a < q k b)
      · refine br_f ?_ ⟨vp_in_nI (by omega) (by omega), nm_r (e' := nI (rf_P wt q a b (k + 1))) ?_ (nm_r (nI_1 k) i1)⟩
        · refine nI_ge ?_ ?_
          · split <;> split <;> omega
          · split <;> omega
        · rw [nI_clamp (by omega), kw, nI_add]
          show nI _ = nI (rf_P wt q a b k + _)
          rw [if_pos e]
      · refine br_t ?_ (nm_r (e' := nI (rf_P wt q a b (k + 1))) ?_ (nm_r (nI_1 k) i1))
        · refine nI_le ?_ ?_
          · split <;> split <;> omega
          · split <;> omega
        · show _ = nI (rf_P wt q a b k + _)
          rw [if_neg e, Nat.add_zero, Int32.add_zero]
  refine br_f ?_ (rf_Yd n6 ha (br_f (by decide) (rf_Yd n6 hb (br_f (by decide) ⟨m + 1, key m 0 (by omega)⟩))))
  rw [nI_eq (by omega) (by omega)]
  exact hab
end
