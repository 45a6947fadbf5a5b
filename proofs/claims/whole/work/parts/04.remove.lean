def rf_sf (a : Nat → Int32) (k : Nat) : Nat → (Nat → Int32)
  | 0 => a
  | r + 1 => rf_sf (upd a k (a (k + 1))) (k + 1) r
theorem rf_sfv : ∀ r k (a : Nat → Int32) j, rf_sf a k r j = if k ≤ j ∧ j < k + r then a (j + 1) else a j := by
  intro r
  induction r with
  | zero => intro k a j; rw [if_neg (by omega)]; rfl
  | succ r ih =>
    intro k a j
    show rf_sf (upd a k (a (k + 1))) (k + 1) r j = _
    rw [ih]
    by_cases e : j = k
    · subst e
      rw [if_neg (by omega), if_pos (by omega), pk_us]
    · by_cases h : k ≤ j ∧ j < k + (r + 1)
      · rw [if_pos h, if_pos (by omega), pk_un (by omega)]
      · rw [if_neg h, if_neg (by omega), pk_un e]
theorem rf_cpX {post : SX → Prop} {f g : Int32} {k : Nat} (hk : k < 4) {aw an asd aps : Nat → Int32} {ap0 : Nat → Int32} (hp : ∀ ap' : Nat → Int32, (∀ i, i < 6 * k ∨ 6 * k + 6 ≤ i → ap' i = ap0 i) → (∀ i, 6 * k ≤ i → i < 6 * k + 6 → ap' i = ap0 (i + 6)) → post (f, g, upd aw k (aw (k + 1)), upd an k (an (k + 1)), ap', asd, aps)) : wpX_copyRanking post (f, g, aw, an, ap0, asd, aps) (nI (k + 1)) (nI k) := by
  have v1 : vp_in (nI (k + 1)) 5 := vp_in_nI (by omega) (by decide)
  have v0 : vp_in (nI k) 5 := vp_in_nI (by omega) (by decide)
  have key : ∀ r d (ap : Nat → Int32), d + r = 6 → (∀ i, i < 6 * k ∨ 6 * k + d ≤ i → ap i = ap0 i) → (∀ i, 6 * k ≤ i → i < 6 * k + d → ap i = ap0 (i + 6)) → wX_copyRanking_26 post (nI (k + 1)) (nI k) f g (r + 1) (nI d) (upd aw k (aw (k + 1))) (upd an k (an (k + 1))) ap asd aps := by
    intro r
    induction r with
    | zero =>
      intro d ap hd h1 h2
      have e : d = 6 := by omega
      subst e
      exact br_t (Int32.le_refl _) (hp ap h1 h2)
    | succ r ih =>
      intro d ap hd h1 h2
      refine br_f (nI_ge (b := 6) (by omega) (by decide)) ?_
      show vp_in (nI (k + 1) * 6 + nI d) 30 ∧ (vp_in (nI k * 6 + nI d) 30 ∧ _)
      rw [rf_ix, rf_ix]
      refine ⟨vp_in_nI (by omega) (by decide), vp_in_nI (by omega) (by decide), nm_e (nm_r (nI_1 d) (ih (d + 1) _ (by omega) ?_ ?_))⟩
      · intro i hi
        rw [nI_clamp (by omega), pk_un (by omega)]
        exact h1 i (by omega)
      · intro i h3 h4
        rw [nI_clamp (by omega), nI_clamp (by omega)]
        by_cases e : i = 6 * k + d
        · subst e
          rw [pk_us, h1 _ (by omega)]
          exact congrArg ap0 (by omega)
        · rw [pk_un e]
          exact h2 i h3 (by omega)
  have e := key 6 0 ap0 (by omega) (fun _ _ => rfl) (fun i h3 h4 => absurd h4 (by omega))
  refine ⟨v1, v0, ?_⟩
  rw [nI_clamp (by omega), nI_clamp (by omega)]
  exact nm_e ⟨v1, v0, nm_e ⟨7, e⟩⟩
theorem rf_Xrm {post : Int32 → SX → Prop} {n m : Nat} (m5 : m ≤ 5) {asd aps : Nat → Int32} : ∀ r k (aw an ap : Nat → Int32), k + r + 1 = m → (∀ ap' : Nat → Int32, (∀ i, i < 6 * k → ap' i = ap i) → (∀ i, 6 * k ≤ i → i < 6 * k + 6 * r → ap' i = ap (i + 6)) → post 1 (nI n, nI (m - 1), rf_sf aw k r, rf_sf an k r, ap', asd, aps)) → wX_remove_12 post (r + 1) (nI k) (nI n) (nI m) aw an ap asd aps := by
  intro r
  have em : ∀ k, k + 1 ≤ m → nI m - 1 = nI (m - 1) := by
    intro k h
    obtain ⟨m', rfl⟩ : ∃ m', m = m' + 1 := ⟨m - 1, by omega⟩
    rw [nI_pred, Nat.add_sub_cancel]
  induction r with
  | zero =>
    intro k aw an ap hk hp
    refine br_t ?_ (nm_r (em k (by omega)) (hp ap (fun _ _ => rfl) (fun i h3 h4 => absurd h4 (by omega))))
    rw [em k (by omega)]
    exact nI_le (by omega) (by omega)
  | succ r ih =>
    intro k aw an ap hk hp
    refine br_f ?_ ?_
    · rw [em k (by omega)]
      exact nI_ge (by omega) (by omega)
    rw [nI_1]
    refine rf_cpX (by omega) (fun ap1 h1 h2 => nm_e (ih (k + 1) _ _ _ (by omega) (fun ap' h3 h4 => ?_)))
    refine hp ap' (fun i hi => ?_) (fun i h5 h6 => ?_)
    · rw [h3 i (by omega), h1 i (by omega)]
    · by_cases e : i < 6 * k + 6
      · rw [h3 i (by omega), h2 i h5 e]
      · rw [h4 i (by omega) (by omega), h1 _ (by omega)]
theorem rf_Yrm {post : Int32 → SY → Prop} {n m : Nat} {fo : Int32} (m5 : m ≤ 5) {ao : Nat → Int32} : ∀ r k (aw an al : Nat → Int32), k + r + 1 = m → (∀ al' : Nat → Int32, (∀ i, i < 6 * k → al' i = al i) → (∀ i, 6 * k ≤ i → i < 6 * k + 6 * r → al' i = al (i + 6)) → post 1 (nI n, nI (m - 1), fo, rf_sf aw k r, rf_sf an k r, al', ao)) → wY_remove_16 post (nI n) (nI m) fo (r + 1) (nI k) aw an al ao := by
  intro r
  have em : ∀ k, k + 1 ≤ m → nI m - 1 = nI (m - 1) := by
    intro k h
    obtain ⟨m', rfl⟩ : ∃ m', m = m' + 1 := ⟨m - 1, by omega⟩
    rw [nI_pred, Nat.add_sub_cancel]
  induction r with
  | zero =>
    intro k aw an al hk hp
    refine br_t ?_ (nm_r (em k (by omega)) (hp al (fun _ _ => rfl) (fun i h3 h4 => absurd h4 (by omega))))
    rw [nI_1]
    exact nI_le (by omega) (by omega)
  | succ r ih =>
    intro k aw an al0 hk hp
    have v1 : vp_in (nI (k + 1)) 5 := vp_in_nI (by omega) (by decide)
    have v0 : vp_in (nI k) 5 := vp_in_nI (by omega) (by decide)
    have key : ∀ s d (al : Nat → Int32), d + s = 6 → (∀ i, i < 6 * k ∨ 6 * k + d ≤ i → al i = al0 i) → (∀ i, 6 * k ≤ i → i < 6 * k + d → al i = al0 (i + 6)) → wY_remove_56 post (wY_remove_16 post (nI n) (nI m) fo (r + 1)) (nI k) (nI n) (nI m) fo (s + 1) (nI d) (upd aw k (aw (k + 1))) (upd an k (an (k + 1))) al ao := by
      intro s
      induction s with
      | zero =>
        intro d al hd h1 h2
        have e : d = 6 := by omega
        subst e
        refine br_t (Int32.le_refl _) (nm_r (nI_1 k) (ih (k + 1) _ _ _ (by omega) (fun al' h3 h4 => ?_)))
        refine hp al' (fun i hi => ?_) (fun i h5 h6 => ?_)
        · rw [h3 i (by omega), h1 i (by omega)]
        · by_cases e : i < 6 * k + 6
          · rw [h3 i (by omega), h2 i h5 e]
          · rw [h4 i (by omega) (by omega), h1 _ (by omega)]
      | succ s ih2 =>
        intro d al hd h1 h2
        refine br_f (nI_ge (b := 6) (by omega) (by decide)) ?_
        have e6 : 6 * nI k + 6 + nI d = nI (6 * k + 6 + d) := by
          have z : 6 * nI k + 6 = nI (6 * k + 6) := rf_iy (d := 6)
          rw [z, nI_add]
        rw [e6, rf_iy]
        refine ⟨vp_in_nI (by omega) (by decide), vp_in_nI (by omega) (by decide), nm_e (nm_r (nI_1 d) (ih2 (d + 1) _ (by omega) ?_ ?_))⟩
        · intro i hi
          rw [nI_clamp (by omega), pk_un (by omega)]
          exact h1 i (by omega)
        · intro i h3 h4
          rw [nI_clamp (by omega), nI_clamp (by omega)]
          by_cases e : i = 6 * k + d
          · subst e
            rw [pk_us, h1 _ (by omega)]
            exact congrArg al0 (by omega)
          · rw [pk_un e]
            exact h2 i h3 (by omega)
    have e := key 6 0 al0 (by omega) (fun _ _ => rfl) (fun i h3 h4 => absurd h4 (by omega))
    refine br_f ?_ ?_
    · rw [nI_1]
      exact nI_ge (by omega) (by omega)
    rw [nI_1]
    refine ⟨v1, v0, ?_⟩
    rw [nI_clamp (by omega), nI_clamp (by omega)]
    exact nm_e ⟨v1, v0, nm_e ⟨7, e⟩⟩
theorem i_vc_remove {k : Nat} {u : SX} {v : SY} (I : i_Rel k u v) (hk : k + 3 ≤ 1537) (v1 : Int32) : wpX_remove (fun r u' => wpY_remove (fun r' v' => r' = r ∧ i_Rel (k + 3) u' v') v v1) u v1 := by
  obtain ⟨n, m, wt, c, q, aw, an, ap, al, asd, aps, ao, rfl, rfl, Q⟩ := I
  have Q' := Q
  obtain ⟨n2, n6, m5, hK⟩ := Q'
  rcases rf_ix2 v1 (n := m) (by omega) with h1 | ⟨i, hi, rfl⟩
  · refine rf_bad h1 (br_t rfl ?_)
    by_cases z : v1 < 0
    · exact br_t z ⟨rfl, rf_mk _ Q _ _ _⟩
    · rcases h1 with h1 | h1
      · exact absurd h1 z
      · exact br_f z (br_f (Int32.not_lt.mpr h1) ⟨rfl, rf_mk _ Q _ _ _⟩)
  · refine rf_ok (by omega) hi (br_f (by decide) ⟨m - 1 - i + 1, ?_⟩)
    refine rf_Xrm m5 (m - 1 - i) i aw an ap (by omega) (fun ap' h3 h4 => ?_)
    refine br_f (nI_pos (by omega)) (br_t (nI_lt hi (by omega)) ⟨m - 1 - i + 1, ?_⟩)
    refine rf_Yrm m5 (m - 1 - i) i aw an al (by omega) (fun al' h5 h6 => ⟨rfl, ?_⟩)
    refine rf_mk _ (n := n) (m := m - 1) (wt := fun j => if j < i then wt j else wt (j + 1)) (c := fun j => if j < i then c j else c (j + 1)) (q := fun j => if j < i then q j else q (j + 1)) ⟨n2, n6, by omega, ?_⟩ _ _ _
    intro j hj
    dsimp only
    by_cases e : j < i
    · rw [if_pos e, if_pos e, if_pos e]
      refine rf_Kc (hK j (by omega)) ?_ ?_ (fun d hd => h3 _ (by omega)) (fun d hd => h5 _ (by omega))
      · rw [rf_sfv, if_neg (by omega)]
      · rw [rf_sfv, if_neg (by omega)]
    · rw [if_neg e, if_neg e, if_neg e]
      refine rf_Kc (hK (j + 1) (by omega)) ?_ ?_ (fun d hd => ?_) (fun d hd => ?_)
      · rw [rf_sfv, if_pos (by omega)]
      · rw [rf_sfv, if_pos (by omega)]
      · rw [h4 _ (by omega) (by omega)]; exact congrArg ap (by omega)
      · rw [h6 _ (by omega) (by omega)]; exact congrArg al (by omega)
