def rf_Cl (P : Nat → Nat → Nat) (n s S : Nat) : Prop := ∀ x y, x < n → y < n → S.testBit x = true → rf_E P s x y → S.testBit y = true
section
variable {n : Nat} {g fo : Int32} {aw an ap al : Nat → Int32} {P : Nat → Nat → Nat}
theorem rf_adl : ∀ n, n < 7 → ∀ S, S < 64 → ∀ d, d < n → S < 2 ^ n → rf_ad S d < 2 ^ n := by decide +kernel
theorem rf_2l : ∀ n, n < 7 → ∀ d, d < n → 2 ^ d < 2 ^ n := by decide +kernel
theorem rf_Yr (n6 : n ≤ 6) (HY : rf_PY n g fo aw an al P) (P45 : ∀ a b, P a b ≤ 45) {ao : Nat → Int32} {a s : Nat} (ha : a < n) (hs : s ≤ 45) {post : Int32 → Prop} (hp : ∀ S, S < 64 → (∀ b, b < n → (S.testBit b = true ↔ rf_R P n s a b)) → post (nI S)) : wpY_reached post (nI n, g, fo, aw, an, al, ao) (nI a) (nI s) := by
  have p2 := rf_p2 n (by omega)
  have key : ∀ r p S, p + r = 6 → S < 2 ^ n → S.testBit a = true → (∀ b, b < n → S.testBit b = true → rf_R P n s a b) → (rf_Cl P n s S ∨ p + 1 ≤ rf_sz S) → wY_reached_7 post (nI s) (nI n) g fo aw an al ao (r + 1) (nI S) (nI p) := by
    intro r
    induction r with
    | zero =>
      intro p S hr S2 Sa SR h
      have e : p = 6 := by omega
      subst e
      refine br_t (Int32.le_refl _) (hp S (by omega) (fun b hb => ⟨SR b hb, fun w => ?_⟩))
      have s6 := (rf_t9 S (by omega)).1
      rcases h with h | h
      · exact w (fun x => S.testBit x = true) Sa (fun x y hx hy qx e => h x y hx hy qx e)
      · omega
    | succ r ih =>
      intro p S0 hr S2 Sa SR h
      refine br_f (nI_ge (b := 6) (by omega) (by decide)) ?_
      have key2 : ∀ t c S, c + t = 36 → S < 2 ^ n → S.testBit a = true → (∀ b, b < n → S.testBit b = true → rf_R P n s a b) → ((S = S0 ∧ ∀ c', c' < c → S0.testBit (c' / 6) = true → ¬ S0.testBit (c' % 6) = true → c' % 6 < n → ¬ rf_E P s (c' / 6) (c' % 6)) ∨ (rf_sz S0 < rf_sz S ∧ ¬ rf_Cl P n s S0)) → wY_reached_17 post (wY_reached_7 post (nI s) (nI n) g fo aw an al ao (r + 1)) (nI s) (nI p) (nI n) g fo aw an al ao (t + 1) (nI S) (nI c) := by
        intro t
        induction t with
        | zero =>
          intro c S ht S2 Sa SR h3
          have e : c = 36 := by omega
          subst e
          refine br_t (Int32.le_refl _) (nm_r (nI_1 p) (ih (p + 1) S (by omega) S2 Sa SR ?_))
          rcases h3 with ⟨rfl, h3⟩ | ⟨h3, h4⟩
          · left
            intro x y hx hy sx e
            apply Classical.byContradiction
            intro z
            have w := h3 (6 * x + y) (by omega)
            rw [show (6 * x + y) / 6 = x by omega, show (6 * x + y) % 6 = y by omega] at w
            exact w sx z hy e
          · right
            rcases h with h | h
            · exact absurd h h4
            · omega
        | succ t ih2 =>
          intro c S ht S2 Sa SR h3
          have go : (S = S0 → S0.testBit (c / 6) = true → ¬ S0.testBit (c % 6) = true → c % 6 < n → ¬ rf_E P s (c / 6) (c % 6)) → wY_reached_17 post (wY_reached_7 post (nI s) (nI n) g fo aw an al ao (r + 1)) (nI s) (nI p) (nI n) g fo aw an al ao (t + 1) (nI S) (nI (c + 1)) := by
            intro w
            refine ih2 (c + 1) S (by omega) S2 Sa SR ?_
            rcases h3 with ⟨e, h3⟩ | h3
            · exact Or.inl ⟨e, ax_lt1 h3 (w e)⟩
            · exact Or.inr h3
          have e1 : nI c / 6 = nI (c / 6) := pk_div (d := 6) (by omega) (by decide) (by decide)
          have e2 : nI c - nI c / 6 * 6 = nI (c % 6) := pk_rem (d := 6) (by omega) (by decide) (by decide)
          refine br_f (nI_ge (b := 36) (by omega) (by decide)) ⟨by decide, nm_r e1 ⟨by decide, nm_r e2 ?_⟩⟩
          have hx6 := rf_has S (by omega) (c / 6) (by omega)
          have hy6 := rf_hs0 S (by omega) (c % 6) (by omega)
          refine br_c (fun z => ?_) (fun z => nm_r (nI_1 c) (go (fun e w => absurd (hx6.mpr (e ▸ w)) z)))
          refine br_c (fun y => ?_) (fun y => nm_r (nI_1 c) (go (fun e _ w => absurd (hy6.mpr (e ▸ w)) y)))
          have z' := hx6.mp z
          have y' := hy6.mp y
          have xn := rf_bl S2 z'
          refine pk_le n (c % 6) (fun w => nm_r (nI_1 c) (go (fun _ _ _ w2 => absurd w2 (by omega)))) (fun yn => ?_)
          have xy : c / 6 ≠ c % 6 := fun e => y' (e ▸ z')
          have p45 := P45 (c / 6) (c % 6)
          refine HY _ _ _ _ xn yn xy ?_
          refine pk_lt (P (c / 6) (c % 6)) s (fun w => nm_r (nI_1 c) (go (fun _ _ _ _ w2 => absurd w2.1 (by omega)))) (fun q1 => ?_)
          refine rf_Ybt HY P45 xn yn xy (fun q2 => ?_) (fun q2 => ?_)
          · refine br_f (by decide) (nm_r (rf_wi S (by omega) (c % 6) (by omega)) (nm_r (nI_1 c) (ih2 (c + 1) _ (by omega) (rf_adl n (by omega) S (by omega) _ yn S2) ?_ ?_ ?_)))
            · exact (rf_t7 S (by omega) (c % 6) (by omega) a (by omega)).mpr (Or.inl Sa)
            · intro b hb hb2
              rcases (rf_t7 S (by omega) (c % 6) (by omega) b (by omega)).mp hb2 with w | w
              · exact SR b hb w
              · rw [w]
                exact fun Q qa hc => hc _ _ xn yn (SR _ xn z' Q qa hc) ⟨q1, q2⟩
            · right
              have sz := rf_t8 S (by omega) (c % 6) (by omega) y'
              rcases h3 with ⟨rfl, h3⟩ | ⟨h3, h4⟩
              · exact ⟨by omega, fun C => y' (C _ _ xn yn z' ⟨q1, q2⟩)⟩
              · exact ⟨by omega, h4⟩
          · refine br_t rfl (nm_r (nI_1 c) (go (fun _ _ _ _ w2 => absurd w2.2 (by omega))))
      refine ⟨37, key2 36 0 S0 (by omega) S2 Sa SR (Or.inl ⟨rfl, fun c' hc' => absurd hc' (by omega)⟩)⟩
  refine nm_r (rf_sh a (by omega)) ⟨7, key 6 0 (2 ^ a) (by omega) (rf_2l n (by omega) a ha) ?_ (fun b hb h => ?_) ?_⟩
  · exact (rf_t12 a (by omega) a (by omega)).mpr rfl
  · rw [(rf_t12 a (by omega) b (by omega)).mp h]
    exact fun Q qa hc => qa
  · rw [rf_t13 a (by omega)]
    exact Or.inr (by omega)
theorem rf_Yst (n6 : n ≤ 6) (HY : rf_PY n g fo aw an al P) (P45 : ∀ a b, P a b ≤ 45) {D : Nat → Nat → Nat} (V : rf_V P n D) {ao : Nat → Int32} {a b : Nat} (ha : a < n) (hb : b < n) (hab : a ≠ b) {post : Int32 → Prop} (hp : post (nI (D a b))) : wpY_strength post (nI n, g, fo, aw, an, al, ao) (nI a) (nI b) := by
  have key : ∀ s, s ≤ 45 → D a b ≤ s → wY_strength_26 post (nI a) (nI b) (nI n) g fo aw an al ao (s + 1) (nI s) := by
    intro s
    induction s with
    | zero =>
      intro _ h
      have e : D a b = 0 := by omega
      rw [e] at hp
      exact br_t (by decide) hp
    | succ s ih =>
      intro hs h
      refine br_f (nI_nlt (b := 1) (by omega) (by omega)) ?_
      refine rf_Yr n6 HY P45 ha hs (fun S hS hR => ?_)
      have v := V.2 (s + 1) a b (by omega) ha hb hab
      refine br_c (fun z => ?_) (fun z => nm_r (pk_m1 s) (ih (by omega) ?_))
      · have w := v.mpr ((hR b hb).mp ((rf_has S hS b (by omega)).mp z))
        have e : D a b = s + 1 := by omega
        rw [e] at hp
        exact hp
      · have w : ¬ s + 1 ≤ D a b := fun w => z ((rf_has S hS b (by omega)).mpr ((hR b hb).mpr (v.mp w)))
        omega
  unfold wpY_strength
  dsimp only
  refine rf_Ypr1 n6 ha hb hab ?_
  exact ⟨46, key 45 (by omega) (V.1 a b ha hb)⟩
theorem rf_Xpw (n6 : n ≤ 6) {D : Nat → Nat → Nat} (V : rf_V P n D) {asd aps : Nat → Int32} (T : rf_T n aps D) {a : Nat} (ha : a < n) {post : Int32 → Prop} (h1 : (∀ b, b < n → D b a ≤ D a b) → post 1) (h0 : ¬ (∀ b, b < n → D b a ≤ D a b) → post 0) : wpX_isPathWinner post (nI n, g, aw, an, ap, asd, aps) (nI a) := by
  have key : ∀ r b, b + r = n → (∀ b', b' < b → D b' a ≤ D a b') → wX_isPathWinner_2 post (nI a) (nI n) g aw an ap asd aps (r + 1) (nI b) := by
    intro r
    induction r with
    | zero =>
      intro b hb h
      have e : b = n := by omega
      subst e
      exact br_t (Int32.le_refl _) (h1 h)
    | succ r ih =>
      intro b hb h
      refine br_f (nI_ge (by omega) (by omega)) ?_
      unfold wpX_pairIndex
      dsimp only
      have v1 := V.1 a b ha (by omega)
      have v2 := V.1 b a (by omega) ha
      rw [rf_ix, rf_ix, nI_clamp (by omega), nI_clamp (by omega), T a ha b (by omega), T b (by omega) a ha]
      refine ⟨vp_in_nI (by omega) (by decide), vp_in_nI (by omega) (by decide), ?_⟩
      refine pk_le (D b a) (D a b) (fun w => nm_r (nI_1 b) (ih (b + 1) (by omega) (ax_lt1 h w))) (fun w => h0 (fun z => ?_))
      have := z b (by omega)
      omega
  exact ⟨n + 1, key n 0 (by omega) (fun b' hb' => absurd hb' (by omega))⟩
theorem rf_Ypw (n6 : n ≤ 6) (HY : rf_PY n g fo aw an al P) (P45 : ∀ a b, P a b ≤ 45) {D : Nat → Nat → Nat} (V : rf_V P n D) {ao : Nat → Int32} {a : Nat} (ha : a < n) {post : Int32 → Prop} {J4 : Int32 → Int32 → Prop} {S : Nat} (hS : S < 64) (h1 : (∀ b, b < n → D b a ≤ D a b) → J4 (nI (rf_ad S a)) (nI (a + 1))) (h0 : ¬ (∀ b, b < n → D b a ≤ D a b) → J4 (nI S) (nI (a + 1))) : ∃ w : Nat, wY_pathWinners_17 post J4 (nI S) (nI a) (nI n) g fo aw an al ao w 1 0 := by
  have key : ∀ r b x, b + r = n → ((x = 1 ∧ ∀ b', b' < b → D b' a ≤ D a b') ∨ (x = 0 ∧ ¬ (∀ b, b < n → D b a ≤ D a b))) → wY_pathWinners_17 post J4 (nI S) (nI a) (nI n) g fo aw an al ao (r + 1) x (nI b) := by
    intro r
    induction r with
    | zero =>
      intro b x hb h
      have e : b = n := by omega
      subst e
      refine br_t (Int32.le_refl _) ?_
      rcases h with ⟨rfl, h⟩ | ⟨rfl, h⟩
      · exact br_f (by decide) (nm_r (rf_wi S hS a (by omega)) (nm_r (nI_1 a) (h1 h)))
      · exact br_t rfl (nm_r (nI_1 a) (h0 h))
    | succ r ih =>
      intro b x hb h
      refine br_f (nI_ge (by omega) (by omega)) ?_
      by_cases e : a = b
      · subst e
        refine br_t rfl (br_t rfl ?_)
        rcases h with ⟨rfl, h⟩ | ⟨rfl, h⟩
        · exact br_f (by decide) (br_f (by decide) (nm_r (nI_1 a) (ih (a + 1) 1 (by omega) (Or.inl ⟨rfl, ax_lt1 h (Nat.le_refl _)⟩))))
        · exact br_t rfl (nm_r (nI_1 a) (ih (a + 1) 0 (by omega) (Or.inr ⟨rfl, h⟩)))
      · have v1 := V.1 a b ha (by omega)
        have v2 := V.1 b a (by omega) ha
        refine rf_Yst n6 HY P45 V ha (by omega) e ?_
        refine rf_Yst n6 HY P45 V (by omega) ha (fun z => e z.symm) ?_
        rcases h with ⟨rfl, h⟩ | ⟨rfl, h⟩
        · refine br_f (by decide) (pk_lt (D a b) (D b a) (fun w => nm_r (nI_1 b) (ih (b + 1) 0 (by omega) (Or.inr ⟨rfl, fun z => ?_⟩))) (fun w => nm_r (nI_1 b) (ih (b + 1) 1 (by omega) (Or.inl ⟨rfl, ax_lt1 h w⟩))))
          have := z b (by omega)
          omega
        · exact br_t rfl (nm_r (nI_1 b) (ih (b + 1) 0 (by omega) (Or.inr ⟨rfl, h⟩)))
  exact ⟨n + 1, key n 0 1 (by omega) (Or.inl ⟨rfl, fun b' hb' => absurd hb' (by omega)⟩)⟩
theorem rf_pws (n6 : n ≤ 6) (HY : rf_PY n g fo aw an al P) (P45 : ∀ a b, P a b ≤ 45) {D : Nat → Nat → Nat} (V : rf_V P n D) {asd aps ao : Nat → Int32} (T : rf_T n aps D) : ∀ r a S, a + r = n → S < 64 → ∃ x : Int32, (∀ post : Int32 → SX → Prop, post x (nI n, g, aw, an, ap, asd, aps) → wX_pathWinners_8 post (nI n) g aw an ap asd aps (r + 1) (nI S) (nI a)) ∧ (∀ post : Int32 → Prop, post x → wY_pathWinners_4 post (nI n) g fo aw an al ao (r + 1) (nI S) (nI a)) := by
  intro r
  induction r with
  | zero =>
    intro a S ha hS
    have e : a = n := by omega
    subst e
    exact ⟨nI S, fun post hp => br_t (Int32.le_refl _) hp, fun post hp => br_t (Int32.le_refl _) hp⟩
  | succ r ih =>
    intro a S ha hS
    by_cases W : ∀ b, b < n → D b a ≤ D a b
    · obtain ⟨x, i1, i2⟩ := ih (a + 1) (rf_ad S a) (by omega) (rf_t6 S hS a (by omega)).2.1
      refine ⟨x, fun post hp => br_f (nI_ge (by omega) (by omega)) ?_, fun post hp => br_f (nI_ge (by omega) (by omega)) ?_⟩
      · refine rf_Xpw n6 V T (by omega) (fun _ => ?_) (fun z => absurd W z)
        exact br_f (by decide) (nm_r (rf_wi S hS a (by omega)) (nm_r (nI_1 a) (i1 post hp)))
      · exact rf_Ypw n6 HY P45 V (by omega) hS (fun _ => i2 post hp) (fun z => absurd W z)
    · obtain ⟨x, i1, i2⟩ := ih (a + 1) S (by omega) hS
      refine ⟨x, fun post hp => br_f (nI_ge (by omega) (by omega)) ?_, fun post hp => br_f (nI_ge (by omega) (by omega)) ?_⟩
      · refine rf_Xpw n6 V T (by omega) (fun z => absurd z W) (fun _ => ?_)
        exact br_t rfl (nm_r (nI_1 a) (i1 post hp))
      · exact rf_Ypw n6 HY P45 V (by omega) hS (fun z => absurd z W) (fun _ => i2 post hp)
end
theorem i_vc_strength {k : Nat} {u : SX} {v : SY} (I : i_Rel k u v) (hk : k + 3 ≤ 1537) (v1 : Int32) (v2 : Int32) : wpX_strength (fun r u' => wpY_strength (fun r' => r' = r ∧ i_Rel (k + 3) u' v) v v1 v2) u v1 v2 := by
  obtain ⟨n, g, aw, an, ap, al, asd, aps, ao, P, rfl, rfl, n2, n6, HX, HY, P45, P0, R⟩ := rf_open I
  unfold wpX_strength
  dsimp only
  rcases rf_pr v1 v2 n6 with h | ⟨a, b, ha, hb, hab, rfl, rfl⟩
  · refine rf_Xpr0 n6 h ?_
    refine br_t rfl ?_
    refine rf_Ypr0 n6 h ?_
    exact ⟨rfl, R _ _ _ _⟩
  · refine rf_Xpr1 n6 ha hb hab ?_
    refine br_f (by decide) ?_
    refine rf_Xfp n6 HX P45 (fun aps' D T V => ?_)
    unfold wpX_pairIndex
    dsimp only
    rw [rf_ix, nI_clamp (by omega), T a ha b hb]
    refine ⟨vp_in_nI (by omega) (by decide), ?_⟩
    exact rf_Yst n6 HY P45 V ha hb hab ⟨rfl, R _ _ _ _⟩
theorem i_vc_pathWinners {k : Nat} {u : SX} {v : SY} (I : i_Rel k u v) (hk : k + 3 ≤ 1537) : wpX_pathWinners (fun r u' => wpY_pathWinners (fun r' => r' = r ∧ i_Rel (k + 3) u' v) v) u := by
  obtain ⟨n, g, aw, an, ap, al, asd, aps, ao, P, rfl, rfl, n2, n6, HX, HY, P45, P0, R⟩ := rf_open I
  unfold wpX_pathWinners
  dsimp only
  refine rf_Xfp n6 HX P45 (fun aps' D T V => ?_)
  obtain ⟨x, h1, h2⟩ := rf_pws (ap := ap) (asd := asd) (ao := ao) n6 HY P45 V T n 0 0 (by omega) (by omega)
  exact ⟨n + 1, h1 _ ⟨n + 1, h2 _ ⟨rfl, R _ _ _ _⟩⟩⟩
