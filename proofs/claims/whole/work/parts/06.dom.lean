theorem pk_least (P : Nat → Prop) (h : ∃ k, P k) : ∃ k, P k ∧ ∀ j, j < k → ¬ P j := by
  obtain ⟨k, hk⟩ := h
  induction k using Nat.strongRecOn with
  | ind k ih =>
    by_cases e : ∃ j, j < k ∧ P j
    · obtain ⟨j, hj, pj⟩ := e
      exact ih j hj pj
    · exact ⟨k, hk, fun j hj pj => e ⟨j, hj, pj⟩⟩
def rf_Dm (P : Nat → Nat → Nat) (n S : Nat) : Prop := ∀ a, a < n → ∀ b, b < n → S.testBit a = true → ¬ S.testBit b = true → P b a < P a b
theorem rf_Xh {S d : Nat} (hS : S < 64) (hd : d < 6) {post : Int32 → Prop} (h1 : S.testBit d = true → post 1) (h0 : ¬ S.testBit d = true → post 0) : wpX_has post (nI S) (nI d) :=
  br_c (fun h => h1 ((rf_has S hS d hd).mp h)) (fun h => h0 (fun z => h ((rf_has S hS d hd).mpr z)))
section
variable {n : Nat} {g fo : Int32} {aw an ap al : Nat → Int32} {P : Nat → Nat → Nat}
theorem rf_Xbt (HX : rf_PX n g aw an ap P) (P45 : ∀ a b, P a b ≤ 45) {asd aps : Nat → Int32} {a b : Nat} (ha : a < n) (hb : b < n) {post : Int32 → Prop} (h1 : P b a < P a b → post 1) (h0 : P a b ≤ P b a → post 0) : wpX_beats post (nI n, g, aw, an, ap, asd, aps) (nI a) (nI b) := by
  have p1 := P45 a b
  have p2 := P45 b a
  refine HX _ _ _ _ _ ha hb ?_
  refine HX _ _ _ _ _ hb ha ?_
  exact pk_le (P a b) (P b a) h0 h1
theorem rf_Ybt (HY : rf_PY n g fo aw an al P) (P45 : ∀ a b, P a b ≤ 45) {ao : Nat → Int32} {a b : Nat} (ha : a < n) (hb : b < n) (hab : a ≠ b) {post : Int32 → Prop} (h1 : P b a < P a b → post 1) (h0 : P a b ≤ P b a → post 0) : wpY_beats post (nI n, g, fo, aw, an, al, ao) (nI a) (nI b) := by
  have p1 := P45 a b
  have p2 := P45 b a
  unfold wpY_beats
  dsimp only
  refine HY _ _ _ _ ha hb hab ?_
  refine HY _ _ _ _ hb ha (fun z => hab z.symm) ?_
  exact pk_le (P a b) (P b a) h0 h1
theorem rf_Xdm (n6 : n ≤ 6) (HX : rf_PX n g aw an ap P) (P45 : ∀ a b, P a b ≤ 45) {asd aps : Nat → Int32} {S : Nat} (hS : S < 64) {post : Int32 → Prop} (h1 : rf_Dm P n S → post 1) (h0 : ¬ rf_Dm P n S → post 0) : wpX_isDominant post (nI n, g, aw, an, ap, asd, aps) (nI S) := by
  have key : ∀ r a, a + r = n → (∀ a', a' < a → ∀ b, b < n → S.testBit a' = true → ¬ S.testBit b = true → P b a' < P a' b) → wX_isDominant_2 post (nI S) (nI n) g aw an ap asd aps (r + 1) (nI a) := by
    intro r
    induction r with
    | zero =>
      intro a ha h
      have e : a = n := by omega
      subst e
      exact br_t (Int32.le_refl _) (h1 h)
    | succ r ih =>
      intro a ha h
      refine br_f (nI_ge (by omega) (by omega)) ?_
      have key2 : ∀ t b, b + t = n → (∀ b', b' < b → S.testBit a = true → ¬ S.testBit b' = true → P b' a < P a b') → wX_isDominant_12 post (wX_isDominant_2 post (nI S) (nI n) g aw an ap asd aps (r + 1)) (nI S) (nI a) (nI n) g aw an ap asd aps (t + 1) (nI b) := by
        intro t
        induction t with
        | zero =>
          intro b hb h2
          have e : b = n := by omega
          subst e
          exact br_t (Int32.le_refl _) (nm_r (nI_1 a) (ih (a + 1) (by omega) (ax_lt1 h h2)))
        | succ t ih2 =>
          intro b hb h2
          refine br_f (nI_ge (by omega) (by omega)) ?_
          refine rf_Xh hS (by omega) (fun z => ?_) (fun z => ?_)
          · refine br_f (by decide) ?_
            refine rf_Xh hS (by omega) (fun y => ?_) (fun y => ?_)
            · refine br_f (by decide) (nm_r (nI_1 b) (ih2 (b + 1) (by omega) (ax_lt1 h2 (fun _ w => absurd y w))))
            · refine br_t rfl ?_
              refine rf_Xbt HX P45 (by omega) (by omega) (fun w => ?_) (fun w => ?_)
              · exact br_f (by decide) (nm_r (nI_1 b) (ih2 (b + 1) (by omega) (ax_lt1 h2 (fun _ _ => w))))
              · refine br_t rfl (h0 (fun D => ?_))
                have := D a (by omega) b (by omega) z y
                omega
          · exact br_t rfl (nm_r (nI_1 b) (ih2 (b + 1) (by omega) (ax_lt1 h2 (fun w => absurd w z))))
      exact ⟨n + 1, key2 n 0 (by omega) (fun b' hb' => absurd hb' (by omega))⟩
  exact ⟨n + 1, key n 0 (by omega) (fun b' hb' => absurd hb' (by omega))⟩
theorem rf_Ydm (n6 : n ≤ 6) (HY : rf_PY n g fo aw an al P) (P45 : ∀ a b, P a b ≤ 45) {ao : Nat → Int32} {S : Nat} (hS : S < 64) {post : Int32 → Prop} (h1 : rf_Dm P n S → post 1) (h0 : ¬ rf_Dm P n S → post 0) : wpY_top post (nI n, g, fo, aw, an, al, ao) (nI S) := by
  have key : ∀ r a x, a + r = n → ((x = 1 ∧ ∀ a', a' < a → ∀ b, b < n → S.testBit a' = true → ¬ S.testBit b = true → P b a' < P a' b) ∨ (x = 0 ∧ ¬ rf_Dm P n S)) → wY_top_4 post (nI S) (nI n) g fo aw an al ao (r + 1) x (nI a) := by
    intro r
    induction r with
    | zero =>
      intro a x ha h
      have e : a = n := by omega
      subst e
      refine br_t (Int32.le_refl _) ?_
      rcases h with ⟨rfl, h⟩ | ⟨rfl, h⟩
      · exact ⟨lw_bz_n 1, h1 h⟩
      · exact ⟨lw_bz_n 0, h0 h⟩
    | succ r ih =>
      intro a x ha h
      refine br_f (nI_ge (by omega) (by omega)) ?_
      have key2 : ∀ t b x, b + t = n → ((x = 1 ∧ (∀ a', a' < a → ∀ b, b < n → S.testBit a' = true → ¬ S.testBit b = true → P b a' < P a' b) ∧ ∀ b', b' < b → S.testBit a = true → ¬ S.testBit b' = true → P b' a < P a b') ∨ (x = 0 ∧ ¬ rf_Dm P n S)) → wY_top_15 post (wY_top_4 post (nI S) (nI n) g fo aw an al ao (r + 1)) (nI S) (nI a) (nI n) g fo aw an al ao (t + 1) x (nI b) := by
        intro t
        induction t with
        | zero =>
          intro b x hb h2
          have e : b = n := by omega
          subst e
          refine br_t (Int32.le_refl _) (nm_r (nI_1 a) (ih (a + 1) x (by omega) ?_))
          rcases h2 with ⟨e, h3, h4⟩ | h2
          · exact Or.inl ⟨e, ax_lt1 h3 h4⟩
          · exact Or.inr h2
        | succ t ih2 =>
          intro b x hb h2
          refine br_f (nI_ge (by omega) (by omega)) ?_
          have go : (S.testBit a = true → ¬ S.testBit b = true → P b a < P a b) → wY_top_15 post (wY_top_4 post (nI S) (nI n) g fo aw an al ao (r + 1)) (nI S) (nI a) (nI n) g fo aw an al ao (t + 1) x (nI (b + 1)) := by
            intro w
            refine ih2 (b + 1) x (by omega) ?_
            rcases h2 with ⟨e, h3, h4⟩ | h2
            · exact Or.inl ⟨e, h3, ax_lt1 h4 w⟩
            · exact Or.inr h2
          have ha6 := rf_has S hS a (by omega)
          have hb6 := rf_hs0 S hS b (by omega)
          refine br_c (fun z => ?_) (fun z => nm_r (nI_1 b) (go (fun w => absurd (ha6.mpr w) z)))
          refine br_c (fun y => ?_) (fun y => nm_r (nI_1 b) (go (fun _ w => absurd (hb6.mpr w) y)))
          have z' := ha6.mp z
          have y' := hb6.mp y
          rcases h2 with ⟨rfl, h3, h4⟩ | ⟨rfl, h2⟩
          · refine br_f (by decide) ?_
            refine rf_Ybt HY P45 (by omega) (by omega) (fun (e : a = b) => y' (e ▸ z')) (fun w => ?_) (fun w => ?_)
            · exact br_f (by decide) (nm_r (nI_1 b) (go (fun _ _ => w)))
            · refine br_t rfl (nm_r (nI_1 b) (ih2 (b + 1) 0 (by omega) (Or.inr ⟨rfl, fun D => ?_⟩)))
              have := D a (by omega) b (by omega) z' y'
              omega
          · exact br_t rfl (nm_r (nI_1 b) (ih2 (b + 1) 0 (by omega) (Or.inr ⟨rfl, h2⟩)))
      refine ⟨n + 1, key2 n 0 x (by omega) ?_⟩
      rcases h with ⟨e, h⟩ | h
      · exact Or.inl ⟨e, h, fun b' hb' => absurd hb' (by omega)⟩
      · exact Or.inr h
  exact ⟨n + 1, key n 0 1 (by omega) (Or.inl ⟨rfl, fun b' hb' => absurd hb' (by omega)⟩)⟩
theorem rf_cp (n6 : n ≤ 6) (HX : rf_PX n g aw an ap P) (HY : rf_PY n g fo aw an al P) (P45 : ∀ a b, P a b ≤ 45) {asd aps ao : Nat → Int32} : ∀ r d, d + r = n → ∃ x : Int32, (∀ post : Int32 → Prop, post x → wX_champion_2 post (nI n) g aw an ap asd aps (r + 1) (nI d)) ∧ (∀ post : Int32 → Prop, post x → wY_champion_2 post (nI n) g fo aw an al ao (r + 1) (nI d)) := by
  intro r
  induction r with
  | zero =>
    intro d hd
    have e : d = n := by omega
    subst e
    exact ⟨-1, fun post hp => br_t (Int32.le_refl _) hp, fun post hp => br_t (Int32.le_refl _) hp⟩
  | succ r ih =>
    intro d hd
    obtain ⟨x, i1, i2⟩ := ih (d + 1) (by omega)
    have e := rf_sh d (by omega)
    have hS := rf_p6 d (by omega)
    by_cases D : rf_Dm P n (2 ^ d)
    · refine ⟨nI d, fun post hp => br_f (nI_ge (by omega) (by omega)) (nm_r e ?_), fun post hp => br_f (nI_ge (by omega) (by omega)) ?_⟩
      · exact rf_Xdm n6 HX P45 hS (fun _ => br_f (by decide) hp) (fun z => absurd D z)
      · rw [e]
        exact rf_Ydm n6 HY P45 hS (fun _ => br_f (by decide) hp) (fun z => absurd D z)
    · refine ⟨x, fun post hp => br_f (nI_ge (by omega) (by omega)) (nm_r e ?_), fun post hp => br_f (nI_ge (by omega) (by omega)) ?_⟩
      · exact rf_Xdm n6 HX P45 hS (fun z => absurd z D) (fun _ => br_t rfl (nm_r (nI_1 d) (i1 post hp)))
      · rw [e]
        exact rf_Ydm n6 HY P45 hS (fun z => absurd z D) (fun _ => br_t rfl (nm_r (nI_1 d) (i2 post hp)))
theorem rf_Ysz {g : Int32} {n : Int32} {ao : Nat → Int32} {S : Nat} (hS : S < 64) {post : Int32 → Prop} (hp : post (nI (rf_sz S))) : wpY_sizeOf post (n, g, fo, aw, an, al, ao) (nI S) := by
  have key : ∀ r d, d + r = 6 → wY_sizeOf_4 post (nI S) n g fo aw an al ao (r + 1) (nI (rf_sm (fun _ => 1) S d)) (nI d) := by
    intro r
    induction r with
    | zero =>
      intro d hd
      have e : d = 6 := by omega
      subst e
      exact br_t (Int32.le_refl _) hp
    | succ r ih =>
      intro d hd
      refine br_f (nI_ge (b := 6) (by omega) (by decide)) (nm_r (e' := nI (rf_sm (fun _ => 1) S (d + 1))) ?_ (nm_r (nI_1 d) (ih (d + 1) (by omega))))
      rw [rf_hsv S hS d (by omega), nI_add]
      rfl
  exact ⟨7, key 6 0 (by omega)⟩
end
theorem rf_chn {P : Nat → Nat → Nat} {n S T : Nat} (n6 : n ≤ 6) (hS : S < 2 ^ n) (hT : T < 2 ^ n) (D1 : rf_Dm P n S) (D2 : rf_Dm P n T) : S &&& T = S ∨ T &&& S = T := by
  have p := (rf_p2 n (by omega)).1
  by_cases h1 : S &&& T = S
  · exact Or.inl h1
  by_cases h2 : T &&& S = T
  · exact Or.inr h2
  obtain ⟨a, -, a1, a2⟩ := rf_ch3 (by omega) (by omega) h1
  obtain ⟨b, -, b1, b2⟩ := rf_ch3 (by omega) (by omega) h2
  have x1 := D1 a (rf_bl hS a1) b (rf_bl hT b1) a1 b2
  have x2 := D2 b (rf_bl hT b1) a (rf_bl hS a1) b1 a2
  omega
theorem i_vc_champion {k : Nat} {u : SX} {v : SY} (I : i_Rel k u v) (hk : k + 3 ≤ 1537) : wpX_champion (fun r => wpY_champion (fun r' => r' = r ∧ i_Rel (k + 3) u v) v) u := by
  obtain ⟨n, g, aw, an, ap, al, asd, aps, ao, P, rfl, rfl, n2, n6, HX, HY, P45, P0, R⟩ := rf_open I
  obtain ⟨x, h1, h2⟩ := rf_cp (asd := asd) (aps := aps) (ao := ao) n6 HX HY P45 n 0 (by omega)
  exact ⟨n + 1, h1 _ ⟨n + 1, h2 _ ⟨rfl, R _ _ _ _⟩⟩⟩
theorem i_vc_topSet {k : Nat} {u : SX} {v : SY} (I : i_Rel k u v) (hk : k + 3 ≤ 1537) : wpX_topSet (fun r => wpY_topSet (fun r' => r' = r ∧ i_Rel (k + 3) u v) v) u := by
  obtain ⟨n, g, aw, an, ap, al, asd, aps, ao, P, rfl, rfl, n2, n6, HX, HY, P45, P0, R⟩ := rf_open I
  have p2 := rf_p2 n (by omega)
  have e1 := rf_all n (by omega)
  have e2 := rf_sh n (by omega)
  have p4 : 2 ^ 2 ≤ 2 ^ n := Nat.pow_le_pow_right (by omega) n2
  have Da : rf_Dm P n (2 ^ n - 1) := fun a _ b hb _ z => absurd ((rf_t11 n (by omega) b (by omega)).mpr hb) z
  obtain ⟨F, ⟨F1, DF⟩, Fm⟩ := pk_least (fun S => 1 ≤ S ∧ rf_Dm P n S) ⟨2 ^ n - 1, by omega, Da⟩
  have Fa : F ≤ 2 ^ n - 1 := by
    apply Classical.byContradiction
    intro z
    exact Fm (2 ^ n - 1) (by omega) ⟨by omega, Da⟩
  have X : ∀ (post : Int32 → Prop), post (nI F) → ∀ r S, S + r = 2 ^ n - 1 → 1 ≤ S → S ≤ F → wX_topSet_7 post (nI (2 ^ n - 1)) (nI n) g aw an ap asd aps (r + 1) (nI S) := by
    intro post hp r
    induction r with
    | zero =>
      intro S hS S1 SF
      have e : 2 ^ n - 1 = F := by omega
      have e3 : S = F := by omega
      rw [e, e3]
      exact br_t (Int32.le_refl _) hp
    | succ r ih =>
      intro S hS S1 SF
      refine br_f (nI_ge (by omega) (by omega)) ?_
      refine rf_Xdm n6 HX P45 (by omega) (fun D => ?_) (fun D => ?_)
      · have e3 : S = F := by
          apply Classical.byContradiction
          intro z
          exact Fm S (by omega) ⟨S1, D⟩
        rw [e3]
        exact br_f (by decide) hp
      · have e3 : S ≠ F := fun z => D (z ▸ DF)
        exact br_t rfl (nm_r (nI_1 S) (ih (S + 1) (by omega) (by omega) (by omega)))
  have Y : ∀ (post : Int32 → Prop), post (nI F) → ∀ r S B, S + r = 2 ^ n → 1 ≤ S → ((S ≤ F ∧ B = 2 ^ n - 1) ∨ (F < S ∧ B = F)) → wY_topSet_11 post (nI n) g (nI (rf_fc n)) aw an al ao (r + 1) (nI B) (nI S) := by
    intro post hp r
    induction r with
    | zero =>
      intro S B hS S1 h
      have e : S = 2 ^ n := by omega
      have e3 : B = F := by omega
      rw [e3]
      refine br_t ?_ hp
      rw [e2, e]
      exact Int32.le_refl _
    | succ r ih =>
      intro S B hS S1 h
      refine br_f ?_ ?_
      · rw [e2]
        exact nI_ge (by omega) (by omega)
      refine rf_Ydm n6 HY P45 (by omega) (fun D => ?_) (fun D => ?_)
      · refine br_f (by decide) ?_
        refine rf_Ysz (by omega) ?_
        refine rf_Ysz (by omega) ?_
        have s1 := (rf_t9 S (by omega)).1
        have s2 := (rf_t9 B (by omega)).1
        have SF : F ≤ S := by
          apply Classical.byContradiction
          intro z
          exact Fm S (by omega) ⟨S1, D⟩
        have cF : F &&& S = F := by
          rcases rf_chn n6 (by omega) (by omega) DF D with c | c
          · exact c
          · have c2 := rf_ch S (by omega) F (by omega) c
            have e3 : S = F := by omega
            rw [e3, Nat.and_self]
        have c2 := rf_ch F (by omega) S (by omega) cF
        refine pk_le (rf_sz B) (rf_sz S) (fun w => nm_r (nI_1 S) (ih (S + 1) B (by omega) (by omega) ?_)) (fun w => nm_r (nI_1 S) (ih (S + 1) S (by omega) (by omega) ?_))
        · right
          refine ⟨by omega, ?_⟩
          rcases h with h | h
          · have e3 : S = F := by omega
            have cA : F &&& (2 ^ n - 1) = F := by
              rcases rf_chn n6 (by omega) (by omega) DF Da with c | c
              · exact c
              · have c3 := rf_ch (2 ^ n - 1) (by omega) F (by omega) c
                have e4 : F = 2 ^ n - 1 := by omega
                rw [← e4, Nat.and_self]
            have c3 := rf_ch F (by omega) (2 ^ n - 1) (by omega) cA
            rw [h.2, e3] at w
            rw [h.2]
            exact (c3.2.2 w).symm
          · exact h.2
        · right
          rcases h with h | h
          · omega
          · rw [h.2] at w
            omega
      · refine br_t rfl (nm_r (nI_1 S) (ih (S + 1) B (by omega) (by omega) ?_))
        have e3 : S ≠ F := fun z => D (z ▸ DF)
        omega
  unfold wpX_topSet wpX_allDocuments
  dsimp only
  rw [e1]
  refine ⟨2 ^ n - 1 - 1 + 1, X _ ?_ (2 ^ n - 1 - 1) 1 (by omega) (by omega) F1⟩
  refine nm_r e1 ⟨2 ^ n - 1 + 1, Y _ ?_ (2 ^ n - 1) 1 _ (by omega) (by omega) (Or.inl ⟨F1, rfl⟩)⟩
  exact ⟨rfl, R _ _ _ _⟩
