def rf_E (P : Nat → Nat → Nat) (s x y : Nat) : Prop := s ≤ P x y ∧ P y x < P x y
def rf_R (P : Nat → Nat → Nat) (n s a b : Nat) : Prop := ∀ Q : Nat → Prop, Q a → (∀ x y, x < n → y < n → Q x → rf_E P s x y → Q y) → Q b
def rf_T (n : Nat) (t : Nat → Int32) (D : Nat → Nat → Nat) : Prop := ∀ a, a < n → ∀ b, b < n → t (6 * a + b) = nI (D a b)
def rf_D0 (P : Nat → Nat → Nat) (a b : Nat) : Nat := if P b a < P a b then P a b else 0
def rf_N (D : Nat → Nat → Nat) (m a b : Nat) : Nat := max (D a b) (min (D a m) (D m b))
def rf_I (P : Nat → Nat → Nat) (n m : Nat) (D : Nat → Nat → Nat) : Prop :=
  (∀ a b, a < n → b < n → D a b ≤ 45) ∧ (∀ s a b, 1 ≤ s → a < n → b < n → s ≤ D a b → rf_R P n s a b) ∧ (∀ a b, a < n → b < n → rf_D0 P a b ≤ D a b) ∧ (∀ m', m' < m → ∀ a b, a < n → b < n → min (D a m') (D m' b) ≤ D a b)
def rf_V (P : Nat → Nat → Nat) (n : Nat) (D : Nat → Nat → Nat) : Prop :=
  (∀ a b, a < n → b < n → D a b ≤ 45) ∧ (∀ s a b, 1 ≤ s → a < n → b < n → a ≠ b → (s ≤ D a b ↔ rf_R P n s a b))
theorem rf_Rt {P : Nat → Nat → Nat} {n s a b c : Nat} (h1 : rf_R P n s a b) (h2 : rf_R P n s b c) : rf_R P n s a c :=
  fun Q qa hc => h2 Q (h1 Q qa hc) hc
theorem rf_I0 {P : Nat → Nat → Nat} {n : Nat} (P45 : ∀ a b, P a b ≤ 45) : rf_I P n 0 (rf_D0 P) := by
  refine ⟨fun a b _ _ => ?_, fun s a b hs ha hb h => ?_, fun a b _ _ => Nat.le_refl _, fun m' h => absurd h (by omega)⟩
  · have := P45 a b
    unfold rf_D0
    split <;> omega
  · unfold rf_D0 at h
    by_cases z : P b a < P a b
    · rw [if_pos z] at h
      exact fun Q qa hc => hc a b ha hb qa ⟨h, z⟩
    · rw [if_neg z] at h
      omega
theorem rf_IN {P : Nat → Nat → Nat} {n m : Nat} {D : Nat → Nat → Nat} (hm : m < n) (h : rf_I P n m D) : rf_I P n (m + 1) (rf_N D m) := by
  obtain ⟨h1, h2, h3, h4⟩ := h
  refine ⟨fun a b ha hb => ?_, fun s a b hs ha hb h => ?_, fun a b ha hb => ?_, fun m' hm' a b ha hb => ?_⟩
  · have x1 := h1 a b ha hb
    have x2 := h1 a m ha hm
    unfold rf_N
    omega
  · unfold rf_N at h
    by_cases z : s ≤ D a b
    · exact h2 s a b hs ha hb z
    · exact rf_Rt (h2 s a m hs ha hm (by omega)) (h2 s m b hs hm hb (by omega))
  · have x1 := h3 a b ha hb
    unfold rf_N
    omega
  · unfold rf_N
    by_cases z : m' = m
    · subst z
      omega
    · have x1 := h4 m' (by omega) a b ha hb
      have x2 := h4 m' (by omega) a m ha hm
      have x3 := h4 m' (by omega) m b hm hb
      omega
theorem rf_IV {P : Nat → Nat → Nat} {n : Nat} {D : Nat → Nat → Nat} (h : rf_I P n n D) : rf_V P n D := by
  obtain ⟨h1, h2, h3, h4⟩ := h
  refine ⟨h1, fun s a b hs ha hb hab => ⟨h2 s a b hs ha hb, fun h => ?_⟩⟩
  have z := h (fun x => x = a ∨ (x < n ∧ s ≤ D a x)) (Or.inl rfl) (fun x y hx hy qx e => ?_)
  · rcases z with z | z
    · exact absurd z.symm hab
    · exact z.2
  · right
    refine ⟨hy, ?_⟩
    have d0 := h3 x y hx hy
    unfold rf_D0 at d0
    rw [if_pos e.2] at d0
    have e1 := e.1
    rcases qx with rfl | qx
    · omega
    · have x1 := h4 x hx a y ha hy
      omega
def rf_C (D : Nat → Nat → Nat) (m a b a' b' : Nat) : Nat := if a' < a ∨ (a' = a ∧ b' < b) then rf_N D m a' b' else D a' b'
theorem rf_Cm (D : Nat → Nat → Nat) (m a b a' : Nat) : rf_C D m a b a' m = D a' m := by
  unfold rf_C rf_N
  split <;> omega
theorem rf_Cm2 (D : Nat → Nat → Nat) (m a b b' : Nat) : rf_C D m a b m b' = D m b' := by
  unfold rf_C rf_N
  split <;> omega
section
variable {n : Nat} {g fo : Int32} {aw an ap al : Nat → Int32} {P : Nat → Nat → Nat}
theorem rf_Xw (n6 : n ≤ 6) {asd aps : Nat → Int32} {D : Nat → Nat → Nat} (D45 : ∀ a b, a < n → b < n → D a b ≤ 45) {m a b : Nat} (hm : m < n) (ha : a < n) (hb : b < n) (T : rf_T n aps (rf_C D m a b)) {post : SX → Prop} (hp : ∀ aps', rf_T n aps' (rf_C D m a (b + 1)) → post (nI n, g, aw, an, ap, asd, aps')) : wpX_weighPathThrough post (nI n, g, aw, an, ap, asd, aps) (nI m) (nI a) (nI b) := by
  have t1 : aps (6 * a + m) = nI (D a m) := by rw [T a ha m hm, rf_Cm]
  have t2 : aps (6 * m + b) = nI (D m b) := by rw [T m hm b hb, rf_Cm2]
  have t3 : aps (6 * a + b) = nI (D a b) := by
    rw [T a ha b hb]
    unfold rf_C
    rw [if_neg (by omega)]
  have b1 := D45 a m ha hm
  have b2 := D45 m b hm hb
  have b3 := D45 a b ha hb
  have last : ∀ w, w = min (D a m) (D m b) → wX_weighPathThrough_38 post (nI a) (nI b) (nI w) (nI n) g aw an ap asd aps := by
    intro w hw
    unfold wX_weighPathThrough_38 wpX_pairIndex
    dsimp only
    rw [rf_ix, nI_clamp (by omega), t3]
    refine ⟨vp_in_nI (by omega) (by decide), pk_le w (D a b) (fun z => hp aps ?_) (fun z => ⟨vp_in_nI (by omega) (by decide), nm_e (hp _ ?_)⟩)⟩
    · intro a' ha' b' hb'
      rw [T a' ha' b' hb']
      unfold rf_C
      by_cases e : a' = a ∧ b' = b
      · obtain ⟨rfl, rfl⟩ := e
        rw [if_neg (by omega), if_pos (by omega)]
        unfold rf_N
        congr 1
        omega
      · by_cases y : a' < a ∨ (a' = a ∧ b' < b)
        · rw [if_pos y, if_pos (by omega)]
        · rw [if_neg y, if_neg (by omega)]
    · intro a' ha' b' hb'
      by_cases e : a' = a ∧ b' = b
      · obtain ⟨rfl, rfl⟩ := e
        rw [pk_us]
        unfold rf_C
        rw [if_pos (by omega)]
        unfold rf_N
        congr 1
        omega
      · rw [pk_un (by omega), T a' ha' b' hb']
        unfold rf_C
        by_cases y : a' < a ∨ (a' = a ∧ b' < b)
        · rw [if_pos y, if_pos (by omega)]
        · rw [if_neg y, if_neg (by omega)]
  unfold wpX_weighPathThrough wpX_pairIndex
  dsimp only
  rw [rf_ix, rf_ix, nI_clamp (by omega), nI_clamp (by omega), t1, t2]
  refine ⟨vp_in_nI (by omega) (by decide), nm_e ⟨vp_in_nI (by omega) (by decide), nm_e ?_⟩⟩
  exact pk_le (D m b) (D a m) (fun z => last _ (by omega)) (fun z => last _ (by omega))
theorem rf_Xfw (n6 : n ≤ 6) {asd : Nat → Int32} {post : SX → Prop} (hp : ∀ aps' D, rf_T n aps' D → rf_V P n D → post (nI n, g, aw, an, ap, asd, aps')) : ∀ r m (aps : Nat → Int32) (D : Nat → Nat → Nat), m + r = n → rf_T n aps D → rf_I P n m D → wX_fillPathStrengths_63 post (r + 1) (nI m) (nI n) g aw an ap asd aps := by
  intro r
  induction r with
  | zero =>
    intro m aps D hm T I
    have e : m = n := by omega
    subst e
    exact br_t (Int32.le_refl _) (hp aps D T (rf_IV I))
  | succ r ih =>
    intro m aps D hm T I
    refine br_f (nI_ge (by omega) (by omega)) ?_
    have key : ∀ t a (aps : Nat → Int32), a + t = n → rf_T n aps (rf_C D m a 0) → wX_fillPathStrengths_73 post (wX_fillPathStrengths_63 post (r + 1)) (nI m) (t + 1) (nI a) (nI n) g aw an ap asd aps := by
      intro t
      induction t with
      | zero =>
        intro a aps ha T
        have e : a = n := by omega
        subst e
        refine br_t (Int32.le_refl _) (nm_r (nI_1 m) (ih (m + 1) aps (rf_N D m) (by omega) ?_ (rf_IN (by omega) I)))
        intro a' ha' b' hb'
        rw [T a' ha' b' hb']
        unfold rf_C
        rw [if_pos (by omega)]
      | succ t ih2 =>
        intro a aps ha T
        refine br_f (nI_ge (by omega) (by omega)) ?_
        have key2 : ∀ w b (aps : Nat → Int32), b + w = n → rf_T n aps (rf_C D m a b) → wX_fillPathStrengths_83 post (wX_fillPathStrengths_63 post (r + 1)) (wX_fillPathStrengths_73 post (wX_fillPathStrengths_63 post (r + 1)) (nI m) (t + 1)) (nI m) (nI a) (w + 1) (nI b) (nI n) g aw an ap asd aps := by
          intro w
          induction w with
          | zero =>
            intro b aps hb T
            have e : b = n := by omega
            subst e
            refine br_t (Int32.le_refl _) (nm_r (nI_1 a) (ih2 (a + 1) aps (by omega) ?_))
            intro a' ha' b' hb'
            rw [T a' ha' b' hb']
            unfold rf_C
            by_cases y : a' < a ∨ (a' = a ∧ b' < b)
            · rw [if_pos y, if_pos (by omega)]
            · rw [if_neg y, if_neg (by omega)]
          | succ w ih3 =>
            intro b aps hb T
            refine br_f (nI_ge (by omega) (by omega)) ?_
            exact rf_Xw n6 I.1 (by omega) (by omega) (by omega) T (fun aps' T' => nm_r (nI_1 b) (ih3 (b + 1) aps' (by omega) T'))
        exact ⟨n + 1, key2 n 0 aps (by omega) T⟩
    refine ⟨n + 1, key n 0 aps (by omega) ?_⟩
    intro a' ha' b' hb'
    rw [T a' ha' b' hb']
    unfold rf_C
    rw [if_neg (by omega)]
theorem rf_Xfp (n6 : n ≤ 6) (HX : rf_PX n g aw an ap P) (P45 : ∀ a b, P a b ≤ 45) {asd aps : Nat → Int32} {post : SX → Prop} (hp : ∀ aps' D, rf_T n aps' D → rf_V P n D → post (nI n, g, aw, an, ap, asd, aps')) : wpX_fillPathStrengths post (nI n, g, aw, an, ap, asd, aps) := by
  have key : ∀ t a (aps : Nat → Int32), a + t = n → (∀ a', a' < a → ∀ b', b' < n → aps (6 * a' + b') = nI (rf_D0 P a' b')) → wX_fillPathStrengths_2 post (nI n) g (t + 1) (nI a) aw an ap asd aps := by
    intro t
    induction t with
    | zero =>
      intro a aps ha T
      have e : a = n := by omega
      subst e
      exact br_t (Int32.le_refl _) ⟨a + 1, rf_Xfw n6 hp a 0 aps (rf_D0 P) (by omega) T (rf_I0 P45)⟩
    | succ t ih =>
      intro a aps ha T
      refine br_f (nI_ge (by omega) (by omega)) ?_
      have key2 : ∀ w b (aps : Nat → Int32), b + w = n → (∀ a', a' < a → ∀ b', b' < n → aps (6 * a' + b') = nI (rf_D0 P a' b')) → (∀ b', b' < b → aps (6 * a + b') = nI (rf_D0 P a b')) → wX_fillPathStrengths_12 post (wX_fillPathStrengths_2 post (nI n) g (t + 1)) (nI a) (nI n) g (w + 1) (nI b) aw an ap asd aps := by
        intro w
        induction w with
        | zero =>
          intro b aps hb T1 T2
          have e : b = n := by omega
          subst e
          exact br_t (Int32.le_refl _) (nm_r (nI_1 a) (ih (a + 1) aps (by omega) (ax_lt1 T1 T2)))
        | succ w ih2 =>
          intro b aps hb T1 T2
          refine br_f (nI_ge (by omega) (by omega)) ?_
          have go : ∀ v, v = nI (rf_D0 P a b) → wX_fillPathStrengths_12 post (wX_fillPathStrengths_2 post (nI n) g (t + 1)) (nI a) (nI n) g (w + 1) (nI (b + 1)) aw an ap asd (upd aps (nI (6 * a + b)).toNatClampNeg v) := by
            intro v hv
            rw [nI_clamp (by omega)]
            refine ih2 (b + 1) _ (by omega) (fun a' ha' b' hb' => ?_) (ax_lt1 (fun b' hb' => ?_) ?_)
            · rw [pk_un (by omega)]
              exact T1 a' ha' b' hb'
            · rw [pk_un (by omega)]
              exact T2 b' hb'
            · rw [pk_us, hv]
          unfold wpX_pairIndex
          rw [rf_ix]
          have hv : vp_in (nI (6 * a + b)) 36 := vp_in_nI (by omega) (by decide)
          refine rf_Xbt HX P45 (by omega) (by omega) (fun z => ?_) (fun z => ?_)
          · refine br_f (by decide) ?_
            refine HX _ _ _ _ _ (by omega) (by omega) ?_
            refine ⟨hv, nm_e (nm_r (nI_1 b) (go _ ?_))⟩
            unfold rf_D0
            rw [if_pos z]
          · refine br_t rfl ⟨hv, nm_e (nm_r (nI_1 b) (go _ ?_))⟩
            unfold rf_D0
            rw [if_neg (by omega)]
            rfl
      exact ⟨n + 1, key2 n 0 aps (by omega) T (fun b' hb' => absurd hb' (by omega))⟩
  exact ⟨n + 1, key n 0 aps (by omega) (fun b' hb' => absurd hb' (by omega))⟩
end
