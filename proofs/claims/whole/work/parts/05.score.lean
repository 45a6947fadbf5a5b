def rf_PX (n : Nat) (g : Int32) (aw an ap : Nat → Int32) (P : Nat → Nat → Nat) : Prop :=
  ∀ (asd aps : Nat → Int32) (a b : Nat) (post : Int32 → Prop), a < n → b < n → post (nI (P a b)) → wpX_preference post (nI n, g, aw, an, ap, asd, aps) (nI a) (nI b)
def rf_PY (n : Nat) (g fo : Int32) (aw an al : Nat → Int32) (P : Nat → Nat → Nat) : Prop :=
  ∀ (ao : Nat → Int32) (a b : Nat) (post : Int32 → Prop), a < n → b < n → a ≠ b → post (nI (P a b)) → wpY_prefers post (nI n, g, fo, aw, an, al, ao) (nI a) (nI b)
theorem rf_open {k : Nat} {u : SX} {v : SY} (I : i_Rel k u v) : ∃ (n : Nat) (g : Int32) (aw an ap al asd aps ao : Nat → Int32) (P : Nat → Nat → Nat), u = (nI n, g, aw, an, ap, asd, aps) ∧ v = (nI n, g, nI (rf_fc n), aw, an, al, ao) ∧ 2 ≤ n ∧ n ≤ 6 ∧ rf_PX n g aw an ap P ∧ rf_PY n g (nI (rf_fc n)) aw an al P ∧ (∀ a b, P a b ≤ 45) ∧ (∀ a, P a a = 0) ∧ (∀ k' asd' aps' ao', i_Rel k' (nI n, g, aw, an, ap, asd', aps') (nI n, g, nI (rf_fc n), aw, an, al, ao')) := by
  obtain ⟨n, m, wt, c, q, aw, an, ap, al, asd, aps, ao, h1, h2, Q⟩ := I
  have Q' := Q
  obtain ⟨n2, n6, m5, hK⟩ := Q'
  refine ⟨n, nI m, aw, an, ap, al, asd, aps, ao, fun a b => rf_P wt q a b m, h1, h2, n2, n6, ?_, ?_, ?_, ?_, ?_⟩
  · intro asd aps a b post ha hb hp
    exact rf_Xp Q (by omega) (by omega) hp
  · intro ao a b post ha hb hab hp
    exact rf_Yp Q ha hb hab hp
  · intro a b
    have := rf_Pb (wt := wt) q a b m (fun j hj => (hK j hj).2.1)
    dsimp only
    omega
  · intro a
    exact rf_Paa wt q a m
  · intro k' asd' aps' ao'
    exact rf_mk k' Q asd' aps' ao'
theorem rf_pr (x y : Int32) {n : Nat} (hn : n ≤ 6) : (x = y ∨ (x < 0 ∨ nI n ≤ x) ∨ ((∃ a, a < n ∧ x = nI a) ∧ (y < 0 ∨ nI n ≤ y))) ∨ ∃ a b : Nat, a < n ∧ b < n ∧ a ≠ b ∧ x = nI a ∧ y = nI b := by
  by_cases e : x = y
  · exact Or.inl (Or.inl e)
  rcases rf_ix2 x hn with h | ⟨a, ha, rfl⟩
  · exact Or.inl (Or.inr (Or.inl h))
  rcases rf_ix2 y hn with h | ⟨b, hb, rfl⟩
  · exact Or.inl (Or.inr (Or.inr ⟨⟨a, ha, rfl⟩, h⟩))
  · exact Or.inr ⟨a, b, ha, hb, fun z => e (by rw [z]), rfl, rfl⟩
theorem rf_Xpr0 {x y : Int32} {n : Nat} (hn : n ≤ 6) (h : x = y ∨ (x < 0 ∨ nI n ≤ x) ∨ ((∃ a, a < n ∧ x = nI a) ∧ (y < 0 ∨ nI n ≤ y))) {g : Int32} {aw an ap asd aps : Nat → Int32} {post : Int32 → Prop} (hp : post 0) : wpX_isPair post (nI n, g, aw, an, ap, asd, aps) x y := by
  by_cases e : x = y
  · exact br_t e hp
  · refine br_f e ?_
    rcases h with h | h | ⟨⟨a, ha, rfl⟩, h⟩
    · exact absurd h e
    · exact rf_bad h (br_t rfl hp)
    · exact rf_ok hn ha (br_f (by decide) (rf_bad h (br_t rfl hp)))
theorem rf_Xpr1 {a b n : Nat} (hn : n ≤ 6) (ha : a < n) (hb : b < n) (hab : a ≠ b) {g : Int32} {aw an ap asd aps : Nat → Int32} {post : Int32 → Prop} (hp : post 1) : wpX_isPair post (nI n, g, aw, an, ap, asd, aps) (nI a) (nI b) := by
  refine br_f ?_ (rf_ok hn ha (br_f (by decide) (rf_ok hn hb (br_f (by decide) hp))))
  rw [nI_eq (by omega) (by omega)]
  exact hab
theorem rf_Ypr0 {x y : Int32} {n : Nat} (hn : n ≤ 6) (h : x = y ∨ (x < 0 ∨ nI n ≤ x) ∨ ((∃ a, a < n ∧ x = nI a) ∧ (y < 0 ∨ nI n ≤ y))) {g fo : Int32} {aw an al ao : Nat → Int32} {B C : Prop} (hB : B) : (x = y → B) ∧ (¬ x = y → (wpY_document (fun r_2 => (((r_2 = 0 → B) ∧ (¬ r_2 = 0 → (wpY_document (fun r_11 => (((r_11 = 0 → B) ∧ (¬ r_11 = 0 → C)))) (nI n, g, fo, aw, an, al, ao) y))))) (nI n, g, fo, aw, an, al, ao) x)) := by
  by_cases e : x = y
  · exact br_t e hB
  · refine br_f e ?_
    rcases h with h | h | ⟨⟨a, ha, rfl⟩, h⟩
    · exact absurd h e
    · exact rf_bad h (br_t rfl hB)
    · exact rf_ok hn ha (br_f (by decide) (rf_bad h (br_t rfl hB)))
theorem rf_Ypr1 {a b n : Nat} (hn : n ≤ 6) (ha : a < n) (hb : b < n) (hab : a ≠ b) {g fo : Int32} {aw an al ao : Nat → Int32} {B C : Prop} (hC : C) : (nI a = nI b → B) ∧ (¬ nI a = nI b → (wpY_document (fun r_2 => (((r_2 = 0 → B) ∧ (¬ r_2 = 0 → (wpY_document (fun r_11 => (((r_11 = 0 → B) ∧ (¬ r_11 = 0 → C)))) (nI n, g, fo, aw, an, al, ao) (nI b)))))) (nI n, g, fo, aw, an, al, ao) (nI a))) := by
  refine br_f ?_ (rf_ok hn ha (br_f (by decide) (rf_ok hn hb (br_f (by decide) hC))))
  rw [nI_eq (by omega) (by omega)]
  exact hab
theorem i_vc_prefers {k : Nat} {u : SX} {v : SY} (I : i_Rel k u v) (hk : k + 3 ≤ 1537) (v1 : Int32) (v2 : Int32) : wpX_prefers (fun r => wpY_prefers (fun r' => r' = r ∧ i_Rel (k + 3) u v) v v1 v2) u v1 v2 := by
  obtain ⟨n, g, aw, an, ap, al, asd, aps, ao, P, rfl, rfl, n2, n6, HX, HY, P45, P0, R⟩ := rf_open I
  rcases rf_pr v1 v2 n6 with h | ⟨a, b, ha, hb, hab, rfl, rfl⟩
  · unfold wpX_prefers
    dsimp only
    refine rf_Xpr0 n6 h ?_
    refine br_t rfl ?_
    refine rf_Ypr0 n6 h ?_
    exact ⟨rfl, R _ _ _ _⟩
  · unfold wpX_prefers
    dsimp only
    refine rf_Xpr1 n6 ha hb hab ?_
    refine br_f (by decide) ?_
    refine HX _ _ _ _ _ ha hb ?_
    refine HY _ _ _ _ ha hb hab ?_
    exact ⟨rfl, R _ _ _ _⟩
def rf_sc (P : Nat → Nat → Nat) (d : Nat) : Nat → Int32
  | 0 => 0
  | j + 1 => rf_sc P d j + (nI (P d j) - nI (P j d))
def rf_ah (s : Nat → Int32) (d : Nat) : Nat → Nat
  | 0 => 0
  | b + 1 => rf_ah s d b + (if s d < s b ∨ (s b = s d ∧ b < d) then 1 else 0)
theorem rf_ahb (s : Nat → Int32) (d : Nat) : ∀ b, rf_ah s d b ≤ b ∧ (d < b → rf_ah s d b < b) := by
  intro b
  induction b with
  | zero => exact ⟨Nat.le_refl 0, fun h => absurd h (by omega)⟩
  | succ b ih =>
    obtain ⟨i1, i2⟩ := ih
    have e : rf_ah s d (b + 1) = rf_ah s d b + (if s d < s b ∨ (s b = s d ∧ b < d) then 1 else 0) := rfl
    by_cases z : d = b
    · subst z
      rw [if_neg (fun h => by
        rcases h with h | h
        · exact Int32.lt_irrefl h
        · exact absurd h.2 (by omega))] at e
      omega
    · by_cases y : s d < s b ∨ (s b = s d ∧ b < d)
      · rw [if_pos y] at e
        refine ⟨by omega, fun h => ?_⟩
        have := i2 (by omega)
        omega
      · rw [if_neg y] at e
        omega
def rf_sa (h : Nat → Nat) (v : Int32) : Nat → Nat → Int32
  | 0, _ => -1
  | r + 1, d => if nI (h d) = v then nI d else rf_sa h v r (d + 1)
section
variable {n : Nat} {g fo : Int32} {aw an ap al : Nat → Int32} {P : Nat → Nat → Nat}
theorem rf_Xs (n6 : n ≤ 6) (HX : rf_PX n g aw an ap P) {asd aps : Nat → Int32} {d : Nat} (hd : d < n) {post : Int32 → Prop} (hp : post (rf_sc P d n)) : wpX_scoreOf post (nI n, g, aw, an, ap, asd, aps) (nI d) := by
  have key : ∀ r j, j + r = n → wX_scoreOf_4 post (nI d) (nI n) g aw an ap asd aps (r + 1) (rf_sc P d j) (nI j) := by
    intro r
    induction r with
    | zero =>
      intro j hj
      have e : j = n := by omega
      subst e
      exact br_t (Int32.le_refl _) hp
    | succ r ih =>
      intro j hj
      refine br_f (nI_ge (by omega) (by omega)) (HX _ _ _ _ _ hd (by omega) (HX _ _ _ _ _ (by omega) hd ?_))
      exact nm_e (nm_r (nI_1 j) (ih (j + 1) (by omega)))
  exact ⟨n + 1, key n 0 (by omega)⟩
theorem rf_Ys (n6 : n ≤ 6) (HY : rf_PY n g fo aw an al P) (P0 : ∀ a, P a a = 0) {ao : Nat → Int32} {d : Nat} (hd : d < n) {post : Int32 → Prop} (hp : post (rf_sc P d n)) : wpY_score post (nI n, g, fo, aw, an, al, ao) (nI d) := by
  have key : ∀ r j, j + r = n → wY_score_16 post (nI d) (nI n) g fo aw an al ao (r + 1) (rf_sc P d j) (nI j) := by
    intro r
    induction r with
    | zero =>
      intro j hj
      have e : j = n := by omega
      subst e
      exact br_t (Int32.le_refl _) hp
    | succ r ih =>
      intro j hj
      refine br_f (nI_ge (by omega) (by omega)) ?_
      have i1 := ih (j + 1) (by omega)
      by_cases e : j = d
      · subst e
        have e2 : rf_sc P j (j + 1) = rf_sc P j j := by
          show rf_sc P j j + (nI (P j j) - nI (P j j)) = _
          rw [Int32.sub_self, Int32.add_zero]
        rw [e2] at i1
        exact br_t rfl (nm_r (nI_1 j) i1)
      · refine br_f (by rw [nI_eq (by omega) (by omega)]; exact e) (HY _ _ _ _ hd (by omega) (fun z => e z.symm) (HY _ _ _ _ (by omega) hd e ?_))
        refine nm_r (e' := rf_sc P d (j + 1)) ?_ (nm_r (nI_1 j) i1)
        show _ = rf_sc P d j + (nI (P d j) - nI (P j d))
        rw [Int32.sub_eq_add_neg, Int32.sub_eq_add_neg, Int32.add_assoc]
  exact rf_ok n6 hd (br_f (by decide) ⟨n + 1, key n 0 (by omega)⟩)
theorem rf_Xsp (n6 : n ≤ 6) (HX : rf_PX n g aw an ap P) {asd aps : Nat → Int32} {d : Nat} (hd : d < n) {post : Int32 → Prop} (hp : post (nI (rf_ah (fun j => rf_sc P j n) d n))) : wpX_scorePlace post (nI n, g, aw, an, ap, asd, aps) (nI d) := by
  have key : ∀ r b, b + r = n → wX_scorePlace_11 post (nI d) (rf_sc P d n) (nI n) g aw an ap asd aps (r + 1) (nI (rf_ah (fun j => rf_sc P j n) d b)) (nI b) := by
    intro r
    induction r with
    | zero =>
      intro b hb
      have e : b = n := by omega
      subst e
      exact br_t (Int32.le_refl _) hp
    | succ r ih =>
      intro b hb
      refine br_f (nI_ge (by omega) (by omega)) (rf_Xs n6 HX (by omega) ?_)
      have i1 := ih (b + 1) (by omega)
      have e : rf_ah (fun j => rf_sc P j n) d (b + 1) = rf_ah (fun j => rf_sc P j n) d b + (if rf_sc P d n < rf_sc P b n ∨ (rf_sc P b n = rf_sc P d n ∧ b < d) then 1 else 0) := rfl
      rw [e] at i1
      refine br_c (fun h1 => ?_) (fun h1 => br_c (fun h2 => ?_) (fun h2 => ?_))
      · rw [if_pos (Or.inl h1)] at i1
        exact nm_r (nI_1 _) (nm_r (nI_1 b) i1)
      · refine pk_le d b (fun h3 => ?_) (fun h3 => ?_)
        · rw [if_neg (fun z => z.elim h1 (fun y => absurd y.2 (by omega))), Nat.add_zero] at i1
          exact nm_r (nI_1 b) i1
        · rw [if_pos (Or.inr ⟨h2, h3⟩)] at i1
          exact nm_r (nI_1 _) (nm_r (nI_1 b) i1)
      · rw [if_neg (fun z => z.elim h1 (fun y => h2 y.1)), Nat.add_zero] at i1
        exact nm_r (nI_1 b) i1
  exact rf_Xs n6 HX hd ⟨n + 1, key n 0 (by omega)⟩
theorem rf_Xsa (n6 : n ≤ 6) (HX : rf_PX n g aw an ap P) {asd aps : Nat → Int32} {v : Int32} {post : Int32 → Prop} : ∀ r d, d + r = n → post (rf_sa (fun d => rf_ah (fun j => rf_sc P j n) d n) v r d) → wX_scoreAt_12 post v (nI n) g aw an ap asd aps (r + 1) (nI d) := by
  intro r
  induction r with
  | zero =>
    intro d hd hp
    have e : d = n := by omega
    subst e
    exact br_t (Int32.le_refl _) hp
  | succ r ih =>
    intro d hd hp
    refine br_f (nI_ge (by omega) (by omega)) (rf_Xsp n6 HX (by omega) ?_)
    unfold rf_sa at hp
    refine br_c (fun h => ?_) (fun h => nm_r (nI_1 d) (ih (d + 1) (by omega) ?_))
    · rw [if_pos h] at hp; exact hp
    · rw [if_neg h] at hp; exact hp
theorem rf_Ysa (n6 : n ≤ 6) (HY : rf_PY n g fo aw an al P) (P0 : ∀ a, P a a = 0) {ao : Nat → Int32} {v : Int32} {post : Int32 → Prop} : ∀ r d, d + r = n → post (rf_sa (fun d => rf_ah (fun j => rf_sc P j n) d n) v r d) → wY_scoreAt_2 post v (nI n) g fo aw an al ao (r + 1) (nI d) := by
  intro r
  induction r with
  | zero =>
    intro d hd hp
    have e : d = n := by omega
    subst e
    exact br_t (Int32.le_refl _) hp
  | succ r ih =>
    intro d hd hp
    have key : ∀ t b, b + t = n → wY_scoreAt_22 post (wY_scoreAt_2 post v (nI n) g fo aw an al ao (r + 1)) v (nI d) (rf_sc P d n) (nI n) g fo aw an al ao (t + 1) (nI (rf_ah (fun j => rf_sc P j n) d b)) (nI b) := by
      intro t
      induction t with
      | zero =>
        intro b hb
        have e : b = n := by omega
        subst e
        refine br_t (Int32.le_refl _) ?_
        unfold rf_sa at hp
        refine br_c (fun h => ?_) (fun h => nm_r (nI_1 d) (ih (d + 1) (by omega) ?_))
        · rw [if_pos h] at hp; exact hp
        · rw [if_neg h] at hp; exact hp
      | succ t ih2 =>
        intro b hb
        refine br_f (nI_ge (by omega) (by omega)) (rf_Ys n6 HY P0 (by omega) ?_)
        have i1 := ih2 (b + 1) (by omega)
        have e : rf_ah (fun j => rf_sc P j n) d (b + 1) = rf_ah (fun j => rf_sc P j n) d b + (if rf_sc P d n < rf_sc P b n ∨ (rf_sc P b n = rf_sc P d n ∧ b < d) then 1 else 0) := rfl
        rw [e] at i1
        refine br_c (fun h1 => ?_) (fun h1 => br_c (fun h2 => ?_) (fun h2 => ?_))
        · rw [if_pos (Or.inl h1)] at i1
          exact nm_r (nI_1 _) (nm_r (nI_1 b) i1)
        · refine pk_le d b (fun h3 => ?_) (fun h3 => ?_)
          · rw [if_neg (fun z => z.elim h1 (fun y => absurd y.2 (by omega))), Nat.add_zero] at i1
            exact nm_r (Int32.add_zero _) (nm_r (nI_1 b) i1)
          · rw [if_pos (Or.inr ⟨h2, h3⟩)] at i1
            exact nm_r (nI_1 _) (nm_r (nI_1 b) i1)
        · rw [if_neg (fun z => z.elim h1 (fun y => h2 y.1)), Nat.add_zero] at i1
          exact nm_r (Int32.add_zero _) (nm_r (nI_1 b) i1)
    exact br_f (nI_ge (by omega) (by omega)) (rf_Ys n6 HY P0 (by omega) ⟨n + 1, key n 0 (by omega)⟩)
end
theorem rf_sab {n : Nat} (n6 : n ≤ 6) {h : Nat → Nat} {v : Int32} (hb : v < 0 ∨ nI n ≤ v) : ∀ r d, (∀ j, j < n → h j < n) → d + r = n → rf_sa h v r d = -1 := by
  intro r
  induction r with
  | zero => intro d _ _; rfl
  | succ r ih =>
    intro d hh hd
    unfold rf_sa
    have hj := hh d (by omega)
    rw [if_neg, ih (d + 1) hh (by omega)]
    intro z
    rw [← z] at hb
    rcases hb with hb | hb
    · exact nI_pos (by omega) hb
    · exact nI_ge hj (by omega) hb
theorem i_vc_score {k : Nat} {u : SX} {v : SY} (I : i_Rel k u v) (hk : k + 3 ≤ 1537) (v1 : Int32) : wpX_score (fun r => wpY_score (fun r' => r' = r ∧ i_Rel (k + 3) u v) v v1) u v1 := by
  obtain ⟨n, g, aw, an, ap, al, asd, aps, ao, P, rfl, rfl, n2, n6, HX, HY, P45, P0, R⟩ := rf_open I
  rcases rf_ix2 v1 n6 with h | ⟨d, hd, rfl⟩
  · exact rf_bad h (br_t rfl (rf_bad h (br_t rfl ⟨rfl, R _ _ _ _⟩)))
  · exact rf_ok n6 hd (br_f (by decide) (rf_Xs n6 HX hd (rf_Ys n6 HY P0 hd ⟨rfl, R _ _ _ _⟩)))
theorem i_vc_scoreAt {k : Nat} {u : SX} {v : SY} (I : i_Rel k u v) (hk : k + 3 ≤ 1537) (v1 : Int32) : wpX_scoreAt (fun r => wpY_scoreAt (fun r' => r' = r ∧ i_Rel (k + 3) u v) v v1) u v1 := by
  obtain ⟨n, g, aw, an, ap, al, asd, aps, ao, P, rfl, rfl, n2, n6, HX, HY, P45, P0, R⟩ := rf_open I
  rcases rf_ix2 v1 n6 with h | ⟨d, hd, rfl⟩
  · refine rf_bad h (br_t rfl ⟨n + 1, rf_Ysa n6 HY P0 n 0 (by omega) ⟨?_, R _ _ _ _⟩⟩)
    exact rf_sab n6 h n 0 (fun j hj => (rf_ahb _ j n).2 hj) (by omega)
  · exact rf_ok n6 hd (br_f (by decide) ⟨n + 1, rf_Xsa n6 HX n 0 (by omega) ⟨n + 1, rf_Ysa n6 HY P0 n 0 (by omega) ⟨rfl, R _ _ _ _⟩⟩⟩)
