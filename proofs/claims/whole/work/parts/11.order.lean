section
variable {n : Nat} {g fo : Int32} {aw an ap al : Nat → Int32} {P : Nat → Nat → Nat}
theorem rf_Ynt {f g fo : Int32} {ao : Nat → Int32} {S s : Nat} (hS : S < 64) (hs : s < 6) {post : Int32 → Prop} (hp : post (nI (rf_nt S s))) : wpY_nth post (f, g, fo, aw, an, al, ao) (nI S) (nI s) := by
  have key : ∀ r d l, d + r = 6 → l ≤ d → post (nI (rf_nx S s r d l)) → wY_nth_5 post (nI S) (nI s) f g fo aw an al ao (r + 1) (nI l) (nI d) := by
    intro r
    induction r with
    | zero =>
      intro d l hd hl hp
      have e : d = 6 := by omega
      subst e
      exact br_t (Int32.le_refl _) hp
    | succ r ih =>
      intro d l hd hl hp
      refine br_f (nI_ge (b := 6) (by omega) (by decide)) ?_
      have hb := rf_has S hS d (by omega)
      unfold rf_nx at hp
      refine br_c (fun z => ?_) (fun z => ?_)
      · rw [if_pos (hb.mp z)] at hp
        refine pk_eq l s (fun e => ?_) (fun e => ?_)
        · rw [if_pos e] at hp
          exact hp
        · rw [if_neg e] at hp
          exact nm_r (nI_1 l) (nm_r (nI_1 d) (ih (d + 1) (l + 1) (by omega) (by omega) hp))
      · rw [if_neg (fun y => z (hb.mpr y))] at hp
        exact nm_r (nI_1 d) (ih (d + 1) l (by omega) (by omega) hp)
  exact ⟨7, key 6 0 0 (by omega) (by omega) hp⟩
theorem rf_Ysp (n6 : n ≤ 6) {post : SY → Prop} : ∀ j k S c (ao : Nat → Int32), k + j = n → S < 2 ^ n → rf_sz S = j → c < rf_fc j → (∀ ao' : Nat → Int32, (∀ i, i < k → ao' i = ao i) → (∀ i, i < j → ao' (k + i) = nI (rf_od j S c i)) → post (nI n, g, fo, aw, an, al, ao')) → wY_spell_20 post (nI n) g fo (j + 1) (nI c) (nI (rf_fc j)) (nI S) (nI k) aw an al ao := by
  have p := (rf_p2 n (by omega)).1
  intro j
  induction j with
  | zero =>
    intro k S c ao hk hS hj hc hp
    have e : k = n := by omega
    subst e
    exact br_t (Int32.le_refl _) (hp ao (fun _ _ => rfl) (fun i hi => absurd hi (by omega)))
  | succ j ih =>
    intro k S c ao hk hS hj hc hp
    obtain ⟨x1, x2, x3, x4, x5, x6⟩ := rf_st n6 hS hj hc
    have fb := rf_fcb (j + 1) (by omega)
    have fb2 := rf_fcb j (by omega)
    have e1 : nI n - nI k = nI (j + 1) := by
      rw [pk_sub (by omega)]
      exact congrArg nI (by omega)
    have e2 : nI (rf_fc (j + 1)) / nI (j + 1) = nI (rf_fc j) := by
      rw [pk_div (by omega) (by omega) (by omega)]
      exact congrArg nI (Nat.mul_div_cancel_left _ (by omega))
    have e3 : nI c / nI (rf_fc j) = nI (c / rf_fc j) := pk_div (by omega) (by omega) (by omega)
    have e4 : nI c - nI c / nI (rf_fc j) * nI (rf_fc j) = nI (c % rf_fc j) := pk_rem (by omega) (by omega) (by omega)
    have hne : ¬ nI (rf_fc j) ≤ 0 := nI_nle (by omega) (by omega)
    have hnz : ¬ nI (rf_fc j) = 0 := nI_ne0 (by omega) (by omega)
    refine br_f (nI_ge (by omega) (by omega)) ?_
    rw [e1]
    refine ⟨nI_ne0 (by omega) (by omega), nm_r e2 (br_f hne ⟨hnz, ?_⟩)⟩
    rw [e3]
    refine br_f hne ⟨hnz, ?_⟩
    rw [e4]
    refine rf_Ynt (by omega) (by omega) ?_
    refine ⟨vp_in_nI (by omega) (by decide), nm_e (nm_r (rf_wo S (by omega) _ (by omega)) (nm_r (nI_1 k) (ih (k + 1) _ _ _ (by omega) x5 x6 x2 (fun ao' h1 h2 => ?_))))⟩
    refine hp ao' (fun i hi => ?_) (fun i hi => ?_)
    · rw [h1 i (by omega), nI_clamp (by omega), pk_un (by omega)]
    · cases i with
      | zero =>
        rw [rf_oz, Nat.add_zero, h1 k (by omega), nI_clamp (by omega), pk_us]
      | succ i =>
        rw [rf_os, show k + (i + 1) = k + 1 + i by omega]
        exact h2 i (by omega)
theorem rf_Ysq (n6 : n ≤ 6) {ao : Nat → Int32} {c : Nat} (hc : c < rf_fc n) {post : SY → Prop} (hp : ∀ ao' : Nat → Int32, (∀ i, i < n → ao' i = nI (rf_od n (2 ^ n - 1) c i)) → post (nI n, g, nI (rf_fc n), aw, an, al, ao')) : wpY_spell post (nI n, g, nI (rf_fc n), aw, an, al, ao) (nI c) := by
  have p := rf_p2 n (by omega)
  refine nm_r (rf_all n (by omega)) ⟨n + 1, rf_Ysp n6 n 0 (2 ^ n - 1) c ao (by omega) (by omega) (rf_t10 n (by omega)) hc (fun ao' h1 h2 => hp ao' (fun i hi => ?_))⟩
  have := h2 i hi
  rw [Nat.zero_add] at this
  exact this
theorem rf_Ydi (n6 : n ≤ 6) (HY : rf_PY n g fo aw an al P) {ao : Nat → Int32} {o : Nat → Nat} (ho : ∀ i, i < n → ao i = nI (o i)) (hn : ∀ i, i < n → o i < n) (hd : ∀ k i, k < n → i < k → o k ≠ o i) {post : Int32 → Prop} (hp : post (nI (rf_dd (fun k i => P (o k) (o i)) n))) : wpY_distance post (nI n, g, fo, aw, an, al, ao) := by
  have key : ∀ r k, k + r = n → wY_distance_4 post (nI n) g fo aw an al ao (r + 1) (nI (rf_dd (fun k i => P (o k) (o i)) k)) (nI k) := by
    intro r
    induction r with
    | zero =>
      intro k hk
      have e : k = n := by omega
      subst e
      exact br_t (Int32.le_refl _) hp
    | succ r ih =>
      intro k hk
      refine br_f (nI_ge (by omega) (by omega)) ?_
      have key2 : ∀ w i, i + w = k → wY_distance_14 post (wY_distance_4 post (nI n) g fo aw an al ao (r + 1)) (nI k) (nI n) g fo aw an al ao (w + 1) (nI (rf_dd (fun k i => P (o k) (o i)) k + rf_s1 (fun i => P (o k) (o i)) i)) (nI i) := by
        intro w
        induction w with
        | zero =>
          intro i hi
          have e : i = k := by omega
          subst e
          exact br_t (Int32.le_refl _) (nm_r (nI_1 i) (ih (i + 1) (by omega)))
        | succ w ih2 =>
          intro i hi
          refine br_f (nI_ge (by omega) (by omega)) ⟨vp_in_nI (by omega) (by decide), vp_in_nI (by omega) (by decide), ?_⟩
          rw [nI_clamp (by omega), nI_clamp (by omega), ho k (by omega), ho i (by omega)]
          refine HY _ _ _ _ (hn k (by omega)) (hn i (by omega)) (hd k i (by omega) (by omega)) ?_
          refine nm_r ?_ (nm_r (nI_1 i) (ih2 (i + 1) (by omega)))
          rw [nI_add, Nat.add_assoc]
          rfl
      exact ⟨k + 1, key2 k 0 (by omega)⟩
  exact ⟨n + 1, key n 0 (by omega)⟩
theorem rf_Yod (n6 : n ≤ 6) (HY : rf_PY n g fo aw an al P) {ao : Nat → Int32} {c : Nat} (hc : c < rf_fc n) (ho : ∀ i, i < n → ao i = nI (rf_od n (2 ^ n - 1) c i)) {post : Int32 → Prop} (hp : post (nI (rf_ds P n (2 ^ n - 1) c))) : wpY_distance post (nI n, g, fo, aw, an, al, ao) := by
  have p := rf_p2 n (by omega)
  have s := rf_t10 n (by omega)
  rw [← rf_o4 n6 P n (2 ^ n - 1) c (by omega) s hc] at hp
  exact rf_Ydi n6 HY (o := rf_od n (2 ^ n - 1) c) ho (fun i hi => (rf_o1 n6 n _ c (by omega) s hc i hi).1) (fun k i hk hi => rf_o2 n6 n _ c (by omega) s hc k i hk hi) hp
theorem rf_Ybf (n6 : n ≤ 6) {ao : Nat → Int32} {c a b : Nat} (ha : a < n) (hb : b < n) (hab : a ≠ b) (hc : c < rf_fc n) (ho : ∀ i, i < n → ao i = nI (rf_od n (2 ^ n - 1) c i)) {post : Int32 → Prop} (h1 : rf_vl (fun d S => decide (d = b) && S.testBit a) n (2 ^ n - 1) c → post 1) (h0 : ¬ rf_vl (fun d S => decide (d = b) && S.testBit a) n (2 ^ n - 1) c → post 0) : wpY_before post (nI n, g, fo, aw, an, al, ao) (nI a) (nI b) := by
  have p := rf_p2 n (by omega)
  have s := rf_t10 n (by omega)
  obtain ⟨ka, kb, k1, k2, k3, k4, k5⟩ := rf_o7 n6 hab n (2 ^ n - 1) c (by omega) s hc ((rf_t11 n (by omega) a (by omega)).mpr ha) ((rf_t11 n (by omega) b (by omega)).mpr hb)
  have un : ∀ k i, k < n → i < n → rf_od n (2 ^ n - 1) c k = rf_od n (2 ^ n - 1) c i → k = i := by
    intro k i hk hi e
    apply Classical.byContradiction
    intro z
    by_cases l : i < k
    · exact rf_o2 n6 n _ c (by omega) s hc k i hk l e
    · exact rf_o2 n6 n _ c (by omega) s hc i k hi (by omega) e.symm
  have key : ∀ r k, k + r = n → wY_before_10 post (nI a) (nI b) (nI n) g fo aw an al ao (r + 1) (nI (if ka < k then ka else 6)) (nI (if kb < k then kb else 6)) (nI k) := by
    intro r
    induction r with
    | zero =>
      intro k hk
      have e : k = n := by omega
      subst e
      rw [if_pos k1, if_pos k2]
      refine br_t (Int32.le_refl _) (pk_le kb ka (fun l => h0 (fun v => ?_)) (fun l => h1 (k5.mpr l)))
      have := k5.mp v
      omega
    | succ r ih =>
      intro k hk
      have i := ih (k + 1) (by omega)
      have on := (rf_o1 n6 n _ c (by omega) s hc k (by omega)).1
      refine br_f (nI_ge (by omega) (by omega)) ⟨vp_in_nI (by omega) (by decide), ?_⟩
      rw [nI_clamp (by omega), ho k (by omega)]
      have tail : ∀ z0, z0 = (if ka < k + 1 then ka else 6) → wY_before_36 post (wY_before_10 post (nI a) (nI b) (nI n) g fo aw an al ao (r + 1)) (nI a) (nI b) (nI (if kb < k then kb else 6)) (nI k) (nI z0) (nI n) g fo aw an al ao := by
        intro z0 hz
        rw [← hz] at i
        refine ⟨vp_in_nI (by omega) (by decide), ?_⟩
        rw [nI_clamp (by omega), ho k (by omega)]
        refine pk_eq (rf_od n (2 ^ n - 1) c k) b (fun e => nm_r (nI_1 k) ?_) (fun e => nm_r (nI_1 k) ?_)
        · have e2 : k = kb := un k kb (by omega) k2 (e.trans k4.symm)
          rw [if_pos (by omega), ← e2] at i
          exact i
        · have e2 : k ≠ kb := fun z => e (by rw [z]; exact k4)
          have e3 : (if kb < k + 1 then kb else 6) = (if kb < k then kb else 6) := by
            by_cases l : kb < k
            · rw [if_pos l, if_pos (by omega)]
            · rw [if_neg l, if_neg (by omega)]
          rw [e3] at i
          exact i
      refine pk_eq (rf_od n (2 ^ n - 1) c k) a (fun e => tail k ?_) (fun e => tail _ ?_)
      · have e2 : k = ka := un k ka (by omega) k1 (e.trans k3.symm)
        rw [if_pos (by omega), e2]
      · have e2 : k ≠ ka := fun z => e (by rw [z]; exact k3)
        by_cases l : ka < k
        · rw [if_pos l, if_pos (by omega)]
        · rw [if_neg l, if_neg (by omega)]
  have e := key n 0 (by omega)
  rw [if_neg (by omega), if_neg (by omega)] at e
  exact ⟨n + 1, e⟩
theorem rf_dsb {P : Nat → Nat → Nat} (P45 : ∀ a b, P a b ≤ 45) : ∀ j S c, rf_ds P j S c ≤ 270 * j := by
  intro j
  induction j with
  | zero => intro S c; exact Nat.zero_le _
  | succ j ih =>
    intro S c
    have i := ih (rf_rm S (rf_nt S (c / rf_fc j))) (c % rf_fc j)
    have l := rf_ldb P45 (rf_nt S (c / rf_fc j)) (rf_rm S (rf_nt S (c / rf_fc j)))
    have s : rf_sz (rf_rm S (rf_nt S (c / rf_fc j))) ≤ 6 := by
      unfold rf_sz
      have h1 : ∀ N (S : Nat), rf_sm (fun _ => 1) S N ≤ N := by
        intro N
        induction N with
        | zero => intro S; exact Nat.le_refl _
        | succ N ih =>
          intro S
          have := ih S
          show rf_sm (fun _ => 1) S N + (if S.testBit N = true then 1 else 0) ≤ _
          split <;> omega
      exact h1 6 _
    show rf_ld P _ _ + rf_ds P j _ _ ≤ _
    omega
theorem rf_Yle (n6 : n ≤ 6) (HY : rf_PY n g (nI (rf_fc n)) aw an al P) (P45 : ∀ a b, P a b ≤ 45) {t : Nat} (tl : ∀ c, c < rf_fc n → t ≤ rf_ds P n (2 ^ n - 1) c) (te : ∃ c, c < rf_fc n ∧ rf_ds P n (2 ^ n - 1) c = t) {ao : Nat → Int32} {post : Int32 → SY → Prop} (hp : ∀ ao', post (nI t) (nI n, g, nI (rf_fc n), aw, an, al, ao')) : wpY_least post (nI n, g, nI (rf_fc n), aw, an, al, ao) := by
  have fb := rf_fcb n (by omega)
  have key : ∀ r c M (ao : Nat → Int32), c + r = rf_fc n → M ≤ 100000 → (∀ c', c' < c → M ≤ rf_ds P n (2 ^ n - 1) c') → (M = 100000 ∨ ∃ c', c' < c ∧ rf_ds P n (2 ^ n - 1) c' = M) → wY_least_5 post (r + 1) (nI M) (nI c) (nI n) g (nI (rf_fc n)) aw an al ao := by
    intro r
    induction r with
    | zero =>
      intro c M ao hc hM h1 h2
      have e : c = rf_fc n := by omega
      subst e
      obtain ⟨c1, c2, c3⟩ := te
      have a1 := h1 c1 c2
      have db := rf_dsb P45 n (2 ^ n - 1) c1
      have a2 : t ≤ M := by
        rcases h2 with h2 | ⟨c', h3, h4⟩
        · omega
        · have := tl c' h3
          omega
      have e : M = t := by omega
      rw [e]
      exact br_t (Int32.le_refl _) (hp ao)
    | succ r ih =>
      intro c M ao hc hM h1 h2
      refine br_f (nI_ge (by omega) (by omega)) (br_f (nI_ge (b := 720) (by omega) (by decide)) ?_)
      refine rf_Ysq n6 (by omega) (fun ao' ho => ?_)
      refine rf_Yod n6 HY (by omega) ho ?_
      have db := rf_dsb P45 n (2 ^ n - 1) c
      refine pk_le M (rf_ds P n (2 ^ n - 1) c) (fun l => nm_r (nI_1 c) (ih (c + 1) M ao' (by omega) hM (ax_lt1 h1 l) ?_)) (fun l => nm_r (nI_1 c) (ih (c + 1) _ ao' (by omega) (by omega) (ax_lt1 (fun c' hc' => ?_) (Nat.le_refl _)) ?_))
      · rcases h2 with h2 | ⟨c', h3, h4⟩
        · exact Or.inl h2
        · exact Or.inr ⟨c', by omega, h4⟩
      · have := h1 c' hc'
        omega
      · exact Or.inr ⟨c, by omega, rfl⟩
  exact ⟨rf_fc n + 1, key (rf_fc n) 0 100000 ao (by omega) (by omega) (fun c' hc' => absurd hc' (by omega)) (Or.inl rfl)⟩
theorem rf_Ylw (n6 : n ≤ 6) (HY : rf_PY n g (nI (rf_fc n)) aw an al P) (P45 : ∀ a b, P a b ≤ 45) {a b t : Nat} (ha : a < n) (hb : b < n) (hab : a ≠ b) (tl : ∀ c, c < rf_fc n → rf_vl (fun d S => decide (d = b) && S.testBit a) n (2 ^ n - 1) c → t ≤ rf_ds P n (2 ^ n - 1) c) (te : ∃ c, c < rf_fc n ∧ rf_vl (fun d S => decide (d = b) && S.testBit a) n (2 ^ n - 1) c ∧ rf_ds P n (2 ^ n - 1) c = t) {ao : Nat → Int32} {post : Int32 → SY → Prop} (hp : ∀ ao', post (nI t) (nI n, g, nI (rf_fc n), aw, an, al, ao')) : ∃ w : Nat, wY_leastWith_29 post (nI a) (nI b) w 100000 0 (nI n) g (nI (rf_fc n)) aw an al ao := by
  have fb := rf_fcb n (by omega)
  have key : ∀ r c M (ao : Nat → Int32), c + r = rf_fc n → M ≤ 100000 → (∀ c', c' < c → rf_vl (fun d S => decide (d = b) && S.testBit a) n (2 ^ n - 1) c' → M ≤ rf_ds P n (2 ^ n - 1) c') → (M = 100000 ∨ ∃ c', c' < c ∧ rf_vl (fun d S => decide (d = b) && S.testBit a) n (2 ^ n - 1) c' ∧ rf_ds P n (2 ^ n - 1) c' = M) → wY_leastWith_29 post (nI a) (nI b) (r + 1) (nI M) (nI c) (nI n) g (nI (rf_fc n)) aw an al ao := by
    intro r
    induction r with
    | zero =>
      intro c M ao hc hM h1 h2
      have e : c = rf_fc n := by omega
      subst e
      obtain ⟨c1, c2, c3, c4⟩ := te
      have a1 := h1 c1 c2 c3
      have db := rf_dsb P45 n (2 ^ n - 1) c1
      have a2 : t ≤ M := by
        rcases h2 with h2 | ⟨c', h3, h4, h5⟩
        · omega
        · have := tl c' h3 h4
          omega
      have e : M = t := by omega
      rw [e]
      exact br_t (Int32.le_refl _) (hp ao)
    | succ r ih =>
      intro c M ao hc hM h1 h2
      refine br_f (nI_ge (by omega) (by omega)) (br_f (nI_ge (b := 720) (by omega) (by decide)) ?_)
      have h2' : M = 100000 ∨ ∃ c', c' < c + 1 ∧ rf_vl (fun d S => decide (d = b) && S.testBit a) n (2 ^ n - 1) c' ∧ rf_ds P n (2 ^ n - 1) c' = M := by
        rcases h2 with h2 | ⟨c', h3, h4⟩
        · exact Or.inl h2
        · exact Or.inr ⟨c', by omega, h4⟩
      refine rf_Ysq n6 (by omega) (fun ao' ho => ?_)
      refine rf_Ybf n6 ha hb hab (by omega) ho (fun v => ?_) (fun v => ?_)
      · refine br_f (by decide) ?_
        refine rf_Yod n6 HY (by omega) ho ?_
        have db := rf_dsb P45 n (2 ^ n - 1) c
        refine pk_le M (rf_ds P n (2 ^ n - 1) c) (fun l => nm_r (nI_1 c) (ih (c + 1) M ao' (by omega) hM (ax_lt1 h1 (fun _ => l)) h2')) (fun l => nm_r (nI_1 c) (ih (c + 1) _ ao' (by omega) (by omega) (ax_lt1 (fun c' hc' v' => ?_) (fun _ => Nat.le_refl _)) ?_))
        · have := h1 c' hc' v'
          omega
        · exact Or.inr ⟨c, by omega, v, rfl⟩
      · exact br_t rfl (nm_r (nI_1 c) (ih (c + 1) M ao' (by omega) hM (ax_lt1 h1 (fun z => absurd z v)) h2'))
  exact ⟨rf_fc n + 1, key (rf_fc n) 0 100000 ao (by omega) (by omega) (fun c' hc' => absurd hc' (by omega)) (Or.inl rfl)⟩
theorem rf_Yba (n6 : n ≤ 6) (HY : rf_PY n g (nI (rf_fc n)) aw an al P) (P45 : ∀ a b, P a b ≤ 45) {t c0 K : Nat} (hK : K < n) (h0 : c0 < rf_fc n) (h1 : rf_ds P n (2 ^ n - 1) c0 = t) (h2 : ∀ c', c' < c0 → rf_ds P n (2 ^ n - 1) c' ≠ t) {ao : Nat → Int32} {post : Int32 → SY → Prop} (hp : ∀ ao', post (nI (rf_od n (2 ^ n - 1) c0 K)) (nI n, g, nI (rf_fc n), aw, an, al, ao')) : ∃ w : Nat, wY_bestAt_21 post (nI K) (nI t) w 0 (nI n) g (nI (rf_fc n)) aw an al ao := by
  have fb := rf_fcb n (by omega)
  have tb := rf_dsb P45 n (2 ^ n - 1) c0
  have key : ∀ r c (ao : Nat → Int32), c + r = rf_fc n → c ≤ c0 → wY_bestAt_21 post (nI K) (nI t) (r + 1) (nI c) (nI n) g (nI (rf_fc n)) aw an al ao := by
    intro r
    induction r with
    | zero => intro c ao hc hl; omega
    | succ r ih =>
      intro c ao hc hl
      refine br_f (nI_ge (by omega) (by omega)) (br_f (nI_ge (b := 720) (by omega) (by decide)) ?_)
      refine rf_Ysq n6 (by omega) (fun ao' ho => ?_)
      refine rf_Yod n6 HY (by omega) ho ?_
      have db := rf_dsb P45 n (2 ^ n - 1) c
      refine pk_eq (rf_ds P n (2 ^ n - 1) c) t (fun e => ⟨vp_in_nI (by omega) (by decide), ?_⟩) (fun e => nm_r (nI_1 c) (ih (c + 1) ao' (by omega) ?_))
      · have e2 : c = c0 := by
          apply Classical.byContradiction
          intro z
          exact h2 c (by omega) e
        rw [nI_clamp (by omega), ho K hK, e2]
        exact hp ao'
      · have e2 : c ≠ c0 := fun z => e (by rw [z]; exact h1)
        omega
  exact ⟨rf_fc n + 1, key (rf_fc n) 0 ao (by omega) (by omega)⟩
end
