theorem rf_mnc {P : Nat → Nat → Nat} {T : Nat → Nat → Bool} {t t' : Nat → Nat} {S : Nat} (hS : S < 64) (h : ∀ R, R < S → t R = t' R) : ∀ x, x ≤ 6 → rf_mn P T t S x = rf_mn P T t' S x := by
  intro x
  induction x with
  | zero => intro _; rfl
  | succ x ih =>
    intro hx
    have i := ih (by omega)
    unfold rf_mn
    by_cases e : S.testBit x = true ∧ T x S = false
    · rw [if_pos e, if_pos e, i, h _ (rf_t4 S hS x (by omega) e.1).2]
    · rw [if_neg e, if_neg e, i]
section
variable {n : Nat} {g fo : Int32} {aw an ap al : Nat → Int32} {P : Nat → Nat → Nat}
theorem rf_Xdl (n6 : n ≤ 6) (HX : rf_PX n g aw an ap P) {asd aps : Nat → Int32} {S d v : Nat} (hS : S < 2 ^ n) (hd : d < n) (e : asd (rf_rm S d) = nI v) {post : Int32 → Prop} (hp : post (nI (v + rf_ld P d (rf_rm S d)))) : wpX_distanceLedBy post (nI n, g, aw, an, ap, asd, aps) (nI d) (nI S) := by
  have p := (rf_p2 n (by omega)).1
  have t6 := rf_t6 S (by omega) d (by omega)
  have h6 : rf_sm (fun x => P x d) (rf_rm S d) n = rf_ld P d (rf_rm S d) := rf_sm6 _ (by omega) n6
  rw [← h6] at hp
  have key : ∀ r x, x + r = n → wX_distanceLedBy_17 post (nI d) (nI (rf_rm S d)) (nI n) g aw an ap asd aps (r + 1) (nI (v + rf_sm (fun x => P x d) (rf_rm S d) x)) (nI x) := by
    intro r
    induction r with
    | zero =>
      intro x hx
      have e : x = n := by omega
      subst e
      exact br_t (Int32.le_refl _) hp
    | succ r ih =>
      intro x hx
      refine br_f (nI_ge (by omega) (by omega)) ?_
      have i := ih (x + 1) (by omega)
      have e2 : rf_sm (fun x => P x d) (rf_rm S d) (x + 1) = rf_sm (fun x => P x d) (rf_rm S d) x + (if (rf_rm S d).testBit x = true then P x d else 0) := rfl
      rw [e2] at i
      refine rf_Xh t6.1 (by omega) (fun z => ?_) (fun z => ?_)
      · refine br_f (by decide) ?_
        refine HX _ _ _ _ _ (by omega) hd ?_
        rw [if_pos z] at i
        refine nm_r ?_ (nm_r (nI_1 x) i)
        rw [nI_add, Nat.add_assoc]
      · rw [if_neg z, Nat.add_zero] at i
        exact br_t rfl (nm_r (nI_1 x) i)
  unfold wpX_distanceLedBy wpX_without
  dsimp only
  rw [rf_wo S (by omega) d (by omega), nI_clamp (by omega), e]
  exact ⟨vp_in_nI t6.1 (by decide), nm_e ⟨n + 1, key n 0 (by omega)⟩⟩
theorem rf_Xfs (n6 : n ≤ 6) (HX : rf_PX n g aw an ap P) (P45 : ∀ a b, P a b ≤ 45) {T : Nat → Nat → Bool} {x1 x2 : Int32} (hT : ∀ d S, d < n → S < 64 → (T d S = true ↔ (nI d = x2 ∧ ((nI S >>> (x1 &&& 31)) &&& 1) = 1))) {asd0 aps : Nat → Int32} {post : SX → Prop} (hp : ∀ asd' t, (∀ S, S < 2 ^ n → asd' S = nI (t S)) → rf_tb P n T t → post (nI n, g, aw, an, ap, asd', aps)) : wpX_fillSetDistances post (nI n, g, aw, an, ap, asd0, aps) x1 x2 := by
  have p := rf_p2 n (by omega)
  have key : ∀ r S (asd : Nat → Int32) (t : Nat → Nat), S + r = 2 ^ n → 1 ≤ S → t 0 = 0 → (∀ R, 1 ≤ R → R < S → t R = rf_mn P T t R n) → (∀ R, R < S → asd R = nI (t R)) → wX_fillSetDistances_15 post x1 x2 (nI (2 ^ n - 1)) (nI n) g (r + 1) (nI S) aw an ap asd aps := by
    intro r
    induction r with
    | zero =>
      intro S asd t hr S1 t0 tR aR
      have e : S = 2 ^ n := by omega
      subst e
      exact br_t (nI_lt (by omega) (by omega)) (hp asd t aR ⟨t0, tR⟩)
    | succ r ih =>
      intro S asd t hr S1 t0 tR aR
      refine br_f (nI_nlt (by omega) (by omega)) ?_
      have tb1 : ∀ R, R < S → t R ≤ 1000 := by
        intro R hR
        by_cases z : R = 0
        · rw [z, t0]; omega
        · rw [tR R (by omega) hR]
          exact (rf_mnex n).1
      have key2 : ∀ w d, d + w = n → wX_fillSetDistances_29 post (wX_fillSetDistances_15 post x1 x2 (nI (2 ^ n - 1)) (nI n) g (r + 1)) x1 x2 (nI (2 ^ n - 1)) (nI S) (nI n) g aw an ap asd aps (w + 1) (nI (rf_mn P T t S d)) (nI d) := by
        intro w
        induction w with
        | zero =>
          intro d hd
          have e : d = n := by omega
          subst e
          refine br_t (Int32.le_refl _) ⟨vp_in_nI (by omega) (by decide), nm_e (nm_r (nI_1 S) ?_)⟩
          rw [nI_clamp (by omega)]
          have hlt : ∀ R, R < S → t R = (fun R => if R = S then rf_mn P T t S d else t R) R := by
            intro R hR
            dsimp only
            rw [if_neg (by omega)]
          refine ih (S + 1) _ (fun R => if R = S then rf_mn P T t S d else t R) (by omega) (by omega) ?_ ?_ ?_
          · rw [if_neg (by omega)]
            exact t0
          · intro R R1 hR
            by_cases z : R = S
            · subst z
              rw [← rf_mnc (by omega) hlt d n6]
              rw [if_pos rfl]
            · rw [← rf_mnc (by omega) (fun Q hQ => hlt Q (by omega)) d n6]
              rw [if_neg z]
              exact tR R R1 (by omega)
          · intro R hR
            by_cases z : R = S
            · subst z
              rw [pk_us]
              rw [if_pos rfl]
            · rw [pk_un z]
              rw [if_neg z]
              exact aR R (by omega)
        | succ w ih2 =>
          intro d hd
          refine br_f (nI_ge (by omega) (by omega)) ?_
          have i := ih2 (d + 1) (by omega)
          have e2 : rf_mn P T t S (d + 1) = if S.testBit d = true ∧ T d S = false then min (rf_mn P T t S d) (t (rf_rm S d) + rf_ld P d (rf_rm S d)) else rf_mn P T t S d := rfl
          rw [e2] at i
          have m1 := (rf_mnex (P := P) (T := T) (t := t) (S := S) d).1
          have tail : ∀ z0 : Int32, (T d S = true → z0 = 1) → (T d S = false → z0 = 0) → wX_fillSetDistances_58 post (wX_fillSetDistances_15 post x1 x2 (nI (2 ^ n - 1)) (nI n) g (r + 1)) (wX_fillSetDistances_29 post (wX_fillSetDistances_15 post x1 x2 (nI (2 ^ n - 1)) (nI n) g (r + 1)) x1 x2 (nI (2 ^ n - 1)) (nI S) (nI n) g aw an ap asd aps (w + 1)) x1 x2 (nI (2 ^ n - 1)) (nI S) (nI (rf_mn P T t S d)) (nI d) z0 (nI n) g aw an ap asd aps := by
            intro z0 hz1 hz0
            refine rf_Xh (by omega) (by omega) (fun z => ?_) (fun z => ?_)
            · refine br_f (by decide) ?_
              cases hh : T d S
              · refine br_t (hz0 hh) ?_
                have t4 := rf_t4 S (by omega) d (by omega) z
                have t9 := rf_t9 (rf_rm S d) (by omega)
                have lb := rf_ldb P45 d (rf_rm S d)
                have tl := tb1 _ t4.2
                rw [if_pos ⟨z, hh⟩] at i
                refine rf_Xdl n6 HX (by omega) (by omega) (aR _ t4.2) ?_
                refine pk_le (rf_mn P T t S d) (t (rf_rm S d) + rf_ld P d (rf_rm S d)) (fun l => nm_r (nI_1 d) ?_) (fun l => nm_r (nI_1 d) ?_)
                · rw [Nat.min_eq_left l] at i
                  exact i
                · rw [Nat.min_eq_right (by omega)] at i
                  exact i
              · rw [if_neg (fun y => by rw [hh] at y; exact absurd y.2 (by decide))] at i
                refine br_f (by rw [hz1 hh]; decide) (nm_r (nI_1 d) i)
            · rw [if_neg (fun y => z y.1)] at i
              exact br_t rfl (nm_r (nI_1 d) i)
          have hTd := hT d S (by omega) (by omega)
          refine br_c (fun y => br_c (fun x => br_f (by decide) (tail 1 (fun _ => rfl) (fun q => ?_))) (fun x => br_t rfl (tail 0 (fun q => ?_) (fun _ => rfl)))) (fun y => tail 0 (fun q => ?_) (fun _ => rfl))
          · rw [hTd.mpr ⟨y, x⟩] at q
            exact absurd q (by decide)
          · exact absurd (hTd.mp q).2 x
          · exact absurd (hTd.mp q).1 y
      exact ⟨n + 1, key2 n 0 (by omega)⟩
  unfold wpX_fillSetDistances wpX_allDocuments
  dsimp only
  rw [rf_all n (by omega)]
  refine nm_e ⟨2 ^ n - 1 + 1, key (2 ^ n - 1) 1 _ (fun _ => 0) (by omega) (by omega) rfl (fun R h1 h2 => absurd h1 (by omega)) (fun R hR => ?_)⟩
  have e : R = 0 := by omega
  rw [e, pk_us]
  rfl
theorem rf_Xbl (n6 : n ≤ 6) (HX : rf_PX n g aw an ap P) (P45 : ∀ a b, P a b ≤ 45) {asd aps : Nat → Int32} {t : Nat → Nat} (aT : ∀ S, S < 2 ^ n → asd S = nI (t S)) (tb1 : ∀ S, S < 2 ^ n → t S ≤ 1000) {S d : Nat} (hS : S < 2 ^ n) (hd : S.testBit d = true) (h1 : t (rf_rm S d) + rf_ld P d (rf_rm S d) = t S) (h2 : ∀ d', d' < d → S.testBit d' = true → t (rf_rm S d') + rf_ld P d' (rf_rm S d') ≠ t S) {post : Int32 → Prop} (hp : post (nI d)) : wpX_bestLeader post (nI n, g, aw, an, ap, asd, aps) (nI S) := by
  have p := (rf_p2 n (by omega)).1
  have dn := rf_bl hS hd
  have key : ∀ r x, x + r = n → x ≤ d → wX_bestLeader_2 post (nI S) (nI n) g aw an ap asd aps (r + 1) (nI x) := by
    intro r
    induction r with
    | zero => intro x hx hxd; omega
    | succ r ih =>
      intro x hx hxd
      refine br_f (nI_ge (by omega) (by omega)) ?_
      refine rf_Xh (by omega) (by omega) (fun z => ?_) (fun z => ?_)
      · refine br_f (by decide) ?_
        have t4 := rf_t4 S (by omega) x (by omega) z
        have t9 := rf_t9 (rf_rm S x) (by omega)
        have lb := rf_ldb P45 x (rf_rm S x)
        have b1 := tb1 (rf_rm S x) (by omega)
        have b2 := tb1 S hS
        refine rf_Xdl n6 HX hS (by omega) (aT _ (by omega)) ?_
        refine ⟨vp_in_nI (by omega) (by decide), ?_⟩
        rw [nI_clamp (by omega), aT S hS]
        refine pk_eq (t (rf_rm S x) + rf_ld P x (rf_rm S x)) (t S) (fun y => ?_) (fun y => ?_)
        · have e : x = d := by
            apply Classical.byContradiction
            intro w
            exact h2 x (by omega) z y
          rw [e]
          exact hp
        · have e : x ≠ d := fun w => y (by rw [w]; exact h1)
          exact nm_r (nI_1 x) (ih (x + 1) (by omega) (by omega))
      · have e : x ≠ d := fun w => z (by rw [w]; exact hd)
        exact br_t rfl (nm_r (nI_1 x) (ih (x + 1) (by omega) (by omega)))
  exact ⟨n + 1, key n 0 (by omega) (by omega)⟩
theorem rf_Xba (n6 : n ≤ 6) (HX : rf_PX n g aw an ap P) (P45 : ∀ a b, P a b ≤ 45) {asd aps : Nat → Int32} {t : Nat → Nat} (tb : rf_tb P n (fun _ _ => false) t) (hE : ∀ S, 1 ≤ S → S < 2 ^ n → ∃ d, d < n ∧ S.testBit d = true ∧ false = false) (aT : ∀ S, S < 2 ^ n → asd S = nI (t S)) (tb1 : ∀ S, S < 2 ^ n → t S ≤ 1000) {K : Nat} (hK : K < n) {post : Int32 → SX → Prop} : ∀ r q S j c, q + r = K → S < 2 ^ n → rf_sz S = j + 1 → rf_fs P t (j + 1) S c → r ≤ j → post (nI (rf_od (j + 1) S c r)) (nI n, g, aw, an, ap, asd, aps) → wX_bestAt_30 post (nI K) (nI n) g aw an ap asd aps (r + 1) (nI S) (nI (rf_nt S (c / rf_fc j))) (nI q) := by
  have p := (rf_p2 n (by omega)).1
  intro r
  induction r with
  | zero =>
    intro q S j c hq hS hj hf hr hp
    rw [rf_oz] at hp
    exact br_t (nI_le (by omega) (by omega)) hp
  | succ r ih =>
    intro q S j c hq hS hj hf hr hp
    obtain ⟨x1, x2, x3, x4, x5, x6⟩ := rf_st n6 hS hj hf.1
    have B := (rf_B n6 P45 tb hE hS hj hf).2
    rw [rf_os] at hp
    obtain ⟨j, rfl⟩ : ∃ j', j = j' + 1 := ⟨j - 1, by omega⟩
    refine br_f (nI_ge (by omega) (by omega)) ?_
    unfold wpX_without
    dsimp only
    rw [rf_wo S (by omega) _ (by omega)]
    obtain ⟨y1, y2, y3, y4, y5, y6⟩ := rf_st n6 x5 x6 B.1
    have B2 := (rf_B n6 P45 tb hE x5 x6 B).1
    refine rf_Xbl n6 HX P45 aT tb1 x5 y4 B2.1 B2.2 ?_
    exact nm_r (nI_1 q) (ih (q + 1) _ j _ (by omega) x5 x6 B (by omega) hp)
end
