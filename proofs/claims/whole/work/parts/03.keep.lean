def i_Rel (_ : Nat) (u : SX) (v : SY) : Prop :=
  ∃ (n m : Nat) (wt c : Nat → Nat) (q : Nat → Nat → Nat) (aw an ap al asd aps ao : Nat → Int32), u = (nI n, nI m, aw, an, ap, asd, aps) ∧ v = (nI n, nI m, nI (rf_fc n), aw, an, al, ao) ∧ rf_Q n m wt c q aw an ap al
theorem i_up {k : Nat} {u : SX} {v : SY} (h : i_Rel k u v) : i_Rel (k + 3) u v := h
theorem rf_mk (k : Nat) {n m : Nat} {wt c : Nat → Nat} {q : Nat → Nat → Nat} {aw an ap al : Nat → Int32} (Q : rf_Q n m wt c q aw an ap al) (asd aps ao : Nat → Int32) : i_Rel k (nI n, nI m, aw, an, ap, asd, aps) (nI n, nI m, nI (rf_fc n), aw, an, al, ao) :=
  ⟨n, m, wt, c, q, aw, an, ap, al, asd, aps, ao, rfl, rfl, Q⟩
theorem rf_Y0 {post : SY → Prop} {n : Nat} {a b c d : Nat → Int32} (hn : n ≤ 6) (hp : post (nI n, 0, nI (rf_fc n), a, b, c, d)) : ∀ r y, y + r = n → wY_init_66 post (nI n) 0 a b c d (r + 1) (nI (y + 1)) (nI (rf_fc y)) := by
  intro r
  induction r with
  | zero =>
    intro y hy
    have e : y = n := by omega
    subst e
    exact br_t (nI_lt (by omega) (by omega)) hp
  | succ r ih =>
    intro y hy
    refine br_f (nI_nlt (by omega) (by omega)) (nm_r (e' := nI (rf_fc (y + 1))) ?_ (nm_r (nI_1 (y + 1)) (ih (y + 1) (by omega))))
    rw [pk_mul]
    show nI _ = nI ((y + 1) * rf_fc y)
    rw [Nat.mul_comm]
theorem rf_i1 {n : Nat} (h2 : 2 ≤ n) (h6 : n ≤ 6) : ∃ n66 : Nat, wY_init_66 (fun v => i_Rel 1 (nI n, 0, (fun _ => 0), (fun _ => 0), (fun _ => 0), (fun _ => 0), (fun _ => 0)) v) (nI n) 0 (fun _ => 0) (fun _ => 0) (fun _ => 0) (fun _ => 0) n66 2 1 := by
  refine ⟨n - 1 + 1, rf_Y0 h6 ?_ (n - 1) 1 (by omega)⟩
  exact rf_mk 1 (n := n) (m := 0) (wt := fun _ => 0) (c := fun _ => 0) (q := fun _ _ => 0) ⟨h2, h6, by omega, fun k hk => absurd hk (by omega)⟩ _ _ _
theorem i_vc0 (k0 : Int32) : wpX_init (fun u => wpY_init (fun v => i_Rel 1 u v) k0) k0 := by
  by_cases h2 : 2 ≤ k0
  · by_cases h6 : k0 ≤ 6
    · have h0 : ¬ k0 < 0 := Int32.not_lt.mpr (Int32.le_trans (by decide) h2)
      obtain ⟨j, hj, rfl⟩ := nI_of2 (M := 6) (n := 6) (by decide) h0 h6
      have j2 : 2 ≤ j := (nI_leI (a := 2) (by decide) (by omega)).mp h2
      exact br_t h2 (br_t h6 (br_t h2 (br_t h6 (rf_i1 j2 hj))))
    · exact br_t h2 (br_f h6 (br_t h2 (br_f h6 (rf_i1 (n := 6) (by omega) (by omega)))))
  · exact br_f h2 (br_f h2 (rf_i1 (n := 2) (by omega) (by omega)))
theorem rf_Kc {k k' wt c : Nat} {q : Nat → Nat} {aw an ap al aw' an' ap' al' : Nat → Int32} (K : rf_K k wt c q aw an ap al) (h1 : aw' k' = aw k) (h2 : an' k' = an k) (h3 : ∀ d, d < 6 → ap' (6 * k' + d) = ap (6 * k + d)) (h4 : ∀ d, d < 6 → al' (6 * k' + d) = al (6 * k + d)) : rf_K k' wt c q aw' an' ap' al' := by
  obtain ⟨w1, w2, n1, n2, d1, p1⟩ := K
  refine ⟨h1.trans w1, w2, h2.trans n1, n2, fun d hd => ?_, p1⟩
  obtain ⟨a1, a2, a3⟩ := d1 d hd
  have := rf_ct6 q
  exact ⟨(h3 d hd).trans a1, a2, fun p hp => (h4 p (by omega)).trans (a3 p hp)⟩
theorem rf_Xb {post : Int32 → SX → Prop} {k n m : Nat} (hk : k < 5) {aw an asd aps : Nat → Int32} : ∀ r d (ap : Nat → Int32), d + r = 6 → (∀ e, e < d → ap (6 * k + e) = 0) → (∀ ap' : Nat → Int32, (∀ e, e < 6 → ap' (6 * k + e) = 0) → (∀ j, j < 6 * k → ap' j = ap j) → post (nI k) (nI n, nI (m + 1), aw, an, ap', asd, aps)) → wX_begin_45 post (nI k) (nI n) (nI m) (r + 1) (nI d) aw an ap asd aps := by
  intro r
  induction r with
  | zero =>
    intro d ap hd h0 hp
    have e : d = 6 := by omega
    subst e
    exact br_t (Int32.le_refl _) (nm_r (nI_1 m) (hp ap h0 (fun _ _ => rfl)))
  | succ r ih =>
    intro d ap hd h0 hp
    refine br_f (nI_ge (b := 6) (by omega) (by decide)) ?_
    show vp_in (nI k * 6 + nI d) 30 ∧ _
    rw [rf_ix]
    refine ⟨vp_in_nI (by omega) (by omega), nm_e (nm_r (nI_1 d) (ih (d + 1) _ (by omega) ?_ ?_))⟩
    · rw [nI_clamp (by omega)]
      refine ax_lt1 (fun e he => ?_) pk_us
      rw [pk_un (by omega)]
      exact h0 e he
    · intro ap' h1 h2
      refine hp ap' h1 (fun j hj => ?_)
      rw [h2 j hj, nI_clamp (by omega), pk_un (by omega)]
theorem i_vc_begin {k : Nat} {u : SX} {v : SY} (I : i_Rel k u v) (hk : k + 3 ≤ 1537) (v1 : Int32) : wpX_begin (fun r u' => wpY_begin (fun r' v' => r' = r ∧ i_Rel (k + 3) u' v') v v1) u v1 := by
  obtain ⟨n, m, wt, c, q, aw, an, ap, al, asd, aps, ao, rfl, rfl, Q⟩ := I
  by_cases h1 : v1 < 1
  · exact br_t h1 (br_t h1 ⟨rfl, rf_mk _ Q _ _ _⟩)
  by_cases h9 : v1 ≤ 9
  · have h0 : ¬ v1 < 0 := Int32.not_lt.mpr (Int32.le_trans (by decide) (Int32.not_lt.mp h1))
    obtain ⟨w, hw, rfl⟩ := nI_of2 (M := 9) (n := 9) (by decide) h0 h9
    obtain ⟨n2, n6, m5, hK⟩ := Q
    by_cases hm : m < 5
    · have hlt : nI m < 5 := nI_lt (b := 5) hm (by decide)
      have hv : vp_in (nI m) 5 := vp_in_nI hm (by decide)
      refine br_f h1 (br_t h9 (br_t hlt ⟨hv, nm_e ⟨hv, nm_e ⟨7, ?_⟩⟩⟩))
      refine rf_Xb hm 6 0 ap (by omega) (fun e he => absurd he (by omega)) (fun ap' e1 e2 => ?_)
      refine br_f h1 (br_t h9 (br_t hlt ⟨hv, nm_e ⟨hv, nm_e (nm_r (nI_1 m) ⟨?_, ?_⟩)⟩⟩))
      · rw [nI_pred]
      · refine rf_mk _ (n := n) (m := m + 1) (wt := fun j => if j = m then w else wt j) (c := fun j => if j = m then 0 else c j) (q := fun j => if j = m then (fun _ => 0) else q j) ⟨n2, n6, by omega, ?_⟩ _ _ _
        rw [nI_clamp (by omega)]
        intro j hj
        by_cases e : j = m
        · subst e
          dsimp only
          rw [if_pos rfl, if_pos rfl, if_pos rfl]
          exact ⟨pk_us, hw, pk_us, rfl, fun d hd => ⟨e1 d hd, Nat.le_refl 0, fun p hp => absurd (show 0 = p + 1 from hp) (by omega)⟩, fun p hp => absurd hp (by omega)⟩
        · dsimp only
          rw [if_neg e, if_neg e, if_neg e]
          exact rf_Kc (hK j (by omega)) (pk_un e) (pk_un e) (fun d hd => e2 _ (by omega)) (fun _ _ => rfl)
    · have hlt : ¬ nI m < 5 := nI_nlt (b := 5) (by omega) (by omega)
      exact br_f h1 (br_t h9 (br_f hlt (br_f h1 (br_t h9 (br_f hlt ⟨rfl, rf_mk _ ⟨n2, n6, m5, hK⟩ _ _ _⟩)))))
  · exact br_f h1 (br_f h9 (br_f h1 (br_f h9 ⟨rfl, rf_mk _ Q _ _ _⟩)))
theorem rf_ctu {q : Nat → Nat} {d v : Nat} (hd : d < 6) (h0 : q d = 0) (hv : v ≠ 0) : rf_ct (fun e => if e = d then v else q e) = rf_ct q + 1 := by
  have hz : rf_nz 0 = 0 := rfl
  have h1 : rf_nz v = 1 := if_neg hv
  have hd : d = 0 ∨ d = 1 ∨ d = 2 ∨ d = 3 ∨ d = 4 ∨ d = 5 := by omega
  unfold rf_ct
  rcases hd with rfl | rfl | rfl | rfl | rfl | rfl <;> simp [h0, hz, h1] <;> omega
theorem rf_Kn {k wt c d : Nat} {q : Nat → Nat} {aw an ap al : Nat → Int32} (K : rf_K k wt c q aw an ap al) (hd : d < 6) (h0 : q d = 0) : c < 6 ∧ rf_K k wt (c + 1) (fun e => if e = d then c + 1 else q e) aw (upd an k (nI (c + 1))) (upd ap (6 * k + d) (nI (c + 1))) (upd al (6 * k + c) (nI d)) := by
  obtain ⟨w1, w2, n1, n2, d1, p1⟩ := K
  have hc := rf_ctu (v := c + 1) hd h0 (by omega)
  have h6 := rf_ct6 (fun e => if e = d then c + 1 else q e)
  have c6 : c < 6 := by omega
  refine ⟨c6, w1, w2, pk_us, by omega, fun e he => ?_, fun p hp => ?_⟩
  · dsimp only
    by_cases z : e = d
    · subst z
      rw [if_pos rfl]
      refine ⟨pk_us, by omega, fun p hp => ?_⟩
      have z2 : p = c := by omega
      rw [z2]
      exact pk_us
    · rw [if_neg z]
      obtain ⟨a1, a2, a3⟩ := d1 e he
      refine ⟨(pk_un (by omega)).trans a1, by omega, fun p hp => ?_⟩
      rw [pk_un (by omega)]
      exact a3 p hp
  · by_cases z : p = c
    · exact ⟨d, hd, by dsimp only; rw [if_pos rfl, z]⟩
    · obtain ⟨e, he, hq⟩ := p1 p (by omega)
      refine ⟨e, he, ?_⟩
      dsimp only
      rw [if_neg (fun y => by rw [y, h0] at hq; omega)]
      exact hq
theorem rf_bad {x : Int32} {m : Nat} {A : Prop} {B : Prop} (h : x < 0 ∨ nI m ≤ x) (a : A) : (x < 0 → A) ∧ (¬ x < 0 → ((nI m ≤ x → A) ∧ (¬ nI m ≤ x → B))) := by
  by_cases z : x < 0
  · exact br_t z a
  · rcases h with h | h
    · exact absurd h z
    · exact br_f z (br_t h a)
theorem rf_ok {m j : Nat} (hm : m ≤ 6) (hj : j < m) {A B C : Prop} (b : B) : (nI j < 0 → A) ∧ (¬ nI j < 0 → ((nI m ≤ nI j → C) ∧ (¬ nI m ≤ nI j → B))) :=
  br_f (nI_pos (by omega)) (br_f (nI_ge hj (by omega)) b)
theorem rf_ix2 (x : Int32) {n : Nat} (hn : n ≤ 6) : (x < 0 ∨ nI n ≤ x) ∨ ∃ j : Nat, j < n ∧ x = nI j := by
  rcases pk_ix x (n := n) (by omega) with h | h | h
  · exact Or.inl (Or.inl h)
  · exact Or.inl (Or.inr h)
  · exact Or.inr h
theorem i_vc_name {k : Nat} {u : SX} {v : SY} (I : i_Rel k u v) (hk : k + 3 ≤ 1537) (v1 : Int32) (v2 : Int32) : wpX_name (fun r u' => wpY_name (fun r' v' => r' = r ∧ i_Rel (k + 3) u' v') v v1 v2) u v1 v2 := by
  obtain ⟨n, m, wt, c, q, aw, an, ap, al, asd, aps, ao, rfl, rfl, Q⟩ := I
  have Q' := Q
  obtain ⟨n2, n6, m5, hK⟩ := Q'
  rcases rf_ix2 v1 (n := m) (by omega) with h1 | ⟨i, hi, rfl⟩
  · exact rf_bad h1 (br_t rfl (rf_bad h1 ⟨rfl, rf_mk _ Q _ _ _⟩))
  refine rf_ok (by omega) hi (br_f (by decide) ?_)
  rcases rf_ix2 v2 (n := n) (by omega) with h2 | ⟨d, hd, rfl⟩
  · exact rf_bad h2 (br_t rfl (rf_ok (by omega) hi (rf_bad h2 (br_t rfl ⟨rfl, rf_mk _ Q _ _ _⟩))))
  refine rf_ok n6 hd (br_f (by decide) ?_)
  have K := hK i hi
  have Kd := K.2.2.2.2.1 d (by omega)
  have Kc := K.2.2.2.1
  have c6 := rf_ct6 (q i)
  show vp_in (nI i * 6 + nI d) 30 ∧ _
  rw [rf_ix, nI_clamp (by omega), nI_clamp (by omega)]
  have hv : vp_in (nI i) 5 := vp_in_nI (by omega) (by decide)
  have h30 : vp_in (nI (6 * i + d)) 30 := vp_in_nI (by omega) (by decide)
  refine ⟨h30, ?_⟩
  rw [Kd.1]
  refine pk_eq (q i d) 0 (fun h0 => ?_) (fun h0 => ?_)
  · refine ⟨hv, hv, nm_e ⟨hv, h30, nm_e ?_⟩⟩
    obtain ⟨c7, K2⟩ := rf_Kn K (by omega) h0
    refine rf_ok (by omega) hi (rf_ok n6 hd (br_f (by decide) (rf_Yl K (by omega) (by omega) ?_)))
    rw [if_pos h0]
    refine br_f (by decide) ⟨hv, ?_⟩
    rw [nI_clamp (by omega), K.2.2.1, rf_iy, nI_clamp (by omega)]
    refine br_t (nI_lt (b := 6) c7 (by decide)) ⟨hv, vp_in_nI (by omega) (by decide), nm_e ⟨hv, hv, nm_e ⟨rfl, ?_⟩⟩⟩
    rw [nI_1, pk_us]
    refine rf_mk _ (n := n) (m := m) (wt := wt) (c := fun j => if j = i then c i + 1 else c j) (q := fun j => if j = i then (fun e => if e = d then c i + 1 else q i e) else q j) ⟨n2, n6, m5, ?_⟩ _ _ _
    intro j hj
    by_cases e : j = i
    · subst e
      dsimp only
      rw [if_pos rfl, if_pos rfl]
      exact K2
    · dsimp only
      rw [if_neg e, if_neg e]
      exact rf_Kc (hK j hj) rfl (pk_un e) (fun d' hd' => pk_un (by omega)) (fun d' hd' => pk_un (by omega))
  · refine rf_ok (by omega) hi (rf_ok n6 hd (br_f (by decide) (rf_Yl K (by omega) (by omega) ?_)))
    rw [if_neg h0]
    exact br_t (nI_lt (b := 6) (by omega) (by decide)) ⟨rfl, rf_mk _ Q _ _ _⟩
theorem i_vc_rankings {k : Nat} {u : SX} {v : SY} (I : i_Rel k u v) (hk : k + 3 ≤ 1537) : wpX_rankings (fun r => wpY_rankings (fun r' => r' = r ∧ i_Rel (k + 3) u v) v) u := by
  obtain ⟨n, m, wt, c, q, aw, an, ap, al, asd, aps, ao, rfl, rfl, Q⟩ := I
  exact ⟨rfl, rf_mk _ Q _ _ _⟩
