/-! X: the small private methods, the support, the bans, the stable sets -/
theorem sx_isSet {post : Int32 → Prop} (x : Int32) (h : post (sm_b (sm_S 64 x))) : wpX_isSet post x := by
  by_cases hs : sm_S 64 x
  · have h1 := sm_yes hs h
    obtain ⟨j, hj, rfl⟩ := hs
    exact br_f (nI_pos (by omega)) (br_f (nI_ge (b := 64) hj (by decide)) h1)
  · have h0 := sm_no hs h
    rcases sm_S_not (by decide) hs with z | ⟨z, y⟩
    · exact br_t z h0
    · exact br_f z (br_t y h0)
theorem sx_isAtom {post : Int32 → Prop} (x : Int32) (h : post (sm_b (sm_S 6 x))) : wpX_isAtom post x := by
  by_cases hs : sm_S 6 x
  · have h1 := sm_yes hs h
    obtain ⟨j, hj, rfl⟩ := hs
    exact br_f (nI_pos (by omega)) (br_f (nI_ge (b := 6) hj (by decide)) h1)
  · have h0 := sm_no hs h
    rcases sm_S_not (by decide) hs with z | ⟨z, y⟩
    · exact br_t z h0
    · exact br_f z (br_t y h0)
theorem sm_S3 (x : Int32) : sm_S 3 x ↔ x = 0 ∨ x = 1 ∨ x = 2 := by
  constructor
  · rintro ⟨j, hj, rfl⟩
    have e : j = 0 ∨ j = 1 ∨ j = 2 := by omega
    rcases e with rfl | rfl | rfl
    · exact Or.inl rfl
    · exact Or.inr (Or.inl rfl)
    · exact Or.inr (Or.inr rfl)
  · rintro (rfl | rfl | rfl)
    · exact ⟨0, by omega, rfl⟩
    · exact ⟨1, by omega, rfl⟩
    · exact ⟨2, by omega, rfl⟩
theorem sx_isKind {post : Int32 → Prop} (x : Int32) (h : post (sm_b (sm_S 3 x))) : wpX_isKind post x :=
  br_c (fun e => sm_yes ((sm_S3 x).mpr (Or.inl e)) h) fun e0 =>
    br_c (fun e => sm_yes ((sm_S3 x).mpr (Or.inr (Or.inl e))) h) fun e1 =>
      br_c (fun e => sm_yes ((sm_S3 x).mpr (Or.inr (Or.inr e))) h) fun e2 =>
        sm_no (fun z => by rcases (sm_S3 x).mp z with y | y | y; exact e0 y; exact e1 y; exact e2 y) h
theorem sx_isIn {post : Int32 → Prop} (x : Int32) (n : Nat) (hn : n < 32) (h : post (sm_b (bt x n = true))) : wpX_isIn post x (nI n) :=
  sm_e (sm_in1 x n hn) (fun z => sm_yes z h) (fun z => sm_no z h)
theorem sx_isRule {post : Int32 → Prop} (p : Int32) (K H P N : Nat → Int32) (x : Int32) (h1 : ∀ r, r < 10 → x = nI r → bt p r = true → post 1) (h0 : (∀ r, r < 10 → x = nI r → ¬ bt p r = true) → post 0) : wpX_isRule post (p, K, H, P, N) x := by
  unfold wpX_isRule
  dsimp only
  by_cases hs : sm_S 10 x
  · obtain ⟨j, hj, rfl⟩ := hs
    refine br_f (nI_pos (by omega)) (br_f (nI_ge (b := 10) hj (by decide)) (sx_isIn p j (by omega) (sm_br (fun z => h1 j hj rfl z) (fun z => h0 ?_))))
    intro r hr e
    rw [nI_eq (by omega) (by omega)] at e
    rw [← e]
    exact z
  · have h00 := h0 (fun r hr e => absurd ⟨r, hr, e⟩ hs)
    rcases sm_S_not (by decide) hs with z | ⟨z, y⟩
    · exact br_t z h00
    · exact br_f z (br_t y h00)
theorem sx_fits {post : Int32 → Prop} (a b m : Int32) (h : post (sm_b ((a &&& (m ^^^ (-1))) = 0 ∧ (b &&& m) = 0))) : wpX_fits post a b m :=
  br_c (fun e => br_c (fun e2 => sm_yes ⟨e, e2⟩ h) (fun e2 => sm_no (fun z => e2 z.2) h)) (fun e => sm_no (fun z => e z.1) h)
theorem sx_leastFree {post : Int32 → Prop} (p : Int32) (K H P N : Nat → Int32) (r : Nat) (hr : r ≤ 10) (ht : ∀ j, j < r → bt p j = true) (hf : r < 10 → bt p r = false) (h : post (nI r)) : ∀ d i, i + d = r → wX_leastFree_2 post p K H P N (d + 1) (nI i) := by
  intro d
  induction d with
  | zero =>
    intro i hi
    have e : i = r := by omega
    subst e
    rcases Nat.lt_or_ge i 10 with z | z
    · exact br_f (nI_ge (b := 10) z (by decide)) (sx_isIn p i (by omega) (sm_br (fun t => absurd (t.symm.trans (hf z)) (by decide)) (fun _ => h)))
    · exact br_t (nI_le (a := 10) z (by omega)) h
  | succ d ih =>
    intro i hi
    refine br_f (nI_ge (b := 10) (by omega) (by decide)) (sx_isIn p i (by omega) (sm_br (fun t => fun y ey => ?_) (fun t => absurd (ht i (by omega)) t)))
    subst ey
    rw [nI_1]
    exact ih (i + 1) (by omega)
theorem sx_takesPart {post : Int32 → Prop} (p : Int32) (K H P N : Nat → Int32) (q m : Int32) (r : Nat) (hr : r < 10) (h : post (sm_b (sm_tk (bt q) K H N m r))) : wpX_takesPart post (p, K, H, P, N) q (nI r) m := by
  have hc : (nI r).toNatClampNeg = r := nI_clamp (by omega)
  have hi : vp_in (nI r) 10 := vp_in_nI hr (by decide)
  unfold wpX_takesPart
  dsimp only
  rw [hc]
  refine sm_e (sm_at q r (by omega)) (fun z => sm_no (fun t => Bool.noConfusion (t.1.symm.trans z)) h) (fun z => ⟨hi, br_c (fun hn => ⟨hi, br_c (fun h0 => sm_yes ⟨sm_nf z, hn, Or.inl h0⟩ h) (fun h0 => ⟨hi, br_c (fun h1 => ⟨hi, br_c (fun hh => sm_no (fun t => ?_) h) (fun hh => sm_yes ⟨sm_nf z, hn, Or.inr ⟨h1, hh⟩⟩ h)⟩) (fun h1 => sm_no (fun t => ?_) h)⟩)⟩) (fun hn => sm_no (fun t => hn t.2.1) h)⟩)
  · rcases t.2.2 with y | y
    · exact h0 y
    · exact y.2 hh
  · rcases t.2.2 with y | y
    · exact h0 y
    · exact h1 y.1
theorem sx_sup_in {post : Int32 → Prop} (J : Int32 → Int32 → Prop) (p : Int32) (K H P N : Nat → Int32) (q m x4 s0 : Int32) (hJ : J (sm_row (sm_tk (bt q) K H N m) P H 10 s0) (x4 + 1)) : ∀ d i, i + d = 10 → wX_supportIn_15 post J q m x4 p K H P N (d + 1) (sm_row (sm_tk (bt q) K H N m) P H i s0) (nI i) := by
  intro d
  induction d with
  | zero =>
    intro i hi
    have e : i = 10 := by omega
    subst e
    exact br_t (nI_le (Nat.le_refl 10) (by decide)) (nm_e hJ)
  | succ d ih =>
    intro i hi
    have hc : (nI i).toNatClampNeg = i := nI_clamp (by omega)
    have hin : vp_in (nI i) 10 := vp_in_nI (by omega) (by decide)
    have e := ih (i + 1) (by omega)
    refine br_f (nI_ge (b := 10) (by omega) (by decide)) (sx_takesPart p K H P N q m i (by omega) (sm_br (fun t => ⟨hin, br_c (fun hp => ⟨hin, fun y ey w ew => ?_⟩) (fun hp => fun w ew => ?_)⟩) (fun t => fun w ew => ?_)))
    · rw [hc] at hp ey
      rw [sm_row_t t hp] at e
      subst ey
      subst ew
      rw [nI_1]
      exact e
    · rw [hc] at hp
      rw [sm_row_f (fun z => hp z.2)] at e
      subst ew
      rw [nI_1]
      exact e
    · rw [sm_row_f (fun z => t z.1)] at e
      subst ew
      rw [nI_1]
      exact e
theorem sx_sup_out {post : Int32 → Prop} (p : Int32) (K H P N : Nat → Int32) (q m : Int32) (h : post (sm_sup (bt q) K H P N m)) : ∀ d i, i + d = 6 → wX_supportIn_5 post q m p K H P N (d + 1) (sm_pas (sm_tk (bt q) K H N m) P H i) (nI i) := by
  intro d
  induction d with
  | zero =>
    intro i hi
    have e : i = 6 := by omega
    subst e
    exact br_t (nI_le (Nat.le_refl 6) (by decide)) h
  | succ d ih =>
    intro i hi
    have e := ih (i + 1) (by omega)
    refine br_f (nI_ge (b := 6) (by omega) (by decide)) ⟨11, ?_⟩
    refine sx_sup_in _ p K H P N q m (nI i) (sm_pas (sm_tk (bt q) K H N m) P H i) ?_ 10 0 rfl
    rw [nI_1]
    exact e
theorem sx_supportIn {post : Int32 → Prop} (p : Int32) (K H P N : Nat → Int32) (q m : Int32) (h : post (sm_sup (bt q) K H P N m)) : wpX_supportIn post (p, K, H, P, N) q m :=
  ⟨7, sx_sup_out p K H P N q m h 6 0 rfl⟩
theorem sx_ban {post : Int32 → Prop} (p : Int32) (K H P N : Nat → Int32) (q m : Int32) (h : post (sm_b (∃ r, r < 10 ∧ sm_ban (bt q) K P N m r))) : ∀ d i, i + d = 10 → (∀ r, r < i → ¬ sm_ban (bt q) K P N m r) → wX_isBannedIn_2 post q m p K H P N (d + 1) (nI i) := by
  intro d
  induction d with
  | zero =>
    intro i hi hb
    have e : i = 10 := by omega
    subst e
    exact br_t (nI_le (Nat.le_refl 10) (by decide)) (sm_no (fun ⟨r, hr, z⟩ => hb r hr z) h)
  | succ d ih =>
    intro i hi hb
    have hc : (nI i).toNatClampNeg = i := nI_clamp (by omega)
    have hin : vp_in (nI i) 10 := vp_in_nI (by omega) (by decide)
    have e : ¬ sm_ban (bt q) K P N m i → wX_isBannedIn_2 post q m p K H P N (d + 1) (nI i + 1) := by
      intro z
      rw [nI_1]
      exact ih (i + 1) (by omega) (lt_s hb z)
    refine br_f (nI_ge (b := 10) (by omega) (by decide)) (sx_isIn q i (by omega) (sm_br (fun t => ⟨hin, br_c (fun hk => ⟨hin, hin, sx_fits _ _ m (sm_br (fun hf => ?_) (fun hf => nm_e (e ?_)))⟩) (fun hk => nm_e (e ?_))⟩) (fun t => nm_e (e ?_))))
    · rw [hc] at hk hf
      exact sm_yes ⟨i, by omega, t, hk, hf.1, hf.2⟩ h
    · rw [hc] at hf
      exact fun z => hf z.2.2
    · rw [hc] at hk
      exact fun z => hk z.2.1
    · exact fun z => t z.1
theorem sx_isBannedIn {post : Int32 → Prop} (p : Int32) (K H P N : Nat → Int32) (q m : Int32) (h : post (sm_b (∃ r, r < 10 ∧ sm_ban (bt q) K P N m r))) : wpX_isBannedIn post (p, K, H, P, N) q m :=
  ⟨11, sx_ban p K H P N q m h 10 0 rfl lt_0⟩
theorem sx_isStableIn {post : Int32 → Prop} (p : Int32) (K H P N : Nat → Int32) (q m : Int32) (h : post (sm_b (sm_st (bt q) K H P N m))) : wpX_isStableIn post (p, K, H, P, N) q m := by
  unfold wpX_isStableIn
  dsimp only
  refine sx_supportIn p K H P N q m (br_c (fun e => sx_isBannedIn p K H P N q m (sm_br (fun z => sm_no (fun t => ?_) h) (fun z => sm_yes ⟨e, fun r hr t => z ⟨r, hr, t⟩⟩ h))) (fun e => sm_no (fun t => e t.1) h))
  obtain ⟨r, hr, y⟩ := z
  exact t.2 r hr y
theorem sx_sets {post : Int64 → Prop} (p : Int32) (K H P N : Nat → Int32) (q : Int32) (h : ∀ f : Int64, (∀ j, j < 64 → (sm_bl f j = true ↔ sm_st (bt q) K H P N (nI j))) → post f) : ∀ d i (f : Int64), i + d = 64 → (∀ j, j < 64 → (sm_bl f j = true ↔ (j < i ∧ sm_st (bt q) K H P N (nI j)))) → wX_stableSets_5 post q p K H P N (d + 1) f (nI i) := by
  intro d
  induction d with
  | zero =>
    intro i f hi hf
    have e : i = 64 := by omega
    subst e
    exact br_t (nI_le (Nat.le_refl 64) (by decide)) (h f (fun j hj => (hf j hj).trans ⟨fun z => z.2, fun z => ⟨hj, z⟩⟩))
  | succ d ih =>
    intro i f hi hf
    refine br_f (nI_ge (b := 64) (by omega) (by decide)) (sx_isStableIn p K H P N q (nI i) (sm_br (fun t => fun y ey w ew => ?_) (fun t => fun w ew => ?_)))
    · subst ey
      subst ew
      rw [nI_1]
      refine ih (i + 1) _ (by omega) (fun j hj => ?_)
      rw [sm_lor, sm_lsh i (by omega) hj, Bool.or_eq_true, hf j hj, decide_eq_true_eq]
      constructor
      · rintro (z | z)
        · exact ⟨by omega, z.2⟩
        · subst z
          exact ⟨by omega, t⟩
      · rintro ⟨z, y⟩
        by_cases e : j = i
        · exact Or.inr e
        · exact Or.inl ⟨by omega, y⟩
    · subst ew
      rw [nI_1]
      refine ih (i + 1) _ (by omega) (fun j hj => ?_)
      rw [hf j hj]
      constructor
      · rintro ⟨z, y⟩
        exact ⟨by omega, y⟩
      · rintro ⟨z, y⟩
        by_cases e : j = i
        · subst e
          exact absurd y t
        · exact ⟨by omega, y⟩
theorem sx_stableSets {post : Int64 → Prop} (p : Int32) (K H P N : Nat → Int32) (q : Int32) (h : ∀ f : Int64, (∀ j, j < 64 → (sm_bl f j = true ↔ sm_st (bt q) K H P N (nI j))) → post f) : wpX_stableSets post (p, K, H, P, N) q := by
  refine ⟨65, sx_sets p K H P N q h 64 0 0 rfl (fun j hj => ?_)⟩
  rw [sm_l0]
  exact ⟨fun z => Bool.noConfusion z, fun z => absurd z.1 (by omega)⟩
theorem sx_contains {post : Int32 → Prop} (f : Int64) (n : Nat) (hn : n < 64) (h : post (sm_b (sm_bl f n = true))) : wpX_contains post f (nI n) :=
  sm_e (sm_lin1 f n hn) (fun z => sm_yes z h) (fun z => sm_no z h)
