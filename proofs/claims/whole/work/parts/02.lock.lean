/-! 0 or 1 for a proposition; two loops in lockstep; cases of an int -/
noncomputable def sm_b (c : Prop) : Int32 := @ite _ c (Classical.propDecidable c) 1 0
theorem sm_bt {c : Prop} (h : c) : sm_b c = 1 := if_pos h
theorem sm_bf {c : Prop} (h : ¬ c) : sm_b c = 0 := if_neg h
theorem sm_bc {c d : Prop} (h : c ↔ d) : sm_b c = sm_b d := by rw [propext h]
theorem sm_b0 {c : Prop} : sm_b c = 0 ↔ ¬ c := by
  by_cases h : c
  · rw [sm_bt h]
    exact ⟨fun z => absurd z (by decide), fun z => absurd h z⟩
  · rw [sm_bf h]
    exact ⟨fun _ => h, fun _ => rfl⟩
theorem sm_b1i {c : Prop} : sm_b c = 1 ↔ c := by
  by_cases h : c
  · rw [sm_bt h]
    exact ⟨fun _ => h, fun _ => rfl⟩
  · rw [sm_bf h]
    exact ⟨fun z => absurd z (by decide), fun z => absurd z h⟩
theorem sm_bi {c d : Prop} : sm_b c = sm_b d ↔ (c ↔ d) := by
  constructor
  · intro e
    by_cases h : c
    · rw [sm_bt h] at e
      exact ⟨fun _ => sm_b1i.mp e.symm, fun _ => h⟩
    · rw [sm_bf h] at e
      exact ⟨fun z => absurd z h, fun z => absurd z (sm_b0.mp e.symm)⟩
  · exact sm_bc
theorem sm_e {c d A B : Prop} (e : c ↔ d) (f : d → A) (g : ¬ d → B) : (c → A) ∧ (¬ c → B) := ⟨fun h => f (e.mp h), fun h => g (fun z => h (e.mpr z))⟩
theorem sm_lk {σ PX PY : Type} (aX : Int32 → PX → Prop) (aY : Int32 → PY → Prop) (WX : PX → Nat → Nat → σ → Prop) (WY : PY → Nat → Nat → σ → Prop) (I : Nat → σ → Prop) (e : Nat)
    (hx : ∀ s, I e s → ∃ r, (∀ post n, aX r post → WX post (n + 1) e s) ∧ (∀ post n, aY r post → WY post (n + 1) e s))
    (hs : ∀ i s, i < e → I i s → (∃ r, (∀ post n, aX r post → WX post (n + 1) i s) ∧ (∀ post n, aY r post → WY post (n + 1) i s)) ∨
      (∃ s', I (i + 1) s' ∧ (∀ post n, WX post n (i + 1) s' → WX post (n + 1) i s) ∧ (∀ post n, WY post n (i + 1) s' → WY post (n + 1) i s))) :
    ∀ d i s, i + d = e → I i s → ∃ r, (∀ post, aX r post → WX post (d + 1) i s) ∧ (∀ post, aY r post → WY post (d + 1) i s) := by
  intro d
  induction d with
  | zero =>
    intro i s hi hI
    have hie : i = e := by omega
    subst hie
    obtain ⟨r, a, b⟩ := hx s hI
    exact ⟨r, fun p h => a p 0 h, fun p h => b p 0 h⟩
  | succ d ih =>
    intro i s hi hI
    rcases hs i s (by omega) hI with ⟨r, a, b⟩ | ⟨s', hI', a, b⟩
    · exact ⟨r, fun p h => a p (d + 1) h, fun p h => b p (d + 1) h⟩
    · obtain ⟨r, c, f⟩ := ih (i + 1) s' (by omega) hI'
      exact ⟨r, fun p h => a p _ (c p h), fun p h => b p _ (f p h)⟩
/-! a set of atoms: one of 0 .. 63 -/
theorem sm_ix (x : Int32) {n : Nat} (hn : n < 2 ^ 31) : x < 0 ∨ nI n ≤ x ∨ ∃ j : Nat, j < n ∧ x = nI j := by
  by_cases h : x < 0
  · exact Or.inl h
  · obtain ⟨j, hj, rfl⟩ := nI_of h
    rcases Nat.lt_or_ge j n with z | z
    · exact Or.inr (Or.inr ⟨j, z, rfl⟩)
    · exact Or.inr (Or.inl (nI_le z hj))
def sm_S (n : Nat) (x : Int32) : Prop := ∃ j : Nat, j < n ∧ x = nI j
theorem sm_S_not {n : Nat} (hn : n < 2 ^ 31) {x : Int32} (h : ¬ sm_S n x) : x < 0 ∨ (¬ x < 0 ∧ nI n ≤ x) := by
  rcases sm_ix x hn with z | z | z
  · exact Or.inl z
  · refine Or.inr ⟨fun q => ?_, z⟩
    have a : (0 : Int32) ≤ nI n := nI_pos' hn
    have b : (0 : Int32) ≤ x := Int32.le_trans a z
    exact absurd q (Int32.not_lt.mpr b)
  · exact absurd z h
theorem sm_least (p : Int32) : ∀ d i : Nat, i + d = 10 → (∀ j, j < i → bt p j = true) → ∃ r, r ≤ 10 ∧ (∀ j, j < r → bt p j = true) ∧ (r < 10 → bt p r = false) := by
  intro d
  induction d with
  | zero => exact fun i hi h => ⟨i, by omega, h, fun z => by omega⟩
  | succ d ih =>
    intro i hi h
    cases hb : bt p i
    · exact ⟨i, by omega, h, fun _ => hb⟩
    · refine ih (i + 1) (by omega) (fun j hj => ?_)
      rcases Nat.lt_or_ge j i with z | z
      · exact h j z
      · have e : j = i := by omega
        rw [e]
        exact hb
theorem sm_nf {x : Bool} (h : ¬ x = false) : x = true := by cases x <;> first | rfl | exact absurd rfl h
theorem sm_yes {post : Int32 → Prop} {c : Prop} (hc : c) (h : post (sm_b c)) : post 1 := by
  rw [sm_bt hc] at h
  exact h
theorem sm_no {post : Int32 → Prop} {c : Prop} (hc : ¬ c) (h : post (sm_b c)) : post 0 := by
  rw [sm_bf hc] at h
  exact h
theorem sm_br {c A B : Prop} (f : c → B) (g : ¬ c → A) : (sm_b c = 0 → A) ∧ (¬ sm_b c = 0 → B) :=
  ⟨fun h => g (sm_b0.mp h), fun h => f (Classical.byContradiction fun z => h (sm_b0.mpr z))⟩
theorem sm_in_S {n j : Nat} (h : j < n) : sm_S n (nI j) := ⟨j, h, rfl⟩
theorem sm_Sr {n : Nat} (hn : n < 2 ^ 31) {j : Nat} (hj : j < 2 ^ 31) : sm_S n (nI j) ↔ j < n := by
  constructor
  · rintro ⟨i, hi, e⟩
    rw [nI_eq hj (by omega)] at e
    omega
  · exact sm_in_S
theorem sm_gt {n : Nat} (hn : n + 1 < 2 ^ 31) {x : Int32} (h : nI (n + 1) ≤ x) : nI n < x := Int32.lt_of_lt_of_le (nI_lt (Nat.lt_succ_self n) hn) h
theorem sm_nar0 : vp_nar .boolean 0 = 0 := by rfl
theorem sm_nar1 : vp_nar .boolean 1 = 1 := by rfl
theorem sm_nar (c : Prop) : vp_nar .boolean (sm_b c) = sm_b c := by
  by_cases h : c
  · rw [sm_bt h]
    exact sm_nar1
  · rw [sm_bf h]
    exact sm_nar0
theorem sm_narr (c : Prop) : narrow .boolean (.int (sm_b c)) = .int (sm_b c) := by
  by_cases h : c
  · rw [sm_bt h]
    rfl
  · rw [sm_bf h]
    rfl
