/-! models, model, brave, cautious, find, fewest: both loops in lockstep -/
theorem sm_64 : (64 : Int32) ≤ nI 64 := nI_le (Nat.le_refl 64) (by decide)
theorem sm_n64 {i : Nat} (h : i < 64) : ¬ (64 : Int32) ≤ nI i := nI_ge (b := 64) h (by decide)
def sm_F (f : Int64) (pr : Nat → Bool) (K H P N : Nat → Int32) : Prop := ∀ j, j < 64 → (sm_bl f j = true ↔ sm_st pr K H P N (nI j))
theorem sl_models {pr : Nat → Bool} {T K H P N : Nat → Int32} (hY : sm_Y pr T K H) (F B : Nat → Int32) {f : Int64} (hf : sm_F f pr K H P N) (p : Int32) (hx : Nat → Int32) :
    ∃ r, (∀ post : Int32 → Prop, post r → wX_models_14 post f p K hx P N 65 0 (nI 0)) ∧ (∀ post : Int32 → Prop, post r → wY_models_4 post T K H P N F B 65 0 (nI 0)) := by
  refine sm_lk (σ := Int32) (fun r (post : Int32 → Prop) => post r) (fun r (post : Int32 → Prop) => post r) (fun post n i s => wX_models_14 post f p K hx P N n s (nI i)) (fun post n i s => wY_models_4 post T K H P N F B n s (nI i)) (fun _ _ => True) 64 ?_ ?_ 64 0 0 rfl trivial
  · intro s _
    exact ⟨s, fun post n h => br_t sm_64 h, fun post n h => br_t sm_64 h⟩
  · intro i s hi _
    refine Or.inr ?_
    by_cases c : sm_st pr K H P N (nI i)
    · refine ⟨s + 1, trivial, fun post n h => br_f (sm_n64 hi) (sx_contains f i hi (sm_br (fun _ y ey w ew => ?_) (fun z => absurd ((hf i hi).mpr c) z))), fun post n h => br_f (sm_n64 hi) (sy_stab hY P N F B i hi (sm_br (fun _ y ey w ew => ?_) (fun z => absurd c z)))⟩
      · subst ey; subst ew; rw [nI_1]; exact h
      · subst ey; subst ew; rw [nI_1]; exact h
    · refine ⟨s, trivial, fun post n h => br_f (sm_n64 hi) (sx_contains f i hi (sm_br (fun z => absurd ((hf i hi).mp z) c) (fun _ w ew => ?_))), fun post n h => br_f (sm_n64 hi) (sy_stab hY P N F B i hi (sm_br (fun z => absurd z c) (fun _ w ew => ?_)))⟩
      · subst ew; rw [nI_1]; exact h
      · subst ew; rw [nI_1]; exact h
theorem sl_model {pr : Nat → Bool} {T K H P N : Nat → Int32} (hY : sm_Y pr T K H) (F B : Nat → Int32) {f : Int64} (hf : sm_F f pr K H P N) (p : Int32) (hx : Nat → Int32) (k : Int32) :
    ∃ r, (∀ post : Int32 → Prop, post r → wX_model_15 post k f p K hx P N 65 0 (nI 0)) ∧ (∀ post : Int32 → Prop, post r → wY_model_4 post k T K H P N F B 65 0 (nI 0)) := by
  refine sm_lk (σ := Int32) (fun r (post : Int32 → Prop) => post r) (fun r (post : Int32 → Prop) => post r) (fun post n i s => wX_model_15 post k f p K hx P N n s (nI i)) (fun post n i s => wY_model_4 post k T K H P N F B n s (nI i)) (fun _ _ => True) 64 ?_ ?_ 64 0 0 rfl trivial
  · intro s _
    exact ⟨-1, fun post n h => br_t sm_64 h, fun post n h => br_t sm_64 h⟩
  · intro i s hi _
    by_cases c : sm_st pr K H P N (nI i)
    · by_cases e : s = k
      · refine Or.inl ⟨nI i, fun post n h => br_f (sm_n64 hi) (sx_contains f i hi (sm_br (fun _ => br_t e h) (fun z => absurd ((hf i hi).mpr c) z))), fun post n h => br_f (sm_n64 hi) (sy_stab hY P N F B i hi (sm_br (fun _ => br_t e h) (fun z => absurd c z)))⟩
      · refine Or.inr ⟨s + 1, trivial, fun post n h => br_f (sm_n64 hi) (sx_contains f i hi (sm_br (fun _ => br_f e (fun y ey w ew => ?_)) (fun z => absurd ((hf i hi).mpr c) z))), fun post n h => br_f (sm_n64 hi) (sy_stab hY P N F B i hi (sm_br (fun _ => br_f e (fun y ey w ew => ?_)) (fun z => absurd c z)))⟩
        · subst ey; subst ew; rw [nI_1]; exact h
        · subst ey; subst ew; rw [nI_1]; exact h
    · refine Or.inr ⟨s, trivial, fun post n h => br_f (sm_n64 hi) (sx_contains f i hi (sm_br (fun z => absurd ((hf i hi).mp z) c) (fun _ w ew => ?_))), fun post n h => br_f (sm_n64 hi) (sy_stab hY P N F B i hi (sm_br (fun z => absurd z c) (fun _ w ew => ?_)))⟩
      · subst ew; rw [nI_1]; exact h
      · subst ew; rw [nI_1]; exact h
theorem sl_brave {pr : Nat → Bool} {T K H P N : Nat → Int32} (hY : sm_Y pr T K H) (F B : Nat → Int32) {f : Int64} (hf : sm_F f pr K H P N) (p : Int32) (hx : Nat → Int32) :
    ∃ r, (∀ post : Int32 → Prop, post r → wX_brave_14 post f p K hx P N 65 0 (nI 0)) ∧ (∀ post : Int32 → Prop, post r → wY_brave_4 post T K H P N F B 65 0 (nI 0)) := by
  refine sm_lk (σ := Int32) (fun r (post : Int32 → Prop) => post r) (fun r (post : Int32 → Prop) => post r) (fun post n i s => wX_brave_14 post f p K hx P N n s (nI i)) (fun post n i s => wY_brave_4 post T K H P N F B n s (nI i)) (fun _ _ => True) 64 ?_ ?_ 64 0 0 rfl trivial
  · intro s _
    exact ⟨s, fun post n h => br_t sm_64 h, fun post n h => br_t sm_64 h⟩
  · intro i s hi _
    refine Or.inr ?_
    by_cases c : sm_st pr K H P N (nI i)
    · refine ⟨s ||| nI i, trivial, fun post n h => br_f (sm_n64 hi) (sx_contains f i hi (sm_br (fun _ y ey w ew => ?_) (fun z => absurd ((hf i hi).mpr c) z))), fun post n h => br_f (sm_n64 hi) (sy_stab hY P N F B i hi (sm_br (fun _ y ey w ew => ?_) (fun z => absurd c z)))⟩
      · subst ey; subst ew; rw [nI_1]; exact h
      · subst ey; subst ew; rw [nI_1]; exact h
    · refine ⟨s, trivial, fun post n h => br_f (sm_n64 hi) (sx_contains f i hi (sm_br (fun z => absurd ((hf i hi).mp z) c) (fun _ w ew => ?_))), fun post n h => br_f (sm_n64 hi) (sy_stab hY P N F B i hi (sm_br (fun z => absurd z c) (fun _ w ew => ?_)))⟩
      · subst ew; rw [nI_1]; exact h
      · subst ew; rw [nI_1]; exact h
theorem sl_cautious {pr : Nat → Bool} {T K H P N : Nat → Int32} (hY : sm_Y pr T K H) (F B : Nat → Int32) {f : Int64} (hf : sm_F f pr K H P N) (p : Int32) (hx : Nat → Int32) :
    ∃ r, (∀ post : Int32 → Prop, post r → wX_cautious_15 post f p K hx P N 65 63 (nI 0)) ∧ (∀ post : Int32 → Prop, post r → wY_cautious_5 post T K H P N F B 65 63 (nI 0)) := by
  refine sm_lk (σ := Int32) (fun r (post : Int32 → Prop) => post r) (fun r (post : Int32 → Prop) => post r) (fun post n i s => wX_cautious_15 post f p K hx P N n s (nI i)) (fun post n i s => wY_cautious_5 post T K H P N F B n s (nI i)) (fun _ _ => True) 64 ?_ ?_ 64 0 63 rfl trivial
  · intro s _
    exact ⟨s, fun post n h => br_t sm_64 h, fun post n h => br_t sm_64 h⟩
  · intro i s hi _
    refine Or.inr ?_
    by_cases c : sm_st pr K H P N (nI i)
    · refine ⟨s &&& nI i, trivial, fun post n h => br_f (sm_n64 hi) (sx_contains f i hi (sm_br (fun _ y ey w ew => ?_) (fun z => absurd ((hf i hi).mpr c) z))), fun post n h => br_f (sm_n64 hi) (sy_stab hY P N F B i hi (sm_br (fun _ y ey w ew => ?_) (fun z => absurd c z)))⟩
      · subst ey; subst ew; rw [nI_1]; exact h
      · subst ey; subst ew; rw [nI_1]; exact h
    · refine ⟨s, trivial, fun post n h => br_f (sm_n64 hi) (sx_contains f i hi (sm_br (fun z => absurd ((hf i hi).mp z) c) (fun _ w ew => ?_))), fun post n h => br_f (sm_n64 hi) (sy_stab hY P N F B i hi (sm_br (fun z => absurd z c) (fun _ w ew => ?_)))⟩
      · subst ew; rw [nI_1]; exact h
      · subst ew; rw [nI_1]; exact h
theorem sl_find {pr : Nat → Bool} {T K H P N : Nat → Int32} (hY : sm_Y pr T K H) (F B : Nat → Int32) {f : Int64} (hf : sm_F f pr K H P N) (p : Int32) (hx : Nat → Int32) (a b : Int32) (ha : sm_S 64 a) (hb : sm_S 64 b) :
    ∃ r, (∀ post : Int32 → Prop, post r → wX_find_28 post a b f p K hx P N 65 (nI 0)) ∧ (∀ post : Int32 → Prop, post r → wY_find_2 post a b T K H P N F B 65 (nI 0)) := by
  refine sm_lk (σ := Unit) (fun r (post : Int32 → Prop) => post r) (fun r (post : Int32 → Prop) => post r) (fun post n i _ => wX_find_28 post a b f p K hx P N n (nI i)) (fun post n i _ => wY_find_2 post a b T K H P N F B n (nI i)) (fun _ _ => True) 64 ?_ ?_ 64 0 () rfl trivial
  · intro s _
    exact ⟨-1, fun post n h => br_t sm_64 h, fun post n h => br_t sm_64 h⟩
  · intro i s hi _
    by_cases c : sm_st pr K H P N (nI i)
    · by_cases e1 : (a &&& (nI i ^^^ (-1))) = 0
      · by_cases e2 : (b &&& nI i) = 0
        · refine Or.inl ⟨nI i, fun post n h => br_f (sm_n64 hi) (sx_contains f i hi (sm_br (fun _ => sx_fits a b (nI i) (sm_br (fun _ => h) (fun z => absurd ⟨e1, e2⟩ z))) (fun z => absurd ((hf i hi).mpr c) z))), fun post n h => br_f (sm_n64 hi) (sy_set _ a (sm_br (fun _ => sy_set _ b (sm_br (fun _ => br_t e1 (br_t e2 (sy_stab hY P N F B i hi (sm_br (fun _ => h) (fun z => absurd c z))))) (fun z => absurd hb z))) (fun z => absurd ha z)))⟩
        · refine Or.inr ⟨(), trivial, fun post n h => br_f (sm_n64 hi) (sx_contains f i hi (sm_br (fun _ => sx_fits a b (nI i) (sm_br (fun z => absurd z.2 e2) (fun z w ew => ?_))) (fun z => absurd ((hf i hi).mpr c) z))), fun post n h => br_f (sm_n64 hi) (sy_set _ a (sm_br (fun _ => sy_set _ b (sm_br (fun _ => br_t e1 (br_f e2 (fun w ew => ?_))) (fun z => absurd hb z))) (fun z => absurd ha z)))⟩
          · subst ew; rw [nI_1]; exact h
          · subst ew; rw [nI_1]; exact h
      · refine Or.inr ⟨(), trivial, fun post n h => br_f (sm_n64 hi) (sx_contains f i hi (sm_br (fun _ => sx_fits a b (nI i) (sm_br (fun z => absurd z.1 e1) (fun z w ew => ?_))) (fun z => absurd ((hf i hi).mpr c) z))), fun post n h => br_f (sm_n64 hi) (sy_set _ a (sm_br (fun _ => sy_set _ b (sm_br (fun _ => br_f e1 (fun w ew => ?_)) (fun z => absurd hb z))) (fun z => absurd ha z)))⟩
        · subst ew; rw [nI_1]; exact h
        · subst ew; rw [nI_1]; exact h
    · refine Or.inr ⟨(), trivial, fun post n h => br_f (sm_n64 hi) (sx_contains f i hi (sm_br (fun z => absurd ((hf i hi).mp z) c) (fun _ w ew => ?_))), fun post n h => br_f (sm_n64 hi) (sy_set _ a (sm_br (fun _ => sy_set _ b (sm_br (fun _ => br_c (fun e1 => br_c (fun e2 => sy_stab hY P N F B i hi (sm_br (fun z => absurd z c) (fun _ w ew => ?_))) (fun e2 w ew => ?_)) (fun e1 w ew => ?_)) (fun z => absurd hb z))) (fun z => absurd ha z)))⟩
      · subst ew; rw [nI_1]; exact h
      · subst ew; rw [nI_1]; exact h
      · subst ew; rw [nI_1]; exact h
      · subst ew; rw [nI_1]; exact h
/-! the number of atoms of a set -/
def sm_on (x : Int32) : Nat → Int32
  | 0 => 0
  | a + 1 => sm_on x a + ((x >>> (nI a &&& 31)) &&& 1)
theorem sm_on_n (x : Int32) (a : Nat) : ∃ k, k ≤ a ∧ sm_on x a = nI k := by
  induction a with
  | zero => exact ⟨0, by omega, rfl⟩
  | succ a ih =>
    obtain ⟨k, hk, e⟩ := ih
    rcases sm_a1 (x >>> (nI a &&& 31)) with z | z
    · refine ⟨k, by omega, ?_⟩
      show sm_on x a + ((x >>> (nI a &&& 31)) &&& 1) = nI k
      rw [e, z]
      exact nI_add k 0
    · refine ⟨k + 1, by omega, ?_⟩
      show sm_on x a + ((x >>> (nI a &&& 31)) &&& 1) = nI (k + 1)
      rw [e, z]
      exact nI_1 k
theorem sx_at {post : Int32 → Prop} (x : Int32) (h : post (sm_on x 6)) : ∀ d i, i + d = 6 → wX_atomsIn_4 post x (d + 1) (sm_on x i) (nI i) := by
  intro d
  induction d with
  | zero =>
    intro i hi
    have e : i = 6 := by omega
    subst e
    exact br_t (nI_le (Nat.le_refl 6) (by decide)) h
  | succ d ih =>
    intro i hi
    have e : wX_atomsIn_4 post x (d + 1) (sm_on x i + ((x >>> (nI i &&& 31)) &&& 1)) (nI (i + 1)) := ih (i + 1) (by omega)
    rw [sm_in x i (by omega)] at e
    refine br_f (nI_ge (b := 6) (by omega) (by decide)) (sx_isIn x i (by omega) (sm_br (fun t y ey w ew => ?_) (fun t w ew => ?_)))
    · rw [if_pos t] at e
      subst ey; subst ew; rw [nI_1 i]; exact e
    · rw [if_neg t] at e
      have e0 : sm_on x i + 0 = sm_on x i := by
        obtain ⟨k, hk, z⟩ := sm_on_n x i
        rw [z]
        exact nI_add k 0
      rw [e0] at e
      subst ew; rw [nI_1 i]; exact e
theorem sx_atomsIn {post : Int32 → Prop} (x : Int32) (h : post (sm_on x 6)) : wpX_atomsIn post x := ⟨7, sx_at x h 6 0 rfl⟩
theorem sy_on {post : Int32 → Prop} (T K H P N F B : Nat → Int32) (x : Int32) (h : post (sm_on x 6)) : ∀ d i, i + d = 6 → wY_ones_4 post x T K H P N F B (d + 1) (sm_on x i) (nI i) := by
  intro d
  induction d with
  | zero =>
    intro i hi
    have e : i = 6 := by omega
    subst e
    exact br_t (nI_le (Nat.le_refl 6) (by decide)) h
  | succ d ih =>
    intro i hi
    have e : wY_ones_4 post x T K H P N F B (d + 1) (sm_on x i + ((x >>> (nI i &&& 31)) &&& 1)) (nI (i + 1)) := ih (i + 1) (by omega)
    refine br_f (nI_ge (b := 6) (by omega) (by decide)) (fun y ey w ew => ?_)
    subst ey; subst ew; rw [nI_1 i]; exact e
theorem sy_ones {post : Int32 → Prop} (T K H P N F B : Nat → Int32) (x : Int32) (h : post (sm_on x 6)) : wpY_ones post (T, K, H, P, N, F, B) x := ⟨7, sy_on T K H P N F B x h 6 0 rfl⟩
theorem sl_fewest {pr : Nat → Bool} {T K H P N : Nat → Int32} (hY : sm_Y pr T K H) (F B : Nat → Int32) {f : Int64} (hf : sm_F f pr K H P N) (p : Int32) (hx : Nat → Int32) :
    ∃ r, (∀ post : Int32 → Prop, post r → wX_fewest_14 post f p K hx P N 65 (-1) (nI 0)) ∧ (∀ post : Int32 → Prop, post r → wY_fewest_4 post T K H P N F B 65 (-1) (nI 0)) := by
  refine sm_lk (σ := Int32) (fun r (post : Int32 → Prop) => post r) (fun r (post : Int32 → Prop) => post r) (fun post n i s => wX_fewest_14 post f p K hx P N n s (nI i)) (fun post n i s => wY_fewest_4 post T K H P N F B n s (nI i)) (fun _ s => s = -1 ∨ sm_S 7 s) 64 ?_ ?_ 64 0 (-1) rfl (Or.inl rfl)
  · intro s _
    exact ⟨s, fun post n h => br_t sm_64 h, fun post n h => br_t sm_64 h⟩
  · intro i s hi hs
    refine Or.inr ?_
    by_cases c : sm_st pr K H P N (nI i)
    · have ho : sm_S 7 (sm_on (nI i) 6) := by
        obtain ⟨k, hk, e⟩ := sm_on_n (nI i) 6
        exact ⟨k, by omega, e⟩
      by_cases e1 : s = -1
      · have l0 : s < 0 := by
          rw [e1]
          decide
        refine ⟨sm_on (nI i) 6, Or.inr ho, fun post n h => br_f (sm_n64 hi) (sx_contains f i hi (sm_br (fun _ => sx_atomsIn (nI i) (br_t e1 (fun w ew => ?_))) (fun z => absurd ((hf i hi).mpr c) z))), fun post n h => br_f (sm_n64 hi) (sy_ones T K H P N F B (nI i) (sy_stab hY P N F B i hi (sm_br (fun _ => br_t l0 (fun w ew => ?_)) (fun z => absurd c z))))⟩
        · subst ew; rw [nI_1]; exact h
        · subst ew; rw [nI_1]; exact h
      · have hs' : sm_S 7 s := hs.resolve_left e1
        have l0 : ¬ s < 0 := by
          obtain ⟨k, hk, e⟩ := hs'
          rw [e]
          exact nI_pos (by omega)
        by_cases e2 : s ≤ sm_on (nI i) 6
        · refine ⟨s, hs, fun post n h => br_f (sm_n64 hi) (sx_contains f i hi (sm_br (fun _ => sx_atomsIn (nI i) (br_f e1 (br_t e2 (fun w ew => ?_)))) (fun z => absurd ((hf i hi).mpr c) z))), fun post n h => br_f (sm_n64 hi) (sy_ones T K H P N F B (nI i) (sy_stab hY P N F B i hi (sm_br (fun _ => br_f l0 (br_t e2 (fun w ew => ?_))) (fun z => absurd c z))))⟩
          · subst ew; rw [nI_1]; exact h
          · subst ew; rw [nI_1]; exact h
        · refine ⟨sm_on (nI i) 6, Or.inr ho, fun post n h => br_f (sm_n64 hi) (sx_contains f i hi (sm_br (fun _ => sx_atomsIn (nI i) (br_f e1 (br_f e2 (fun w ew => ?_)))) (fun z => absurd ((hf i hi).mpr c) z))), fun post n h => br_f (sm_n64 hi) (sy_ones T K H P N F B (nI i) (sy_stab hY P N F B i hi (sm_br (fun _ => br_f l0 (br_f e2 (fun w ew => ?_))) (fun z => absurd c z))))⟩
          · subst ew; rw [nI_1]; exact h
          · subst ew; rw [nI_1]; exact h
    · refine ⟨s, hs, fun post n h => br_f (sm_n64 hi) (sx_contains f i hi (sm_br (fun z => absurd ((hf i hi).mp z) c) (fun _ w ew => ?_))), fun post n h => br_f (sm_n64 hi) (sy_ones T K H P N F B (nI i) (sy_stab hY P N F B i hi (sm_br (fun z => absurd z c) (fun _ w ew => ?_))))⟩
      · subst ew; rw [nI_1]; exact h
      · subst ew; rw [nI_1]; exact h
