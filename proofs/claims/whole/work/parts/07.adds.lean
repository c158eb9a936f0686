/-! the relation's parts; add, remove, rules -/
def sm_R (p : Int32) (K hx hy T : Nat → Int32) : Prop :=
  (∀ r, r < 10 → T r = sm_b (bt p r = true)) ∧ (∀ i, 10 ≤ i → bt p i = false) ∧ (∀ r, r < 10 → K r = 0 ∨ K r = 1 → hx r = hy r ∧ ∃ j, j < 6 ∧ hy r = nI j)
theorem sm_RY {p : Int32} {K hx hy T : Nat → Int32} (h : sm_R p K hx hy T) : sm_Y (bt p) T K hy := by
  refine ⟨h.1, fun r hr e => ?_⟩
  obtain ⟨_, j, hj, z⟩ := h.2.2 r hr (Or.inr e)
  exact ⟨j, by omega, z⟩
theorem sm_RH {p : Int32} {K hx hy T : Nat → Int32} (h : sm_R p K hx hy T) : ∀ r, r < 10 → K r = 0 ∨ K r = 1 → hx r = hy r := fun r hr e => (h.2.2 r hr e).1
theorem sm_RF {p : Int32} {K hx hy T P N : Nat → Int32} (h : sm_R p K hx hy T) {f : Int64} {q : Int32} (hf : ∀ j, j < 64 → (sm_bl f j = true ↔ sm_st (bt q) K hx P N (nI j))) : sm_F f (bt q) K hy P N :=
  fun j hj => (hf j hj).trans (sm_st_c (nI j) (fun _ _ => rfl) (sm_RH h))
theorem sm_R_add {p : Int32} {K hx hy T : Nat → Int32} (h : sm_R p K hx hy T) (r : Nat) (hr : r < 10) (k a b : Int32) (hk : k = 0 ∨ k = 1 → a = b ∧ ∃ j, j < 6 ∧ b = nI j) : sm_R (p ||| ((1 : Int32) <<< (nI r &&& 31))) (upd K r k) (upd hx r a) (upd hy r b) (upd T r 1) := by
  refine ⟨fun i hi => ?_, fun i hi => ?_, fun i hi => ?_⟩
  · unfold upd
    by_cases e : i = r
    · rw [if_pos e, sm_bt]
      rw [sm_orb p r (by omega) (by omega), decide_eq_true e, Bool.or_true]
    · rw [if_neg e, h.1 i hi]
      refine sm_bc ?_
      rw [sm_orb p r (by omega) (by omega), decide_eq_false e, Bool.or_false]
  · rcases Nat.lt_or_ge i 32 with z | z
    · rw [sm_orb p r (by omega) z, h.2.1 i hi, decide_eq_false (by omega)]
      rfl
    · exact b_big z
  · unfold upd
    by_cases e : i = r
    · rw [if_pos e, if_pos e, if_pos e]
      exact hk
    · rw [if_neg e, if_neg e, if_neg e]
      exact h.2.2 i hi
theorem sm_R_rem {p : Int32} {K hx hy T : Nat → Int32} (h : sm_R p K hx hy T) (r : Nat) (hr : r < 10) : sm_R (p &&& (((1 : Int32) <<< (nI r &&& 31)) ^^^ (-1))) K hx hy (upd T r 0) := by
  refine ⟨fun i hi => ?_, fun i hi => ?_, h.2.2⟩
  · unfold upd
    by_cases e : i = r
    · rw [if_pos e, sm_bf]
      rw [sm_clb p r (by omega) (by omega), decide_eq_true e]
      simp
    · rw [if_neg e, h.1 i hi]
      refine sm_bc ?_
      rw [sm_clb p r (by omega) (by omega), decide_eq_false e]
      simp
  · rcases Nat.lt_or_ge i 32 with z | z
    · rw [sm_clb p r (by omega) z, h.2.1 i hi]
      rfl
    · exact b_big z
theorem sm_R_T {p : Int32} {K hx hy T T' : Nat → Int32} (h : sm_R p K hx hy T) (e : ∀ j, j < 10 → T' j = T j) : sm_R p K hx hy T' := ⟨fun r hr => (e r hr).trans (h.1 r hr), h.2⟩
theorem sy_add45 {post : Int32 → SY → Prop} {p : Int32} {K hx hy T : Nat → Int32} (hR : sm_R p K hx hy T) (P N F B : Nat → Int32) (v1 v2 v3 v4 : Int32) (r : Nat) (hr : r ≤ 10) (ht : ∀ j, j < r → bt p j = true) (hf : r < 10 → bt p r = false)
    (h10 : r = 10 → post (-2) (T, K, hy, P, N, F, B))
    (h1 : r < 10 → v1 = 2 → post (nI r) (upd T r 1, upd K r v1, upd hy r 0, upd P r v3, upd N r v4, F, B))
    (h2 : r < 10 → ¬ v1 = 2 → post (nI r) (upd T r 1, upd K r v1, upd hy r v2, upd P r v3, upd N r v4, F, B)) : ∀ d i, i + d = r → wY_add_45 post v1 v2 v3 v4 T K hy P N F B (d + 1) (nI i) := by
  intro d
  induction d with
  | zero =>
    intro i hi
    have e : i = r := by omega
    subst e
    rcases Nat.lt_or_ge i 10 with z | z
    · have hc : (nI i).toNatClampNeg = i := nI_clamp (by omega)
      have hin : vp_in (nI i) 10 := vp_in_nI z (by decide)
      have t0 : T (nI i).toNatClampNeg = 0 := by
        rw [hc, hR.1 i z]
        exact sm_bf (fun q => Bool.noConfusion (q.symm.trans (hf z)))
      refine br_f (nI_ge (b := 10) z (by decide)) ⟨hin, br_t t0 ⟨hin, fun a ea => ⟨hin, fun b eb => br_c (fun e2 => ⟨hin, fun c ec => ⟨hin, fun d ed => ⟨hin, fun g eg => ?_⟩⟩⟩) (fun e2 => ⟨hin, fun c ec => ⟨hin, fun d ed => ⟨hin, fun g eg => ?_⟩⟩⟩)⟩⟩⟩
      · rw [hc] at ea eb ec ed eg
        rw [sm_nar1] at ea
        subst ea; subst eb; subst ec; subst ed; subst eg
        exact h1 z e2
      · rw [hc] at ea eb ec ed eg
        rw [sm_nar1] at ea
        subst ea; subst eb; subst ec; subst ed; subst eg
        exact h2 z e2
    · have e10 : i = 10 := by omega
      exact br_t (nI_le (a := 10) z (by omega)) (h10 e10)
  | succ d ih =>
    intro i hi
    have hc : (nI i).toNatClampNeg = i := nI_clamp (by omega)
    have hin : vp_in (nI i) 10 := vp_in_nI (by omega) (by decide)
    have t1 : ¬ T (nI i).toNatClampNeg = 0 := by
      rw [hc, hR.1 i (by omega), sm_bt (ht i (by omega))]
      decide
    exact br_f (nI_ge (b := 10) (by omega) (by decide)) ⟨hin, br_f t1 (nm_r (nI_1 i) (ih (i + 1) (by omega)))⟩
theorem sy_add {post : Int32 → SY → Prop} (T K hy P N F B : Nat → Int32) (v1 v2 v3 v4 : Int32)
    (h1 : sm_S 3 v1 → (v1 = 2 ∨ sm_S 6 v2) → sm_S 64 v3 → sm_S 64 v4 → ∃ n45 : Nat, wY_add_45 post v1 v2 v3 v4 T K hy P N F B n45 0)
    (h0 : ¬ (sm_S 3 v1 ∧ (v1 = 2 ∨ sm_S 6 v2) ∧ sm_S 64 v3 ∧ sm_S 64 v4) → post (-1) (T, K, hy, P, N, F, B)) : wpY_add post (T, K, hy, P, N, F, B) v1 v2 v3 v4 := by
  unfold wpY_add
  dsimp only
  by_cases hk : sm_S 3 v1
  · have h23 : (v1 = 2 ∨ sm_S 6 v2) → wY_add_23 post v1 v2 v3 v4 T K hy P N F B := by
      intro ho
      unfold wY_add_23
      exact sy_set _ v3 (sm_br (fun h3 => sy_set _ v4 (sm_br (fun h4 => h1 hk ho h3 h4) (fun h4 => h0 (fun q => h4 q.2.2.2)))) (fun h3 => h0 (fun q => h3 q.2.2.1)))
    have l0 : ¬ v1 < 0 := by
      obtain ⟨j, hj, e⟩ := hk
      rw [e]
      exact nI_pos (by omega)
    have l2 : ¬ (2 : Int32) < v1 := by
      obtain ⟨j, hj, e⟩ := hk
      rw [e]
      exact nI_nlt (a := 2) (by omega) (by decide)
    refine br_f l0 (br_f l2 (br_c (fun e2 => h23 (Or.inl e2)) (fun e2 => ?_)))
    by_cases ha : sm_S 6 v2
    · have m0 : ¬ v2 < 0 := by
        obtain ⟨j, hj, e⟩ := ha
        rw [e]
        exact nI_pos (by omega)
      have m5 : ¬ (5 : Int32) < v2 := by
        obtain ⟨j, hj, e⟩ := ha
        rw [e]
        exact nI_nlt (a := 5) (by omega) (by decide)
      exact br_f m0 (br_f m5 (h23 (Or.inr ha)))
    · have hh := h0 (fun q => q.2.1.elim e2 ha)
      rcases sm_S_not (by decide) ha with z | ⟨z, y⟩
      · exact br_t z hh
      · exact br_f z (br_t (sm_gt (n := 5) (by decide) y) hh)
  · have hh := h0 (fun q => hk q.1)
    rcases sm_S_not (by decide) hk with z | ⟨z, y⟩
    · exact br_t z hh
    · exact br_f z (br_t (sm_gt (n := 2) (by decide) y) hh)
theorem sy_remove {post : Int32 → SY → Prop} {p : Int32} {K hx hy T : Nat → Int32} (hR : sm_R p K hx hy T) (P N F B : Nat → Int32) (x : Int32) (h1 : ∀ r, r < 10 → x = nI r → bt p r = true → post 1 (upd T r 0, K, hy, P, N, F, B)) (h0 : (∀ r, r < 10 → x = nI r → ¬ bt p r = true) → post 0 (T, K, hy, P, N, F, B)) : wpY_remove post (T, K, hy, P, N, F, B) x := by
  unfold wpY_remove
  dsimp only
  by_cases hs : sm_S 10 x
  · obtain ⟨r, hr, rfl⟩ := hs
    have hc : (nI r).toNatClampNeg = r := nI_clamp (by omega)
    have hin : vp_in (nI r) 10 := vp_in_nI hr (by decide)
    rw [hc, hR.1 r hr, sm_nar0]
    refine br_f (nI_pos (by omega)) (br_f (nI_nlt (a := 9) (by omega) (by decide)) ⟨hin, sm_br (fun z => ⟨hin, nm_e (h1 r hr rfl z)⟩) (fun z => h0 ?_)⟩)
    intro i hi e
    rw [nI_eq (by omega) (by omega)] at e
    rw [← e]
    exact z
  · have hh := h0 (fun r hr e => absurd ⟨r, hr, e⟩ hs)
    rcases sm_S_not (by decide) hs with z | ⟨z, y⟩
    · exact br_t z hh
    · exact br_f z (br_t (sm_gt (n := 9) (by decide) y) hh)
theorem sy_matters0 {post : Int32 → SY → Prop} {p : Int32} {K hx hy T : Nat → Int32} (hR : sm_R p K hx hy T) (P N F B : Nat → Int32) (x : Int32) (hx0 : ∀ r, r < 10 → x = nI r → ¬ bt p r = true) (h0 : post 0 (T, K, hy, P, N, F, B)) : wpY_matters post (T, K, hy, P, N, F, B) x := by
  unfold wpY_matters
  dsimp only
  by_cases hs : sm_S 10 x
  · obtain ⟨r, hr, rfl⟩ := hs
    have hc : (nI r).toNatClampNeg = r := nI_clamp (by omega)
    have hin : vp_in (nI r) 10 := vp_in_nI hr (by decide)
    rw [hc, hR.1 r hr]
    exact br_f (nI_pos (by omega)) (br_f (nI_nlt (a := 9) (by omega) (by decide)) ⟨hin, sm_br (fun z => absurd z (hx0 r hr rfl)) (fun _ => h0)⟩)
  · rcases sm_S_not (by decide) hs with z | ⟨z, y⟩
    · exact br_t z h0
    · exact br_f z (br_t (sm_gt (n := 9) (by decide) y) h0)
theorem sy_rules {post : Int32 → Prop} {p : Int32} {K hx hy T : Nat → Int32} (hR : sm_R p K hx hy T) (P N F B : Nat → Int32) (h : post p) : ∀ d i (s : Int32), i + d = 10 → (∀ j, j < 32 → (bt s j = true ↔ (j < i ∧ bt p j = true))) → wY_rules_4 post T K hy P N F B (d + 1) s (nI i) := by
  intro d
  induction d with
  | zero =>
    intro i s hi hs
    have e : i = 10 := by omega
    subst e
    have es : s = p := by
      apply b_ext
      intro j hj
      rw [Bool.eq_iff_iff, hs j hj]
      refine ⟨fun z => z.2, fun z => ⟨?_, z⟩⟩
      rcases Nat.lt_or_ge j 10 with y | y
      · exact y
      · exact absurd (z.symm.trans (hR.2.1 j y)) (by decide)
    rw [es]
    exact br_t (nI_le (Nat.le_refl 10) (by decide)) h
  | succ d ih =>
    intro i s hi hs
    have hc : (nI i).toNatClampNeg = i := nI_clamp (by omega)
    have hin : vp_in (nI i) 10 := vp_in_nI (by omega) (by decide)
    refine br_f (nI_ge (b := 10) (by omega) (by decide)) ⟨hin, ?_⟩
    rw [hc, hR.1 i (by omega)]
    refine sm_br (fun t => nm_e (nm_r (nI_1 i) (ih (i + 1) _ (by omega) (fun j hj => ?_)))) (fun t => nm_r (nI_1 i) (ih (i + 1) _ (by omega) (fun j hj => ?_)))
    · rw [sm_orb s i (by omega) hj, Bool.or_eq_true, hs j hj, decide_eq_true_eq]
      constructor
      · rintro (z | z)
        · exact ⟨by omega, z.2⟩
        · subst z
          exact ⟨by omega, t⟩
      · rintro ⟨z, y⟩
        by_cases e : j = i
        · exact Or.inr e
        · exact Or.inl ⟨by omega, y⟩
    · rw [hs j hj]
      constructor
      · rintro ⟨z, y⟩
        exact ⟨by omega, y⟩
      · rintro ⟨z, y⟩
        by_cases e : j = i
        · subst e
          exact absurd y t
        · exact ⟨by omega, y⟩
