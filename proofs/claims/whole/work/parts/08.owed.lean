/-! what is owed: the relation (same kinds, positives, negatives; heads alike but for bans; the bit set is the table of flags) and a statement a method -/
def i_Rel (k : Nat) (u : SX) (v : SY) : Prop := ∃ (p : Int32) (K hx hy P N T F B : Nat → Int32), u = (p, K, hx, P, N) ∧ v = (T, K, hy, P, N, F, B) ∧ sm_R p K hx hy T
theorem i_up {k : Nat} {u : SX} {v : SY} (h : i_Rel k u v) : i_Rel (k + 5) u v := h
theorem i_vc0 : wpX_init (fun u => wpY_init (fun v => i_Rel 0 u v)) := by
  refine ⟨0, _, _, _, _, _, _, _, _, rfl, rfl, fun r _ => ?_, fun i _ => b_0 i, fun r _ _ => ⟨rfl, 0, by omega, rfl⟩⟩
  rw [b_0]
  exact (sm_bf (fun z => Bool.noConfusion z)).symm
theorem i_vc_add {k : Nat} {u : SX} {v : SY} (I : i_Rel k u v) (hk : k + 5 ≤ 2560) (v1 : Int32) (v2 : Int32) (v3 : Int32) (v4 : Int32) : wpX_add (fun r u' => wpY_add (fun r' v' => r' = r ∧ i_Rel (k + 5) u' v') v v1 v2 v3 v4) u v1 v2 v3 v4 := by
  obtain ⟨p, K, hx, hy, P, N, T, F, B, rfl, rfl, hR⟩ := I
  have ref : ¬ (sm_S 3 v1 ∧ (v1 = 2 ∨ sm_S 6 v2) ∧ sm_S 64 v3 ∧ sm_S 64 v4) → wpY_add (fun r' v' => r' = -1 ∧ i_Rel (k + 5) (p, K, hx, P, N) v') (T, K, hy, P, N, F, B) v1 v2 v3 v4 := by
    intro z
    exact sy_add T K hy P N F B v1 v2 v3 v4 (fun a b c d => absurd ⟨a, b, c, d⟩ z) (fun _ => ⟨rfl, p, K, hx, hy, P, N, T, F, B, rfl, rfl, hR⟩)
  obtain ⟨r, hr, ht, hf⟩ := sm_least p 10 0 rfl (fun j hj => absurd hj (by omega))
  have ok : sm_S 3 v1 → (v1 = 2 ∨ sm_S 6 v2) → sm_S 64 v3 → sm_S 64 v4 → wX_add_38 (fun r u' => wpY_add (fun r' v' => r' = r ∧ i_Rel (k + 5) u' v') (T, K, hy, P, N, F, B) v1 v2 v3 v4) v1 v2 v3 v4 p K hx P N := by
    intro a b c d
    unfold wX_add_38
    refine ⟨r + 1, sx_leastFree p K hx P N r hr ht hf ?_ r 0 (by omega)⟩
    have hc : (nI r).toNatClampNeg = r := nI_clamp (by omega)
    refine br_c (fun e => ?_) (fun e => ?_)
    · have e10 : r = 10 := (nI_eq (b := 10) (by omega) (by decide)).mp e
      exact sy_add T K hy P N F B v1 v2 v3 v4 (fun _ _ _ _ => ⟨r + 1, sy_add45 hR P N F B v1 v2 v3 v4 r hr ht hf (fun _ => ⟨rfl, p, K, hx, hy, P, N, T, F, B, rfl, rfl, hR⟩) (fun z => absurd z (by omega)) (fun z => absurd z (by omega)) r 0 (by omega)⟩) (fun z => absurd ⟨a, b, c, d⟩ z)
    · have h10 : r < 10 := by
        rcases Nat.lt_or_ge r 10 with z | z
        · exact z
        · have e10 : r = 10 := by omega
          rw [e10] at e
          exact absurd rfl e
      have hin : vp_in (nI r) 10 := vp_in_nI h10 (by decide)
      refine ⟨hin, fun K' eK => ⟨hin, fun H' eH => ⟨hin, fun P' eP => ⟨hin, fun N' eN p' ep => ?_⟩⟩⟩⟩
      rw [hc] at eK eH eP eN
      subst eK; subst eH; subst eP; subst eN; subst ep
      refine sy_add T K hy P N F B v1 v2 v3 v4 (fun _ _ _ _ => ⟨r + 1, sy_add45 hR P N F B v1 v2 v3 v4 r hr ht hf (fun z => absurd z (by omega)) (fun _ e2 => ⟨rfl, _, _, _, _, _, _, _, _, _, rfl, rfl, sm_R_add hR r h10 v1 v2 0 ?_⟩) (fun _ e2 => ⟨rfl, _, _, _, _, _, _, _, _, _, rfl, rfl, sm_R_add hR r h10 v1 v2 v2 ?_⟩) r 0 (by omega)⟩) (fun z => absurd ⟨a, b, c, d⟩ z)
      · rintro (z | z)
        · exact absurd (z.symm.trans e2) (by decide)
        · exact absurd (z.symm.trans e2) (by decide)
      · intro _
        obtain ⟨j, hj, z⟩ := b.resolve_left e2
        exact ⟨rfl, j, hj, z⟩
  unfold wpX_add
  dsimp only
  exact sx_isKind v1 (sm_br (fun a => sx_isSet v3 (sm_br (fun c => sx_isSet v4 (sm_br (fun d => br_c (fun e => ok a (Or.inl e) c d) (fun e => sx_isAtom v2 (sm_br (fun b => ok a (Or.inr b) c d) (fun b => ref (fun q => q.2.1.elim e b))))) (fun d => ref (fun q => d q.2.2.2)))) (fun c => ref (fun q => c q.2.2.1)))) (fun a => ref (fun q => a q.1)))
theorem i_vc_remove {k : Nat} {u : SX} {v : SY} (I : i_Rel k u v) (hk : k + 5 ≤ 2560) (v1 : Int32) : wpX_remove (fun r u' => wpY_remove (fun r' v' => r' = r ∧ i_Rel (k + 5) u' v') v v1) u v1 := by
  obtain ⟨p, K, hx, hy, P, N, T, F, B, rfl, rfl, hR⟩ := I
  unfold wpX_remove
  dsimp only
  refine sx_isRule p K hx P N v1 (fun r hr e hb => ?_) (fun z => ?_)
  · refine br_f (by decide) (nm_e ?_)
    refine sy_remove hR P N F B v1 (fun r' hr' e' hb' => ⟨rfl, _, _, _, _, _, _, _, _, _, rfl, rfl, ?_⟩) (fun z => absurd hb (z r hr e))
    rw [e']
    exact sm_R_rem hR r' hr'
  · refine br_t rfl ?_
    exact sy_remove hR P N F B v1 (fun r hr e hb => absurd hb (z r hr e)) (fun _ => ⟨rfl, _, _, _, _, _, _, _, _, _, rfl, rfl, hR⟩)
theorem i_vc_rules {k : Nat} {u : SX} {v : SY} (I : i_Rel k u v) (hk : k + 5 ≤ 2560) : wpX_rules (fun r => wpY_rules (fun r' => r' = r ∧ i_Rel (k + 5) u v) v) u := by
  have I' := i_up I
  obtain ⟨p, K, hx, hy, P, N, T, F, B, rfl, rfl, hR⟩ := I
  refine ⟨11, sy_rules hR P N F B ⟨rfl, I'⟩ 10 0 0 rfl (fun j hj => ?_)⟩
  rw [b_0]
  exact ⟨fun z => Bool.noConfusion z, fun z => absurd z.1 (by omega)⟩
theorem i_vc_support {k : Nat} {u : SX} {v : SY} (I : i_Rel k u v) (hk : k + 5 ≤ 2560) (v1 : Int32) : wpX_support (fun r => wpY_support (fun r' => r' = r ∧ i_Rel (k + 5) u v) v v1) u v1 := by
  have I' := i_up I
  obtain ⟨p, K, hx, hy, P, N, T, F, B, rfl, rfl, hR⟩ := I
  unfold wpX_support
  dsimp only
  refine sx_isSet v1 (sm_br (fun z => sx_supportIn p K hx P N p v1 ?_) (fun z => ?_))
  · exact sy_support (sm_RY hR) P N F B v1 (fun _ => ⟨sm_sup_c v1 (fun _ _ => rfl) (fun r hr e => (sm_RH hR r hr e).symm), I'⟩) (fun y => absurd z y)
  · exact sy_support (sm_RY hR) P N F B v1 (fun y => absurd y z) (fun _ => ⟨rfl, I'⟩)
theorem i_vc_stable {k : Nat} {u : SX} {v : SY} (I : i_Rel k u v) (hk : k + 5 ≤ 2560) (v1 : Int32) : wpX_stable (fun r => wpY_stable (fun r' => r' = r ∧ i_Rel (k + 5) u v) v v1) u v1 := by
  have I' := i_up I
  obtain ⟨p, K, hx, hy, P, N, T, F, B, rfl, rfl, hR⟩ := I
  have e : sm_st (bt p) K hx P N v1 ↔ sm_st (bt p) K hy P N v1 := sm_st_c v1 (fun _ _ => rfl) (sm_RH hR)
  unfold wpX_stable
  dsimp only
  refine sx_isSet v1 (sm_br (fun z => sx_isStableIn p K hx P N p v1 (sm_br (fun t => ?_) (fun t => ?_))) (fun z => ?_))
  · exact sy_stable (sm_RY hR) P N F B v1 ⟨sm_bt ⟨z, e.mp t⟩, I'⟩
  · exact sy_stable (sm_RY hR) P N F B v1 ⟨sm_bf (fun q => t (e.mpr q.2)), I'⟩
  · exact sy_stable (sm_RY hR) P N F B v1 ⟨sm_bf (fun q => z q.1), I'⟩
theorem i_vc_models {k : Nat} {u : SX} {v : SY} (I : i_Rel k u v) (hk : k + 5 ≤ 2560) : wpX_models (fun r => wpY_models (fun r' => r' = r ∧ i_Rel (k + 5) u v) v) u := by
  have I' := i_up I
  obtain ⟨p, K, hx, hy, P, N, T, F, B, rfl, rfl, hR⟩ := I
  unfold wpX_models
  dsimp only
  refine sx_stableSets p K hx P N p (fun f hf => ?_)
  obtain ⟨r, hX, hY⟩ := sl_models (sm_RY hR) F B (sm_RF hR hf) p hx
  exact ⟨65, hX _ ⟨65, hY _ ⟨rfl, I'⟩⟩⟩
theorem i_vc_model {k : Nat} {u : SX} {v : SY} (I : i_Rel k u v) (hk : k + 5 ≤ 2560) (v1 : Int32) : wpX_model (fun r => wpY_model (fun r' => r' = r ∧ i_Rel (k + 5) u v) v v1) u v1 := by
  have I' := i_up I
  obtain ⟨p, K, hx, hy, P, N, T, F, B, rfl, rfl, hR⟩ := I
  unfold wpX_model
  dsimp only
  refine sx_stableSets p K hx P N p (fun f hf => ?_)
  obtain ⟨r, hX, hY⟩ := sl_model (sm_RY hR) F B (sm_RF hR hf) p hx v1
  exact ⟨65, hX _ ⟨65, hY _ ⟨rfl, I'⟩⟩⟩
theorem i_vc_brave {k : Nat} {u : SX} {v : SY} (I : i_Rel k u v) (hk : k + 5 ≤ 2560) : wpX_brave (fun r => wpY_brave (fun r' => r' = r ∧ i_Rel (k + 5) u v) v) u := by
  have I' := i_up I
  obtain ⟨p, K, hx, hy, P, N, T, F, B, rfl, rfl, hR⟩ := I
  unfold wpX_brave
  dsimp only
  refine sx_stableSets p K hx P N p (fun f hf => ?_)
  obtain ⟨r, hX, hY⟩ := sl_brave (sm_RY hR) F B (sm_RF hR hf) p hx
  exact ⟨65, hX _ ⟨65, hY _ ⟨rfl, I'⟩⟩⟩
theorem i_vc_cautious {k : Nat} {u : SX} {v : SY} (I : i_Rel k u v) (hk : k + 5 ≤ 2560) : wpX_cautious (fun r => wpY_cautious (fun r' => r' = r ∧ i_Rel (k + 5) u v) v) u := by
  have I' := i_up I
  obtain ⟨p, K, hx, hy, P, N, T, F, B, rfl, rfl, hR⟩ := I
  unfold wpX_cautious
  dsimp only
  refine sx_stableSets p K hx P N p (fun f hf => ?_)
  obtain ⟨r, hX, hY⟩ := sl_cautious (sm_RY hR) F B (sm_RF hR hf) p hx
  exact ⟨65, hX _ ⟨65, hY _ ⟨rfl, I'⟩⟩⟩
theorem i_vc_find {k : Nat} {u : SX} {v : SY} (I : i_Rel k u v) (hk : k + 5 ≤ 2560) (v1 : Int32) (v2 : Int32) : wpX_find (fun r => wpY_find (fun r' => r' = r ∧ i_Rel (k + 5) u v) v v1 v2) u v1 v2 := by
  have I' := i_up I
  obtain ⟨p, K, hx, hy, P, N, T, F, B, rfl, rfl, hR⟩ := I
  unfold wpX_find
  dsimp only
  refine sx_isSet v1 (sm_br (fun a => sx_isSet v2 (sm_br (fun b => sx_stableSets p K hx P N p (fun f hf => ?_)) (fun b => ?_))) (fun a => ?_))
  · obtain ⟨r, hX, hY⟩ := sl_find (sm_RY hR) F B (sm_RF hR hf) p hx v1 v2 a b
    exact ⟨65, hX _ ⟨65, hY _ ⟨rfl, I'⟩⟩⟩
  · exact ⟨1, br_f (sm_n64 (i := 0) (by omega)) (sy_set _ v1 (sm_br (fun _ => sy_set _ v2 (sm_br (fun z => absurd z b) (fun _ => ⟨rfl, I'⟩))) (fun z => absurd a z)))⟩
  · exact ⟨1, br_f (sm_n64 (i := 0) (by omega)) (sy_set _ v1 (sm_br (fun z => absurd z a) (fun _ => ⟨rfl, I'⟩)))⟩
theorem i_vc_fewest {k : Nat} {u : SX} {v : SY} (I : i_Rel k u v) (hk : k + 5 ≤ 2560) : wpX_fewest (fun r => wpY_fewest (fun r' => r' = r ∧ i_Rel (k + 5) u v) v) u := by
  have I' := i_up I
  obtain ⟨p, K, hx, hy, P, N, T, F, B, rfl, rfl, hR⟩ := I
  unfold wpX_fewest
  dsimp only
  refine sx_stableSets p K hx P N p (fun f hf => ?_)
  obtain ⟨r, hX, hY⟩ := sl_fewest (sm_RY hR) F B (sm_RF hR hf) p hx
  exact ⟨65, hX _ ⟨65, hY _ ⟨rfl, I'⟩⟩⟩
theorem i_vc_maximal {k : Nat} {u : SX} {v : SY} (I : i_Rel k u v) (hk : k + 5 ≤ 2560) : wpX_maximal (fun r => wpY_maximal (fun r' v' => r' = r ∧ i_Rel (k + 5) u v') v) u := by
  obtain ⟨p, K, hx, hy, P, N, T, F, B, rfl, rfl, hR⟩ := I
  unfold wpX_maximal
  dsimp only
  refine sx_stableSets p K hx P N p (fun f hf => ?_)
  obtain ⟨r, hX, hY⟩ := sl_maximal T K hy P N B (fun j => sm_st (bt p) K hy P N (nI j)) (sm_RF hR hf) p hx
  refine ⟨65, hX _ ?_⟩
  unfold wpY_maximal
  dsimp only
  exact sy_work (sm_RY hR) P N F B (fun F1 hF1 => ⟨65, hY (⟨F1, hF1⟩, _) ⟨rfl, _, _, _, _, _, _, _, _, _, rfl, rfl, hR⟩⟩)
theorem i_vc_matters {k : Nat} {u : SX} {v : SY} (I : i_Rel k u v) (hk : k + 5 ≤ 2560) (v1 : Int32) : wpX_matters (fun r => wpY_matters (fun r' v' => r' = r ∧ i_Rel (k + 5) u v') v v1) u v1 := by
  obtain ⟨p, K, hx, hy, P, N, T, F, B, rfl, rfl, hR⟩ := I
  unfold wpX_matters
  dsimp only
  refine sx_isRule p K hx P N v1 (fun r hr e hb => ?_) (fun z => br_t rfl (sy_matters0 hR P N F B v1 z ⟨rfl, _, _, _, _, _, _, _, _, _, rfl, rfl, hR⟩))
  subst e
  refine br_f (by decide) (sx_stableSets p K hx P N p (fun f1 hf1 => sx_stableSets p K hx P N (p &&& (((1 : Int32) <<< (nI r &&& 31)) ^^^ (-1))) (fun f2 hf2 => ?_)))
  have g1 := sm_RF hR hf1
  have g2 := sm_RF hR hf2
  have hp' : ∀ j, j < 10 → (bt (p &&& (((1 : Int32) <<< (nI r &&& 31)) ^^^ (-1))) j = true ↔ bt p j = true ∧ j ≠ r) := by
    intro j hj
    rw [sm_clb p r (by omega) (by omega)]
    simp
  have hY := fun (post : Int32 → SY → Prop) => sy_matters (post := post) (sm_RY hR) P N F B r hr hb hp'
  refine br_c (fun e => hY _ (fun T' F' B' hT' => ⟨sm_bf ?_, _, _, _, _, _, _, _, _, _, rfl, rfl, sm_R_T hR hT'⟩)) (fun e => hY _ (fun T' F' B' hT' => ⟨sm_bt ?_, _, _, _, _, _, _, _, _, _, rfl, rfl, sm_R_T hR hT'⟩))
  · rintro ⟨j, hj, z⟩
    rw [e] at g1
    exact z ((g1 j hj).symm.trans (g2 j hj))
  · refine Classical.byContradiction fun q => e (sm_lx fun i hi => ?_)
    rw [Bool.eq_iff_iff, g1 i hi, g2 i hi]
    exact Classical.byContradiction fun z => q ⟨i, hi, z⟩
