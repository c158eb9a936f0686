/-! maximal and matters -/
def sm_ins (f : Int64) (m k : Nat) : Prop := sm_bl f k = true ∧ (nI m &&& (nI k ^^^ (-1))) = 0
theorem sx_ins {post : Int32 → Prop} (f : Int64) (m : Nat) (h : post (sm_b (∃ k, m < k ∧ k < 64 ∧ sm_ins f m k))) : ∀ d i, i + d = 64 → (∀ k, m < k → k < i → ¬ sm_ins f m k) → m < i → wX_isInsideAnother_4 post f (nI m) (d + 1) (nI i) := by
  intro d
  induction d with
  | zero =>
    intro i hi hb hm
    have e : i = 64 := by omega
    subst e
    exact br_t sm_64 (sm_no (fun ⟨k, h1, h2, z⟩ => hb k h1 h2 z) h)
  | succ d ih =>
    intro i hi hb hm
    have e : ¬ sm_ins f m i → wX_isInsideAnother_4 post f (nI m) (d + 1) (nI i + 1) := by
      intro z
      rw [nI_1]
      refine ih (i + 1) (by omega) (fun k h1 h2 => ?_) (by omega)
      by_cases q : k = i
      · rw [q]
        exact z
      · exact hb k h1 (by omega)
    exact br_f (sm_n64 (by omega)) (sx_contains f i (by omega) (sm_br (fun t => br_c (fun s => sm_yes ⟨i, hm, by omega, t, s⟩ h) (fun s => nm_e (e (fun z => s z.2)))) (fun t => nm_e (e (fun z => t z.1)))))
theorem sx_inside {post : Int32 → Prop} (f : Int64) (m : Nat) (hm : m < 64) (h : post (sm_b (∃ k, m < k ∧ k < 64 ∧ sm_ins f m k))) : wpX_isInsideAnother post f (nI m) := by
  refine nm_r (nI_1 m) ⟨63 - m + 1, sx_ins f m h (63 - m) (m + 1) (by omega) (fun k h1 h2 => by omega) (by omega)⟩
def sm_bad (S : Nat → Prop) (m k : Nat) : Prop := S k ∧ k ≠ m ∧ (nI m &&& (nI k ^^^ (-1))) = 0
theorem sy_max_in {post : Int32 → SY → Prop} (J : Int32 → Int32 → Prop) (T K H P N F B : Nat → Int32) (S : Nat → Prop) (hF : ∀ j, j < 64 → F j = sm_b (S j)) (x1 : Int32) (m : Nat) (hm : m < 64) (A : Prop) (h1 : (A ∧ ∀ k, k < 64 → ¬ sm_bad S m k) → J (x1 + 1) (nI (m + 1))) (h0 : ¬ (A ∧ ∀ k, k < 64 → ¬ sm_bad S m k) → J x1 (nI (m + 1))) : ∀ d i, i + d = 64 → wY_maximal_24 post J x1 (nI m) T K H P N F B (d + 1) (sm_b (A ∧ ∀ k, k < i → ¬ sm_bad S m k)) (nI i) := by
  intro d
  induction d with
  | zero =>
    intro i hi
    have e : i = 64 := by omega
    subst e
    exact br_t sm_64 (sm_br (fun z => nm_e (nm_r (nI_1 m) (h1 z))) (fun z => nm_r (nI_1 m) (h0 z)))
  | succ d ih =>
    intro i hi
    have hc : (nI i).toNatClampNeg = i := nI_clamp (by omega)
    have hin : vp_in (nI i) 64 := vp_in_nI (by omega) (by decide)
    have e := ih (i + 1) (by omega)
    have e1 : (A ∧ ∀ k, k < i → ¬ sm_bad S m k) → ¬ sm_bad S m i → wY_maximal_24 post J x1 (nI m) T K H P N F B (d + 1) 1 (nI i + 1) := by
      intro z y
      rw [sm_bt ⟨z.1, lt_s z.2 y⟩] at e
      rw [nI_1 i]
      exact e
    have e0 : ¬ ((A ∧ ∀ k, k < i → ¬ sm_bad S m k) ∧ ¬ sm_bad S m i) → wY_maximal_24 post J x1 (nI m) T K H P N F B (d + 1) 0 (nI i + 1) := by
      intro z
      rw [sm_bf (fun q => z ⟨⟨q.1, fun k hk => q.2 k (by omega)⟩, q.2 i (by omega)⟩)] at e
      rw [nI_1 i]
      exact e
    refine br_f (sm_n64 (by omega)) (sm_br (fun t => ⟨hin, ?_⟩) (fun t => nm_e (e0 (fun q => t q.1))))
    rw [hc, hF i (by omega)]
    refine sm_br (fun s => sm_e (nI_eq (by omega) (by omega)) (fun q => nm_e (e1 t (fun w => w.2.1 q))) (fun q => br_c (fun b => nm_e (e0 (fun w => w.2 ⟨s, q, b⟩))) (fun b => nm_e (e1 t (fun w => b w.2.2))))) (fun s => nm_e (e1 t (fun w => s w.1)))
theorem sl_maximal (T K H P N B : Nat → Int32) {f : Int64} (S : Nat → Prop) (hf : ∀ j, j < 64 → (sm_bl f j = true ↔ S j)) (p : Int32) (hx : Nat → Int32) :
    ∃ r, (∀ post : Int32 → Prop, post r → wX_maximal_14 post f p K hx P N 65 0 (nI 0)) ∧ (∀ q : { F : Nat → Int32 // ∀ j, j < 64 → F j = sm_b (S j) } × (Int32 → SY → Prop), q.2 r (T, K, H, P, N, q.1.1, B) → wY_maximal_8 q.2 T K H P N q.1.1 B 65 0 (nI 0)) := by
  refine sm_lk (σ := Int32) (fun r (post : Int32 → Prop) => post r) (fun r (q : { F : Nat → Int32 // ∀ j, j < 64 → F j = sm_b (S j) } × (Int32 → SY → Prop)) => q.2 r (T, K, H, P, N, q.1.1, B)) (fun post n i s => wX_maximal_14 post f p K hx P N n s (nI i)) (fun q n i s => wY_maximal_8 q.2 T K H P N q.1.1 B n s (nI i)) (fun _ _ => True) 64 ?_ ?_ 64 0 0 rfl trivial
  · intro s _
    exact ⟨s, fun post n h => br_t sm_64 h, fun post n h => br_t sm_64 h⟩
  · intro i s hi _
    refine Or.inr ?_
    have hc : (nI i).toNatClampNeg = i := nI_clamp (by omega)
    have hin : vp_in (nI i) 64 := vp_in_nI hi (by decide)
    have hq : S i → ((∃ k, i < k ∧ k < 64 ∧ sm_ins f i k) ↔ ¬ ∀ k, k < 64 → ¬ sm_bad S i k) := by
      intro _
      constructor
      · rintro ⟨k, h1, h2, h3⟩ z
        exact z k h2 ⟨(hf k h2).mp h3.1, by omega, h3.2⟩
      · intro z
        refine Classical.byContradiction fun y => z (fun k hk b => y ⟨k, ?_, hk, (hf k hk).mpr b.1, b.2.2⟩)
        have l := sm_sub i hi k hk b.2.2
        have l2 := b.2.1
        omega
    have hy : ∀ (F : Nat → Int32) (hF : ∀ j, j < 64 → F j = sm_b (S j)) (post : Int32 → SY → Prop) (n : Nat), ((S i ∧ ∀ k, k < 64 → ¬ sm_bad S i k) → wY_maximal_8 post T K H P N F B n (s + 1) (nI (i + 1))) → (¬ (S i ∧ ∀ k, k < 64 → ¬ sm_bad S i k) → wY_maximal_8 post T K H P N F B n s (nI (i + 1))) → wY_maximal_8 post T K H P N F B (n + 1) s (nI i) := by
      intro F hF post n a1 a0
      refine br_f (sm_n64 hi) ⟨hin, fun y ey => ⟨65, ?_⟩⟩
      rw [hc, hF i hi] at ey
      subst ey
      have t := sy_max_in (post := post) _ T K H P N F B S hF s i hi (S i) a1 a0 64 0 rfl
      rw [sm_bc (c := S i ∧ ∀ k, k < 0 → ¬ sm_bad S i k) (d := S i) ⟨fun q => q.1, fun q => ⟨q, lt_0⟩⟩] at t
      exact t
    by_cases c : S i ∧ ∀ k, k < 64 → ¬ sm_bad S i k
    · refine ⟨s + 1, trivial, fun post n h => br_f (sm_n64 hi) (sx_contains f i hi (sm_br (fun _ => sx_inside f i hi (sm_br (fun z => absurd c.2 ((hq c.1).mp z)) (fun z y ey w ew => ?_))) (fun z => absurd ((hf i hi).mpr c.1) z))), fun q n h => hy q.1.1 q.1.2 q.2 n (fun _ => h) (fun z => absurd c z)⟩
      subst ey; subst ew; rw [nI_1]; exact h
    · refine ⟨s, trivial, fun post n h => br_f (sm_n64 hi) (sx_contains f i hi (sm_br (fun t => sx_inside f i hi (sm_br (fun z w ew => ?_) (fun z => ?_))) (fun z w ew => ?_))), fun q n h => hy q.1.1 q.1.2 q.2 n (fun z => absurd z c) (fun _ => h)⟩
      · subst ew; rw [nI_1]; exact h
      · have t' := (hf i hi).mp t
        exact absurd ((hq t').mpr (fun q => c ⟨t', q⟩)) z
      · subst ew; rw [nI_1]; exact h
theorem sy_mt73 {post : Int32 → SY → Prop} (T K H P N F B : Nat → Int32) (h : post (sm_b (∃ k, k < 64 ∧ ¬ F k = B k)) (T, K, H, P, N, F, B)) : ∀ d i, i + d = 64 → wY_matters_73 post T K H P N F B (d + 1) (sm_b (∃ k, k < i ∧ ¬ F k = B k)) (nI i) := by
  intro d
  induction d with
  | zero =>
    intro i hi
    have e : i = 64 := by omega
    subst e
    exact br_t sm_64 ⟨sm_narr _, h⟩
  | succ d ih =>
    intro i hi
    have hc : (nI i).toNatClampNeg = i := nI_clamp (by omega)
    have hin : vp_in (nI i) 64 := vp_in_nI (by omega) (by decide)
    have e := ih (i + 1) (by omega)
    refine br_f (sm_n64 (by omega)) (sm_br (fun t => nm_r (nI_1 i) ?_) (fun t => ⟨hin, hin, br_c (fun q => nm_r (nI_1 i) ?_) (fun q => nm_r (nI_1 i) ?_)⟩))
    · obtain ⟨k, hk, z⟩ := t
      rw [sm_bt ⟨k, by omega, z⟩] at e
      exact e
    · rw [hc] at q
      rw [sm_bf] at e
      · exact e
      · rintro ⟨k, hk, z⟩
        by_cases y : k = i
        · rw [y] at z
          exact z q
        · exact t ⟨k, by omega, z⟩
    · rw [hc] at q
      rw [sm_bt ⟨i, by omega, q⟩] at e
      exact e
theorem sy_mt27 {post : Int32 → SY → Prop} {pr : Nat → Bool} {T K H P N F : Nat → Int32} (hF : ∀ j, j < 64 → ∃ c : Prop, F j = sm_b c) (r : Nat) (hr : r < 10) (hY : sm_Y pr (upd T r 0) K H) (h : ∀ F' B' : Nat → Int32, (∀ j, j < 64 → B' j = F j) → (∀ j, j < 64 → F' j = sm_b (sm_st pr K H P N (nI j))) → post (sm_b (∃ k, k < 64 ∧ ¬ F' k = B' k)) (upd (upd T r 0) r 1, K, H, P, N, F', B')) : ∀ d i (B : Nat → Int32), i + d = 64 → (∀ j, j < i → B j = F j) → wY_matters_27 post (nI r) (d + 1) (nI i) T K H P N F B := by
  have hcr : (nI r).toNatClampNeg = r := nI_clamp (by omega)
  have hinr : vp_in (nI r) 10 := vp_in_nI hr (by decide)
  intro d
  induction d with
  | zero =>
    intro i B hi hB
    have e : i = 64 := by omega
    subst e
    refine br_t sm_64 ⟨hinr, fun T2 e2 => ?_⟩
    rw [hcr, sm_nar0] at e2
    subst e2
    refine sy_work hY P N F B (fun F' hF' => ⟨hinr, fun T3 e3 => ⟨65, ?_⟩⟩)
    rw [hcr, sm_nar1] at e3
    subst e3
    have t := sy_mt73 (post := post) (upd (upd T r 0) r 1) K H P N F' B (h F' B hB hF') 64 0 rfl
    rw [sm_bf (fun ⟨k, hk, _⟩ => absurd hk (by omega))] at t
    exact t
  | succ d ih =>
    intro i B hi hB
    have hc : (nI i).toNatClampNeg = i := nI_clamp (by omega)
    have hin : vp_in (nI i) 64 := vp_in_nI (by omega) (by decide)
    refine br_f (sm_n64 (by omega)) ⟨hin, hin, fun y ey w ew => ?_⟩
    obtain ⟨c, hcF⟩ := hF i (by omega)
    rw [hc, hcF, sm_nar, ← hcF] at ey
    subst ey; subst ew
    rw [nI_1]
    refine ih (i + 1) _ (by omega) (fun j hj => ?_)
    unfold upd
    by_cases e : j = i
    · rw [if_pos e, e]
    · rw [if_neg e]
      exact hB j (by omega)
theorem sy_matters {post : Int32 → SY → Prop} {pr pr' : Nat → Bool} {T K H : Nat → Int32} (hY : sm_Y pr T K H) (P N F B : Nat → Int32) (r : Nat) (hr : r < 10) (hp : pr r = true) (hp' : ∀ j, j < 10 → (pr' j = true ↔ pr j = true ∧ j ≠ r))
    (h : ∀ T' F' B' : Nat → Int32, (∀ j, j < 10 → T' j = T j) → post (sm_b (∃ k, k < 64 ∧ ¬ (sm_st pr K H P N (nI k) ↔ sm_st pr' K H P N (nI k)))) (T', K, H, P, N, F', B')) : wpY_matters post (T, K, H, P, N, F, B) (nI r) := by
  have hcr : (nI r).toNatClampNeg = r := nI_clamp (by omega)
  have hinr : vp_in (nI r) 10 := vp_in_nI hr (by decide)
  have hY' : sm_Y pr' (upd T r 0) K H := by
    refine ⟨fun j hj => ?_, hY.2⟩
    unfold upd
    by_cases e : j = r
    · rw [if_pos e, sm_bf (fun z => ((hp' j hj).mp z).2 e)]
    · rw [if_neg e, hY.1 j hj]
      exact sm_bc ⟨fun z => (hp' j hj).mpr ⟨z, e⟩, fun z => ((hp' j hj).mp z).1⟩
  unfold wpY_matters
  dsimp only
  rw [hcr, hY.1 r hr]
  refine br_f (nI_pos (by omega)) (br_f (nI_nlt (a := 9) (by omega) (by decide)) ⟨hinr, sm_br (fun _ => ?_) (fun z => absurd hp z)⟩)
  refine sy_work hY P N F B (fun F1 hF1 => ⟨65, ?_⟩)
  refine sy_mt27 (fun j hj => ⟨_, hF1 j hj⟩) r hr hY' (fun F' B' hB' hF' => ?_) 64 0 B rfl lt_0
  rw [sm_bc (d := ∃ k, k < 64 ∧ ¬ (sm_st pr K H P N (nI k) ↔ sm_st pr' K H P N (nI k)))]
  · refine h _ _ _ (fun j hj => ?_)
    unfold upd
    by_cases e : j = r
    · rw [if_pos e, e, hY.1 r hr, sm_bt hp]
    · rw [if_neg e, if_neg e]
  · constructor
    · rintro ⟨k, hk, z⟩
      rw [hF' k hk, hB' k hk, hF1 k hk] at z
      exact ⟨k, hk, fun q => z (sm_bc q.symm)⟩
    · rintro ⟨k, hk, z⟩
      refine ⟨k, hk, fun q => z ?_⟩
      rw [hF' k hk, hB' k hk, hF1 k hk, sm_bi] at q
      exact q.symm
