/-! Y: set, taken, support, stable, work, ones -/
theorem sy_set {post : Int32 → Prop} (v : SY) (x : Int32) (h : post (sm_b (sm_S 64 x))) : wpY_set post v x := by
  by_cases hs : sm_S 64 x
  · have h1 := sm_yes hs h
    obtain ⟨j, hj, rfl⟩ := hs
    exact br_f (nI_pos (by omega)) (br_f (nI_nlt (a := 63) (by omega) (by decide)) h1)
  · have h0 := sm_no hs h
    rcases sm_S_not (by decide) hs with z | ⟨z, y⟩
    · exact br_t z h0
    · exact br_f z (br_t (sm_gt (n := 63) (by decide) y) h0)
def sm_Y (pr : Nat → Bool) (T K H : Nat → Int32) : Prop := (∀ r, r < 10 → T r = sm_b (pr r = true)) ∧ (∀ r, r < 10 → K r = 1 → ∃ j, j < 32 ∧ H r = nI j)
theorem sy_tk38 {post : Int32 → Prop} {pr : Nat → Bool} {T K H : Nat → Int32} (hY : sm_Y pr T K H) (P N F B : Nat → Int32) (m : Int32) (r : Nat) (hr : r < 10) (z : Int32) (h : post (sm_b (pr r = true ∧ (N r &&& m) = 0 ∧ ¬ z = 0))) : wY_taken_38 post (nI r) m z T K H P N F B := by
  have hc : (nI r).toNatClampNeg = r := nI_clamp (by omega)
  have hi : vp_in (nI r) 10 := vp_in_nI hr (by decide)
  unfold wY_taken_38
  rw [hc, hY.1 r hr]
  exact ⟨hi, sm_br (fun t => br_c (fun e => sm_no (fun q => q.2.2 e) h) (fun e => ⟨hi, br_c (fun n => sm_yes ⟨t, n, e⟩ h) (fun n => sm_no (fun q => n q.2.1) h)⟩)) (fun t => sm_no (fun q => t q.1) h)⟩
theorem sy_taken {post : Int32 → Prop} {pr : Nat → Bool} {T K H : Nat → Int32} (hY : sm_Y pr T K H) (P N F B : Nat → Int32) (m : Int32) (r : Nat) (hr : r < 10) (h : post (sm_b (sm_tk pr K H N m r))) : wpY_taken post (T, K, H, P, N, F, B) (nI r) m := by
  have hc : (nI r).toNatClampNeg = r := nI_clamp (by omega)
  have hi : vp_in (nI r) 10 := vp_in_nI hr (by decide)
  have h1 : (K r = 0 ∨ (K r = 1 ∧ ¬ (m &&& ((1 : Int32) <<< (H r &&& 31))) = 0)) → wY_taken_38 post (nI r) m 1 T K H P N F B := by
    intro z
    refine sy_tk38 hY P N F B m r hr 1 ?_
    rw [sm_bc (d := sm_tk pr K H N m r) ⟨fun q => ⟨q.1, q.2.1, z⟩, fun q => ⟨q.1, q.2.1, by decide⟩⟩]
    exact h
  have h0 : ¬ (K r = 0 ∨ (K r = 1 ∧ ¬ (m &&& ((1 : Int32) <<< (H r &&& 31))) = 0)) → wY_taken_38 post (nI r) m 0 T K H P N F B := by
    intro z
    refine sy_tk38 hY P N F B m r hr 0 ?_
    rw [sm_bc (d := sm_tk pr K H N m r) ⟨fun q => absurd rfl q.2.2, fun q => absurd q.2.2 z⟩]
    exact h
  unfold wpY_taken
  dsimp only
  rw [hc]
  refine ⟨hi, br_c (fun k0 => h1 (Or.inl k0)) (fun k0 => ⟨hi, br_c (fun k1 => ⟨hi, ?_⟩) (fun k1 => h0 ?_)⟩)⟩
  · obtain ⟨j, hj, e⟩ := hY.2 r hr k1
    rw [e] at h1 h0 ⊢
    refine sm_e (sm_in1 m j hj) (fun z => h1 (Or.inr ⟨k1, fun q => ?_⟩)) (fun z => h0 ?_)
    · exact absurd (z.symm.trans ((sm_at m j hj).mp q)) (by decide)
    · rintro (q | q)
      · exact k0 q
      · exact q.2 ((sm_at m j hj).mpr (by cases hb : bt m j; rfl; exact absurd hb z))
  · rintro (q | q)
    · exact k0 q
    · exact k1 q.1
theorem sy_sup_in {post : Int32 → Prop} (J : Int32 → Int32 → Prop) {pr : Nat → Bool} {T K H : Nat → Int32} (hY : sm_Y pr T K H) (P N F B : Nat → Int32) (m x3 s0 : Int32) (hJ : J (sm_row (sm_tk pr K H N m) P H 10 s0) (x3 + 1)) : ∀ d i, i + d = 10 → wY_support_23 post J m x3 T K H P N F B (d + 1) (sm_row (sm_tk pr K H N m) P H i s0) (nI i) := by
  intro d
  induction d with
  | zero =>
    intro i hi
    have e : i = 10 := by omega
    subst e
    exact br_t (nI_le (Nat.le_refl 10) (by decide)) (nm_e hJ)
  | succ d ih =>
    intro i hi
    have hc : (nI i).toNatClampNeg = i := nI_clamp (by omega)
    have hin : vp_in (nI i) 10 := vp_in_nI (by omega) (by decide)
    have e := ih (i + 1) (by omega)
    refine br_f (nI_ge (b := 10) (by omega) (by decide)) (sy_taken hY P N F B m i (by omega) (sm_br (fun t => ⟨hin, br_c (fun hp => ⟨hin, fun y ey w ew => ?_⟩) (fun hp => fun w ew => ?_)⟩) (fun t => fun w ew => ?_)))
    · rw [hc] at hp ey
      rw [sm_row_t t hp] at e
      subst ey
      subst ew
      rw [nI_1]
      exact e
    · rw [hc] at hp
      rw [sm_row_f (fun z => hp z.2)] at e
      subst ew
      rw [nI_1]
      exact e
    · rw [sm_row_f (fun z => t z.1)] at e
      subst ew
      rw [nI_1]
      exact e
theorem sy_sup_out {post : Int32 → Prop} {pr : Nat → Bool} {T K H : Nat → Int32} (hY : sm_Y pr T K H) (P N F B : Nat → Int32) (m : Int32) (h : post (sm_sup pr K H P N m)) : ∀ d i, i + d = 6 → wY_support_14 post m T K H P N F B (d + 1) (sm_pas (sm_tk pr K H N m) P H i) (nI i) := by
  intro d
  induction d with
  | zero =>
    intro i hi
    have e : i = 6 := by omega
    subst e
    exact br_t (nI_le (Nat.le_refl 6) (by decide)) h
  | succ d ih =>
    intro i hi
    have e := ih (i + 1) (by omega)
    refine br_f (nI_ge (b := 6) (by omega) (by decide)) ⟨11, ?_⟩
    refine sy_sup_in _ hY P N F B m (nI i) (sm_pas (sm_tk pr K H N m) P H i) ?_ 10 0 rfl
    rw [nI_1]
    exact e
theorem sy_support {post : Int32 → Prop} {pr : Nat → Bool} {T K H : Nat → Int32} (hY : sm_Y pr T K H) (P N F B : Nat → Int32) (m : Int32) (h1 : sm_S 64 m → post (sm_sup pr K H P N m)) (h0 : ¬ sm_S 64 m → post (-1)) : wpY_support post (T, K, H, P, N, F, B) m := by
  unfold wpY_support
  dsimp only
  exact sy_set _ m (sm_br (fun z => ⟨7, sy_sup_out hY P N F B m (h1 z) 6 0 rfl⟩) h0)
theorem sy_st79 {post : Int32 → Prop} {J : Int32 → Int32 → Prop} (T K H P N F B : Nat → Int32) (m x3 z : Int32) (c d : Prop) (hz : z = sm_b d) (h : J (sm_b (c ∧ ¬ d)) (x3 + 1)) : wY_stable_79 post J m (sm_b c) x3 z T K H P N F B := by
  subst hz
  refine sm_br (fun hc => sm_br (fun hd => nm_e ?_) (fun hd => nm_e ?_)) (fun hc => nm_e ?_)
  · rw [sm_bf (fun q => q.2 hd)] at h
    exact h
  · rw [sm_bt ⟨hc, hd⟩] at h
    exact h
  · rw [sm_bf (fun q => hc q.1)] at h
    exact h
theorem sy_st25 {post : Int32 → Prop} {pr : Nat → Bool} {T K H : Nat → Int32} (hY : sm_Y pr T K H) (P N F B : Nat → Int32) (m : Int32) (A : Prop) (h : post (sm_b (A ∧ ∀ r, r < 10 → ¬ sm_ban pr K P N m r))) : ∀ d i, i + d = 10 → wY_stable_25 post m T K H P N F B (d + 1) (sm_b (A ∧ ∀ r, r < i → ¬ sm_ban pr K P N m r)) (nI i) := by
  intro d
  induction d with
  | zero =>
    intro i hi
    have e : i = 10 := by omega
    subst e
    exact br_t (nI_le (Nat.le_refl 10) (by decide)) ⟨sm_narr _, h⟩
  | succ d ih =>
    intro i hi
    have hc : (nI i).toNatClampNeg = i := nI_clamp (by omega)
    have hin : vp_in (nI i) 10 := vp_in_nI (by omega) (by decide)
    have e := ih (i + 1) (by omega)
    have e2 : wY_stable_25 post m T K H P N F B (d + 1) (sm_b ((A ∧ ∀ r, r < i → ¬ sm_ban pr K P N m r) ∧ ¬ sm_ban pr K P N m i)) (nI i + 1) := by
      rw [nI_1, sm_bc (d := A ∧ ∀ r, r < i + 1 → ¬ sm_ban pr K P N m r)]
      · exact e
      · exact ⟨fun q => ⟨q.1.1, lt_s q.1.2 q.2⟩, fun q => ⟨⟨q.1, fun r hr => q.2 r (by omega)⟩, q.2 i (by omega)⟩⟩
    have y1 : sm_ban pr K P N m i → wY_stable_79 post (wY_stable_25 post m T K H P N F B (d + 1)) m (sm_b (A ∧ ∀ r, r < i → ¬ sm_ban pr K P N m r)) (nI i) 1 T K H P N F B := by
      intro z
      exact sy_st79 T K H P N F B m (nI i) 1 _ (sm_ban pr K P N m i) (sm_bt z).symm e2
    have y0 : ¬ sm_ban pr K P N m i → wY_stable_79 post (wY_stable_25 post m T K H P N F B (d + 1)) m (sm_b (A ∧ ∀ r, r < i → ¬ sm_ban pr K P N m r)) (nI i) 0 T K H P N F B := by
      intro z
      exact sy_st79 T K H P N F B m (nI i) 0 _ (sm_ban pr K P N m i) (sm_bf z).symm e2
    refine br_f (nI_ge (b := 10) (by omega) (by decide)) ⟨hin, ?_⟩
    rw [hc, hY.1 i (by omega)]
    exact sm_br (fun t => ⟨hin, br_c (fun k => ⟨hin, br_c (fun a => ⟨hin, br_c (fun b => y1 ⟨t, k, a, b⟩) (fun b => y0 (fun q => b q.2.2.2))⟩) (fun a => y0 (fun q => a q.2.2.1))⟩) (fun k => y0 (fun q => k q.2.1))⟩) (fun t => y0 (fun q => t q.1))
theorem sy_stable {post : Int32 → Prop} {pr : Nat → Bool} {T K H : Nat → Int32} (hY : sm_Y pr T K H) (P N F B : Nat → Int32) (m : Int32) (h : post (sm_b (sm_S 64 m ∧ sm_st pr K H P N m))) : wpY_stable post (T, K, H, P, N, F, B) m := by
  have e : post (sm_b ((sm_S 64 m ∧ sm_sup pr K H P N m = m) ∧ ∀ r, r < 10 → ¬ sm_ban pr K P N m r)) := by
    rw [sm_bc (d := sm_S 64 m ∧ sm_st pr K H P N m) ⟨fun q => ⟨q.1.1, q.1.2, q.2⟩, fun q => ⟨⟨q.1, q.2.1⟩, q.2.2⟩⟩]
    exact h
  have t := sy_st25 hY P N F B m _ e 10 0 rfl
  have t1 : (sm_S 64 m ∧ sm_sup pr K H P N m = m) → ∃ n25 : Nat, wY_stable_25 post m T K H P N F B n25 1 0 := by
    intro z
    rw [sm_bt ⟨z, fun r hr => absurd hr (by omega)⟩] at t
    exact ⟨_, t⟩
  have t0 : ¬ (sm_S 64 m ∧ sm_sup pr K H P N m = m) → ∃ n25 : Nat, wY_stable_25 post m T K H P N F B n25 0 0 := by
    intro z
    rw [sm_bf (fun q => z q.1)] at t
    exact ⟨_, t⟩
  unfold wpY_stable
  dsimp only
  exact sy_set _ m (sm_br (fun z => sy_support hY P N F B m (fun _ => br_c (fun y => t1 ⟨z, y⟩) (fun y => t0 (fun q => y q.2))) (fun y => absurd z y)) (fun z => t0 (fun q => z q.1)))
theorem sy_stab {post : Int32 → Prop} {pr : Nat → Bool} {T K H : Nat → Int32} (hY : sm_Y pr T K H) (P N F B : Nat → Int32) (i : Nat) (hi : i < 64) (h : post (sm_b (sm_st pr K H P N (nI i)))) : wpY_stable post (T, K, H, P, N, F, B) (nI i) := by
  refine sy_stable hY P N F B (nI i) ?_
  rw [sm_bc (d := sm_st pr K H P N (nI i)) ⟨fun q => q.2, fun q => ⟨sm_in_S hi, q⟩⟩]
  exact h
theorem sy_wk {post : SY → Prop} {pr : Nat → Bool} {T K H : Nat → Int32} (hY : sm_Y pr T K H) (P N B : Nat → Int32) (h : ∀ F : Nat → Int32, (∀ j, j < 64 → F j = sm_b (sm_st pr K H P N (nI j))) → post (T, K, H, P, N, F, B)) : ∀ d i (F : Nat → Int32), i + d = 64 → (∀ j, j < i → F j = sm_b (sm_st pr K H P N (nI j))) → wY_work_2 post (d + 1) (nI i) T K H P N F B := by
  intro d
  induction d with
  | zero =>
    intro i F hi hF
    have e : i = 64 := by omega
    subst e
    exact br_t (nI_le (Nat.le_refl 64) (by decide)) (h F hF)
  | succ d ih =>
    intro i F hi hF
    have hc : (nI i).toNatClampNeg = i := nI_clamp (by omega)
    have hin : vp_in (nI i) 64 := vp_in_nI (by omega) (by decide)
    refine br_f (nI_ge (b := 64) (by omega) (by decide)) (sy_stab hY P N F B i (by omega) ⟨hin, fun y ey w ew => ?_⟩)
    rw [hc, sm_nar] at ey
    subst ey
    subst ew
    rw [nI_1]
    refine ih (i + 1) _ (by omega) (fun j hj => ?_)
    unfold upd
    by_cases e : j = i
    · rw [if_pos e, e]
    · rw [if_neg e]
      exact hF j (by omega)
theorem sy_work {post : SY → Prop} {pr : Nat → Bool} {T K H : Nat → Int32} (hY : sm_Y pr T K H) (P N F B : Nat → Int32) (h : ∀ F : Nat → Int32, (∀ j, j < 64 → F j = sm_b (sm_st pr K H P N (nI j))) → post (T, K, H, P, N, F, B)) : wpY_work post (T, K, H, P, N, F, B) :=
  ⟨65, sy_wk hY P N B h 64 0 F rfl lt_0⟩
