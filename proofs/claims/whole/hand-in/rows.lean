section
/-! bits of ints (family bt of kit/rows/BITS) and of longs; the pure pictures -/
def bt (x : Int32) (i : Nat) : Bool := x.toBitVec.getLsbD i
theorem b_ext {x y : Int32} (h : ∀ i, i < 32 → bt x i = bt y i) : x = y := Int32.toBitVec_inj.mp (BitVec.eq_of_getLsbD_eq (fun i hi => h i hi))
theorem b_or (x y : Int32) (i : Nat) : bt (x ||| y) i = (bt x i || bt y i) := by unfold bt; rw [Int32.toBitVec_or, BitVec.getLsbD_or]
theorem b_and (x y : Int32) (i : Nat) : bt (x &&& y) i = (bt x i && bt y i) := by unfold bt; rw [Int32.toBitVec_and, BitVec.getLsbD_and]
theorem b_xor (x y : Int32) (i : Nat) : bt (x ^^^ y) i = (bt x i ^^ bt y i) := by unfold bt; rw [Int32.toBitVec_xor, BitVec.getLsbD_xor]
theorem b_big {x : Int32} {i : Nat} (h : 32 ≤ i) : bt x i = false := BitVec.getLsbD_of_ge _ _ h
theorem b_m1 : ∀ i, i < 32 → bt (-1) i = true := by decide +kernel
theorem b_0 (i : Nat) : bt 0 i = false := BitVec.getLsbD_zero
theorem s_l : ∀ n, n < 32 → ((nI n &&& 31).toBitVec.smod 32).toNat = n := by decide +kernel
theorem b_shl (n : Nat) (hn : n < 32) (x : Int32) {i : Nat} (hi : i < 32) : bt (x <<< (nI n &&& 31)) i = (decide (n ≤ i) && bt x (i - n)) := by
  unfold bt
  rw [Int32.toBitVec_shiftLeft]
  show (x.toBitVec <<< ((nI n &&& 31).toBitVec.smod 32).toNat).getLsbD i = _
  rw [s_l n hn, BitVec.getLsbD_shiftLeft]
  rcases Nat.lt_or_ge i n with h | h
  · simp [h, Nat.not_le.mpr h]
  · simp [hi, h, Nat.not_lt.mpr h]
theorem b_sshr (n : Nat) (hn : n < 32) (x : Int32) {i : Nat} (hi : i < 32) : bt (x >>> (nI n &&& 31)) i = if n + i < 32 then bt x (n + i) else bt x 31 := by
  unfold bt
  rw [Int32.toBitVec_shiftRight]
  show (x.toBitVec.sshiftRight ((nI n &&& 31).toBitVec.smod 32).toNat).getLsbD i = _
  rw [s_l n hn, BitVec.getLsbD_sshiftRight, BitVec.msb_eq_getLsbD_last]
  simp [hi]
theorem sm_b1 : ∀ i, i < 32 → bt 1 i = decide (i = 0) := by decide +kernel
theorem sm_one (n : Nat) (hn : n < 32) {i : Nat} (hi : i < 32) : bt ((1 : Int32) <<< (nI n &&& 31)) i = decide (i = n) := by
  rw [b_shl n hn 1 hi, sm_b1 (i - n) (by omega), Bool.eq_iff_iff]
  simp only [Bool.and_eq_true, decide_eq_true_eq]
  omega
theorem sm_if (b : Bool) (i : Nat) (hi : i < 32) : bt (if b = true then (1 : Int32) else 0) i = (b && decide (i = 0)) := by
  cases b
  · rw [if_neg (by decide), b_0, Bool.false_and]
  · rw [if_pos rfl, sm_b1 i hi, Bool.true_and]
theorem sm_in (x : Int32) (n : Nat) (hn : n < 32) : ((x >>> (nI n &&& 31)) &&& 1) = if bt x n = true then 1 else 0 := by
  apply b_ext
  intro i hi
  rw [b_and, b_sshr n hn x hi, sm_b1 i hi, sm_if _ i hi]
  by_cases h0 : i = 0
  · subst h0
    rw [Nat.add_zero, if_pos hn]
  · rw [decide_eq_false h0, Bool.and_false, Bool.and_false]
theorem sm_in1 (x : Int32) (n : Nat) (hn : n < 32) : ((x >>> (nI n &&& 31)) &&& 1) = 1 ↔ bt x n = true := by
  rw [sm_in x n hn]
  cases bt x n <;> decide
theorem sm_at (x : Int32) (n : Nat) (hn : n < 32) : (x &&& ((1 : Int32) <<< (nI n &&& 31))) = 0 ↔ bt x n = false := by
  constructor
  · intro h
    have t := b_and x ((1 : Int32) <<< (nI n &&& 31)) n
    rw [h, b_0, sm_one n hn hn, decide_eq_true rfl, Bool.and_true] at t
    exact t.symm
  · intro h
    apply b_ext
    intro i hi
    rw [b_and, sm_one n hn hi, b_0]
    by_cases e : i = n
    · subst e
      rw [h, Bool.false_and]
    · rw [decide_eq_false e, Bool.and_false]
theorem sm_orb (x : Int32) (n : Nat) (hn : n < 32) {i : Nat} (hi : i < 32) : bt (x ||| ((1 : Int32) <<< (nI n &&& 31))) i = (bt x i || decide (i = n)) := by
  rw [b_or, sm_one n hn hi]
theorem sm_clb (x : Int32) (n : Nat) (hn : n < 32) {i : Nat} (hi : i < 32) : bt (x &&& (((1 : Int32) <<< (nI n &&& 31)) ^^^ (-1))) i = (bt x i && !decide (i = n)) := by
  rw [b_and, b_xor, sm_one n hn hi, b_m1 i hi, Bool.xor_true]
def sm_bl (x : Int64) (i : Nat) : Bool := x.toBitVec.getLsbD i
theorem sm_lx {x y : Int64} (h : ∀ i, i < 64 → sm_bl x i = sm_bl y i) : x = y := Int64.toBitVec_inj.mp (BitVec.eq_of_getLsbD_eq (fun i hi => h i hi))
theorem sm_l0 (i : Nat) : sm_bl 0 i = false := BitVec.getLsbD_zero
theorem sm_l1 : ∀ i, i < 64 → sm_bl 1 i = decide (i = 0) := by decide +kernel
theorem sm_lc : ∀ k, k < 64 → (((nI k).toInt64 &&& 63).toBitVec.smod 64).toNat = k := by decide +kernel
theorem sm_lor (x y : Int64) (i : Nat) : sm_bl (x ||| y) i = (sm_bl x i || sm_bl y i) := by
  unfold sm_bl
  rw [Int64.toBitVec_or, BitVec.getLsbD_or]
theorem sm_land (x y : Int64) (i : Nat) : sm_bl (x &&& y) i = (sm_bl x i && sm_bl y i) := by
  unfold sm_bl
  rw [Int64.toBitVec_and, BitVec.getLsbD_and]
theorem sm_lsh (k : Nat) (hk : k < 64) {i : Nat} (hi : i < 64) : sm_bl ((1 : Int64) <<< ((nI k).toInt64 &&& 63)) i = decide (i = k) := by
  have t := sm_l1 (i - k) (by omega)
  unfold sm_bl at t ⊢
  rw [Int64.toBitVec_shiftLeft, BitVec.getLsbD_shiftLeft', sm_lc k hk, t, Bool.eq_iff_iff]
  simp only [Bool.and_eq_true, Bool.not_eq_true', decide_eq_true_eq, decide_eq_false_iff_not]
  omega
theorem sm_lsr (x : Int64) (k : Nat) (hk : k < 64) {i : Nat} (hi : i < 64) : sm_bl (x >>> ((nI k).toInt64 &&& 63)) i = if k + i < 64 then sm_bl x (k + i) else sm_bl x 63 := by
  unfold sm_bl
  rw [Int64.toBitVec_shiftRight, BitVec.getLsbD_sshiftRight', sm_lc k hk, BitVec.msb_eq_getLsbD_last]
  simp [hi]
theorem sm_lif (b : Bool) (i : Nat) (hi : i < 64) : sm_bl (if b = true then (1 : Int64) else 0) i = (b && decide (i = 0)) := by
  cases b
  · rw [if_neg (by decide), sm_l0, Bool.false_and]
  · rw [if_pos rfl, sm_l1 i hi, Bool.true_and]
theorem sm_lin (x : Int64) (k : Nat) (hk : k < 64) : ((x >>> ((nI k).toInt64 &&& 63)) &&& 1) = if sm_bl x k = true then 1 else 0 := by
  apply sm_lx
  intro i hi
  rw [sm_land, sm_lsr x k hk hi, sm_l1 i hi, sm_lif _ i hi]
  by_cases h0 : i = 0
  · subst h0
    rw [Nat.add_zero, if_pos hk]
  · rw [decide_eq_false h0, Bool.and_false, Bool.and_false]
theorem sm_lin1 (x : Int64) (k : Nat) (hk : k < 64) : ((x >>> ((nI k).toInt64 &&& 63)) &&& 1) = 1 ↔ sm_bl x k = true := by
  rw [sm_lin x k hk]
  cases sm_bl x k <;> decide
/-! one bit of an int is 0 or 1 -/
theorem sm_a1 (x : Int32) : x &&& 1 = 0 ∨ x &&& 1 = 1 := by
  have h : ∀ b : Bool, bt x 0 = b → x &&& 1 = if b = true then 1 else 0 := by
    intro b hb
    apply b_ext
    intro i hi
    rw [b_and, sm_b1 i hi, sm_if _ i hi]
    by_cases h0 : i = 0
    · subst h0
      rw [hb]
    · rw [decide_eq_false h0, Bool.and_false, Bool.and_false]
  cases hb : bt x 0
  · exact Or.inl (h false hb)
  · exact Or.inr (h true hb)
/-! a set inside another one is no greater -/
theorem sm_sub : ∀ m, m < 64 → ∀ k, k < 64 → (nI m &&& (nI k ^^^ (-1))) = 0 → m ≤ k := by decide +kernel
/-! the pure pictures -/
def sm_tk (pr : Nat → Bool) (K H N : Nat → Int32) (m : Int32) (r : Nat) : Prop :=
  pr r = true ∧ (N r &&& m) = 0 ∧ (K r = 0 ∨ (K r = 1 ∧ ¬ (m &&& ((1 : Int32) <<< (H r &&& 31))) = 0))
noncomputable def sm_row (T : Nat → Prop) (P H : Nat → Int32) : Nat → Int32 → Int32
  | 0, s => s
  | r + 1, s => @ite _ (T r ∧ (P r &&& (sm_row T P H r s ^^^ (-1))) = 0) (Classical.propDecidable _) (sm_row T P H r s ||| ((1 : Int32) <<< (H r &&& 31))) (sm_row T P H r s)
theorem sm_row_t {T : Nat → Prop} {P H : Nat → Int32} {r : Nat} {s : Int32} (h : T r) (h2 : (P r &&& (sm_row T P H r s ^^^ (-1))) = 0) : sm_row T P H (r + 1) s = sm_row T P H r s ||| ((1 : Int32) <<< (H r &&& 31)) := if_pos ⟨h, h2⟩
theorem sm_row_f {T : Nat → Prop} {P H : Nat → Int32} {r : Nat} {s : Int32} (h : ¬ (T r ∧ (P r &&& (sm_row T P H r s ^^^ (-1))) = 0)) : sm_row T P H (r + 1) s = sm_row T P H r s := if_neg h
theorem sm_row_0 {T : Nat → Prop} {P H : Nat → Int32} {s : Int32} : sm_row T P H 0 s = s := rfl
theorem sm_row_c {T T' : Nat → Prop} {P H H' : Nat → Int32} (n : Nat) (hT : ∀ r, r < n → (T r ↔ T' r)) (hH : ∀ r, r < n → T r → H r = H' r) (s : Int32) : sm_row T P H n s = sm_row T' P H' n s := by
  induction n with
  | zero => rfl
  | succ n ih =>
    have e := ih (fun r hr => hT r (by omega)) (fun r hr => hH r (by omega))
    by_cases c : T n ∧ (P n &&& (sm_row T P H n s ^^^ (-1))) = 0
    · have c2 := c.2
      rw [e] at c2
      rw [sm_row_t c.1 c.2, sm_row_t ((hT n (by omega)).mp c.1) c2, e, hH n (by omega) c.1]
    · have c' : ¬ (T' n ∧ (P n &&& (sm_row T' P H' n s ^^^ (-1))) = 0) := by
        rw [← e]
        intro z
        exact c ⟨(hT n (by omega)).mpr z.1, z.2⟩
      rw [sm_row_f c, sm_row_f c', e]
noncomputable def sm_pas (T : Nat → Prop) (P H : Nat → Int32) : Nat → Int32
  | 0 => 0
  | n + 1 => sm_row T P H 10 (sm_pas T P H n)
theorem sm_pas_c {T T' : Nat → Prop} {P H H' : Nat → Int32} (n : Nat) (hT : ∀ r, r < 10 → (T r ↔ T' r)) (hH : ∀ r, r < 10 → T r → H r = H' r) : sm_pas T P H n = sm_pas T' P H' n := by
  induction n with
  | zero => rfl
  | succ n ih =>
    show sm_row T P H 10 (sm_pas T P H n) = sm_row T' P H' 10 (sm_pas T' P H' n)
    rw [ih, sm_row_c 10 hT hH]
noncomputable def sm_sup (pr : Nat → Bool) (K H P N : Nat → Int32) (m : Int32) : Int32 := sm_pas (sm_tk pr K H N m) P H 6
def sm_ban (pr : Nat → Bool) (K P N : Nat → Int32) (m : Int32) (r : Nat) : Prop :=
  pr r = true ∧ K r = 2 ∧ (P r &&& (m ^^^ (-1))) = 0 ∧ (N r &&& m) = 0
def sm_st (pr : Nat → Bool) (K H P N : Nat → Int32) (m : Int32) : Prop :=
  sm_sup pr K H P N m = m ∧ ∀ r, r < 10 → ¬ sm_ban pr K P N m r
theorem sm_tk_c {pr pr' : Nat → Bool} {K H H' N : Nat → Int32} {m : Int32} {r : Nat} (hp : pr r = pr' r) (hH : K r = 0 ∨ K r = 1 → H r = H' r) : sm_tk pr K H N m r ↔ sm_tk pr' K H' N m r := by
  unfold sm_tk
  rw [hp]
  constructor
  · rintro ⟨a, b, c | ⟨c, d⟩⟩
    · exact ⟨a, b, Or.inl c⟩
    · exact ⟨a, b, Or.inr ⟨c, by rw [← hH (Or.inr c)]; exact d⟩⟩
  · rintro ⟨a, b, c | ⟨c, d⟩⟩
    · exact ⟨a, b, Or.inl c⟩
    · exact ⟨a, b, Or.inr ⟨c, by rw [hH (Or.inr c)]; exact d⟩⟩
theorem sm_sup_c {pr pr' : Nat → Bool} {K H H' P N : Nat → Int32} (m : Int32) (hp : ∀ r, r < 10 → pr r = pr' r) (hH : ∀ r, r < 10 → K r = 0 ∨ K r = 1 → H r = H' r) : sm_sup pr K H P N m = sm_sup pr' K H' P N m := by
  refine sm_pas_c 6 (fun r hr => sm_tk_c (hp r hr) (hH r hr)) (fun r hr t => hH r hr ?_)
  rcases t.2.2 with c | c
  · exact Or.inl c
  · exact Or.inr c.1
theorem sm_st_c {pr pr' : Nat → Bool} {K H H' P N : Nat → Int32} (m : Int32) (hp : ∀ r, r < 10 → pr r = pr' r) (hH : ∀ r, r < 10 → K r = 0 ∨ K r = 1 → H r = H' r) : sm_st pr K H P N m ↔ sm_st pr' K H' P N m := by
  have hb : ∀ r, r < 10 → (sm_ban pr K P N m r ↔ sm_ban pr' K P N m r) := by
    intro r hr
    unfold sm_ban
    rw [hp r hr]
  unfold sm_st
  rw [sm_sup_c m hp hH]
  constructor
  · exact fun z => ⟨z.1, fun r hr c => z.2 r hr ((hb r hr).mpr c)⟩
  · exact fun z => ⟨z.1, fun r hr c => z.2 r hr ((hb r hr).mp c)⟩
end
section
/-! 0 or 1 for a proposition; two loops in lockstep; cases of an int -/
noncomputable def sm_b (c : Prop) : Int32 := @ite _ c (Classical.propDecidable c) 1 0
theorem sm_bt {c : Prop} (h : c) : sm_b c = 1 := if_pos h
theorem sm_bf {c : Prop} (h : ¬ c) : sm_b c = 0 := if_neg h
theorem sm_bc {c d : Prop} (h : c ↔ d) : sm_b c = sm_b d := by rw [propext h]
theorem sm_b0 {c : Prop} : sm_b c = 0 ↔ ¬ c := by
  by_cases h : c
  · rw [sm_bt h]
    exact ⟨fun z => absurd z (by decide), fun z => absurd h z⟩
  · rw [sm_bf h]
    exact ⟨fun _ => h, fun _ => rfl⟩
theorem sm_b1i {c : Prop} : sm_b c = 1 ↔ c := by
  by_cases h : c
  · rw [sm_bt h]
    exact ⟨fun _ => h, fun _ => rfl⟩
  · rw [sm_bf h]
    exact ⟨fun z => absurd z (by decide), fun z => absurd z h⟩
theorem sm_bi {c d : Prop} : sm_b c = sm_b d ↔ (c ↔ d) := by
  constructor
  · intro e
    by_cases h : c
    · rw [sm_bt h] at e
      exact ⟨fun _ => sm_b1i.mp e.symm, fun _ => h⟩
    · rw [sm_bf h] at e
      exact ⟨fun z => absurd z h, fun z => absurd z (sm_b0.mp e.symm)⟩
  · exact sm_bc
theorem sm_e {c d A B : Prop} (e : c ↔ d) (f : d → A) (g : ¬ d → B) : (c → A) ∧ (¬ c → B) := ⟨fun h => f (e.mp h), fun h => g (fun z => h (e.mpr z))⟩
theorem sm_lk {σ PX PY : Type} (aX : Int32 → PX → Prop) (aY : Int32 → PY → Prop) (WX : PX → Nat → Nat → σ → Prop) (WY : PY → Nat → Nat → σ → Prop) (I : Nat → σ → Prop) (e : Nat)
    (hx : ∀ s, I e s → ∃ r, (∀ post n, aX r post → WX post (n + 1) e s) ∧ (∀ post n, aY r post → WY post (n + 1) e s))
    (hs : ∀ i s, i < e → I i s → (∃ r, (∀ post n, aX r post → WX post (n + 1) i s) ∧ (∀ post n, aY r post → WY post (n + 1) i s)) ∨
      (∃ s', I (i + 1) s' ∧ (∀ post n, WX post n (i + 1) s' → WX post (n + 1) i s) ∧ (∀ post n, WY post n (i + 1) s' → WY post (n + 1) i s))) :
    ∀ d i s, i + d = e → I i s → ∃ r, (∀ post, aX r post → WX post (d + 1) i s) ∧ (∀ post, aY r post → WY post (d + 1) i s) := by
  intro d
  induction d with
  | zero =>
    intro i s hi hI
    have hie : i = e := by omega
    subst hie
    obtain ⟨r, a, b⟩ := hx s hI
    exact ⟨r, fun p h => a p 0 h, fun p h => b p 0 h⟩
  | succ d ih =>
    intro i s hi hI
    rcases hs i s (by omega) hI with ⟨r, a, b⟩ | ⟨s', hI', a, b⟩
    · exact ⟨r, fun p h => a p (d + 1) h, fun p h => b p (d + 1) h⟩
    · obtain ⟨r, c, f⟩ := ih (i + 1) s' (by omega) hI'
      exact ⟨r, fun p h => a p _ (c p h), fun p h => b p _ (f p h)⟩
/-! a set of atoms: one of 0 .. 63 -/
theorem sm_ix (x : Int32) {n : Nat} (hn : n < 2 ^ 31) : x < 0 ∨ nI n ≤ x ∨ ∃ j : Nat, j < n ∧ x = nI j := by
  by_cases h : x < 0
  · exact Or.inl h
  · obtain ⟨j, hj, rfl⟩ := nI_of h
    rcases Nat.lt_or_ge j n with z | z
    · exact Or.inr (Or.inr ⟨j, z, rfl⟩)
    · exact Or.inr (Or.inl (nI_le z hj))
def sm_S (n : Nat) (x : Int32) : Prop := ∃ j : Nat, j < n ∧ x = nI j
theorem sm_S_not {n : Nat} (hn : n < 2 ^ 31) {x : Int32} (h : ¬ sm_S n x) : x < 0 ∨ (¬ x < 0 ∧ nI n ≤ x) := by
  rcases sm_ix x hn with z | z | z
  · exact Or.inl z
  · refine Or.inr ⟨fun q => ?_, z⟩
    have a : (0 : Int32) ≤ nI n := nI_pos' hn
    have b : (0 : Int32) ≤ x := Int32.le_trans a z
    exact absurd q (Int32.not_lt.mpr b)
  · exact absurd z h
theorem sm_least (p : Int32) : ∀ d i : Nat, i + d = 10 → (∀ j, j < i → bt p j = true) → ∃ r, r ≤ 10 ∧ (∀ j, j < r → bt p j = true) ∧ (r < 10 → bt p r = false) := by
  intro d
  induction d with
  | zero => exact fun i hi h => ⟨i, by omega, h, fun z => by omega⟩
  | succ d ih =>
    intro i hi h
    cases hb : bt p i
    · exact ⟨i, by omega, h, fun _ => hb⟩
    · refine ih (i + 1) (by omega) (fun j hj => ?_)
      rcases Nat.lt_or_ge j i with z | z
      · exact h j z
      · have e : j = i := by omega
        rw [e]
        exact hb
theorem sm_nf {x : Bool} (h : ¬ x = false) : x = true := by cases x <;> first | rfl | exact absurd rfl h
theorem sm_yes {post : Int32 → Prop} {c : Prop} (hc : c) (h : post (sm_b c)) : post 1 := by
  rw [sm_bt hc] at h
  exact h
theorem sm_no {post : Int32 → Prop} {c : Prop} (hc : ¬ c) (h : post (sm_b c)) : post 0 := by
  rw [sm_bf hc] at h
  exact h
theorem sm_br {c A B : Prop} (f : c → B) (g : ¬ c → A) : (sm_b c = 0 → A) ∧ (¬ sm_b c = 0 → B) :=
  ⟨fun h => g (sm_b0.mp h), fun h => f (Classical.byContradiction fun z => h (sm_b0.mpr z))⟩
theorem sm_in_S {n j : Nat} (h : j < n) : sm_S n (nI j) := ⟨j, h, rfl⟩
theorem sm_Sr {n : Nat} (hn : n < 2 ^ 31) {j : Nat} (hj : j < 2 ^ 31) : sm_S n (nI j) ↔ j < n := by
  constructor
  · rintro ⟨i, hi, e⟩
    rw [nI_eq hj (by omega)] at e
    omega
  · exact sm_in_S
theorem sm_gt {n : Nat} (hn : n + 1 < 2 ^ 31) {x : Int32} (h : nI (n + 1) ≤ x) : nI n < x := Int32.lt_of_lt_of_le (nI_lt (Nat.lt_succ_self n) hn) h
theorem sm_nar0 : vp_nar .boolean 0 = 0 := by rfl
theorem sm_nar1 : vp_nar .boolean 1 = 1 := by rfl
theorem sm_nar (c : Prop) : vp_nar .boolean (sm_b c) = sm_b c := by
  by_cases h : c
  · rw [sm_bt h]
    exact sm_nar1
  · rw [sm_bf h]
    exact sm_nar0
theorem sm_narr (c : Prop) : narrow .boolean (.int (sm_b c)) = .int (sm_b c) := by
  by_cases h : c
  · rw [sm_bt h]
    rfl
  · rw [sm_bf h]
    rfl
end
section
/-! X: the small private methods, the support, the bans, the stable sets -/
theorem sx_isSet {post : Int32 → Prop} (x : Int32) (h : post (sm_b (sm_S 64 x))) : wpX_isSet post x := by
  by_cases hs : sm_S 64 x
  · have h1 := sm_yes hs h
    obtain ⟨j, hj, rfl⟩ := hs
    exact br_f (nI_pos (by omega)) (br_f (nI_ge (b := 64) hj (by decide)) h1)
  · have h0 := sm_no hs h
    rcases sm_S_not (by decide) hs with z | ⟨z, y⟩
    · exact br_t z h0
    · exact br_f z (br_t y h0)
theorem sx_isAtom {post : Int32 → Prop} (x : Int32) (h : post (sm_b (sm_S 6 x))) : wpX_isAtom post x := by
  by_cases hs : sm_S 6 x
  · have h1 := sm_yes hs h
    obtain ⟨j, hj, rfl⟩ := hs
    exact br_f (nI_pos (by omega)) (br_f (nI_ge (b := 6) hj (by decide)) h1)
  · have h0 := sm_no hs h
    rcases sm_S_not (by decide) hs with z | ⟨z, y⟩
    · exact br_t z h0
    · exact br_f z (br_t y h0)
theorem sm_S3 (x : Int32) : sm_S 3 x ↔ x = 0 ∨ x = 1 ∨ x = 2 := by
  constructor
  · rintro ⟨j, hj, rfl⟩
    have e : j = 0 ∨ j = 1 ∨ j = 2 := by omega
    rcases e with rfl | rfl | rfl
    · exact Or.inl rfl
    · exact Or.inr (Or.inl rfl)
    · exact Or.inr (Or.inr rfl)
  · rintro (rfl | rfl | rfl)
    · exact ⟨0, by omega, rfl⟩
    · exact ⟨1, by omega, rfl⟩
    · exact ⟨2, by omega, rfl⟩
theorem sx_isKind {post : Int32 → Prop} (x : Int32) (h : post (sm_b (sm_S 3 x))) : wpX_isKind post x :=
  br_c (fun e => sm_yes ((sm_S3 x).mpr (Or.inl e)) h) fun e0 =>
    br_c (fun e => sm_yes ((sm_S3 x).mpr (Or.inr (Or.inl e))) h) fun e1 =>
      br_c (fun e => sm_yes ((sm_S3 x).mpr (Or.inr (Or.inr e))) h) fun e2 =>
        sm_no (fun z => by rcases (sm_S3 x).mp z with y | y | y; exact e0 y; exact e1 y; exact e2 y) h
theorem sx_isIn {post : Int32 → Prop} (x : Int32) (n : Nat) (hn : n < 32) (h : post (sm_b (bt x n = true))) : wpX_isIn post x (nI n) :=
  sm_e (sm_in1 x n hn) (fun z => sm_yes z h) (fun z => sm_no z h)
theorem sx_isRule {post : Int32 → Prop} (p : Int32) (K H P N : Nat → Int32) (x : Int32) (h1 : ∀ r, r < 10 → x = nI r → bt p r = true → post 1) (h0 : (∀ r, r < 10 → x = nI r → ¬ bt p r = true) → post 0) : wpX_isRule post (p, K, H, P, N) x := by
  unfold wpX_isRule
  dsimp only
  by_cases hs : sm_S 10 x
  · obtain ⟨j, hj, rfl⟩ := hs
    refine br_f (nI_pos (by omega)) (br_f (nI_ge (b := 10) hj (by decide)) (sx_isIn p j (by omega) (sm_br (fun z => h1 j hj rfl z) (fun z => h0 ?_))))
    intro r hr e
    rw [nI_eq (by omega) (by omega)] at e
    rw [← e]
    exact z
  · have h00 := h0 (fun r hr e => absurd ⟨r, hr, e⟩ hs)
    rcases sm_S_not (by decide) hs with z | ⟨z, y⟩
    · exact br_t z h00
    · exact br_f z (br_t y h00)
theorem sx_fits {post : Int32 → Prop} (a b m : Int32) (h : post (sm_b ((a &&& (m ^^^ (-1))) = 0 ∧ (b &&& m) = 0))) : wpX_fits post a b m :=
  br_c (fun e => br_c (fun e2 => sm_yes ⟨e, e2⟩ h) (fun e2 => sm_no (fun z => e2 z.2) h)) (fun e => sm_no (fun z => e z.1) h)
theorem sx_leastFree {post : Int32 → Prop} (p : Int32) (K H P N : Nat → Int32) (r : Nat) (hr : r ≤ 10) (ht : ∀ j, j < r → bt p j = true) (hf : r < 10 → bt p r = false) (h : post (nI r)) : ∀ d i, i + d = r → wX_leastFree_2 post p K H P N (d + 1) (nI i) := by
  intro d
  induction d with
  | zero =>
    intro i hi
    have e : i = r := by omega
    subst e
    rcases Nat.lt_or_ge i 10 with z | z
    · exact br_f (nI_ge (b := 10) z (by decide)) (sx_isIn p i (by omega) (sm_br (fun t => absurd (t.symm.trans (hf z)) (by decide)) (fun _ => h)))
    · exact br_t (nI_le (a := 10) z (by omega)) h
  | succ d ih =>
    intro i hi
    refine br_f (nI_ge (b := 10) (by omega) (by decide)) (sx_isIn p i (by omega) (sm_br (fun t => fun y ey => ?_) (fun t => absurd (ht i (by omega)) t)))
    subst ey
    rw [nI_1]
    exact ih (i + 1) (by omega)
theorem sx_takesPart {post : Int32 → Prop} (p : Int32) (K H P N : Nat → Int32) (q m : Int32) (r : Nat) (hr : r < 10) (h : post (sm_b (sm_tk (bt q) K H N m r))) : wpX_takesPart post (p, K, H, P, N) q (nI r) m := by
  have hc : (nI r).toNatClampNeg = r := nI_clamp (by omega)
  have hi : vp_in (nI r) 10 := vp_in_nI hr (by decide)
  unfold wpX_takesPart
  dsimp only
  rw [hc]
  refine sm_e (sm_at q r (by omega)) (fun z => sm_no (fun t => Bool.noConfusion (t.1.symm.trans z)) h) (fun z => ⟨hi, br_c (fun hn => ⟨hi, br_c (fun h0 => sm_yes ⟨sm_nf z, hn, Or.inl h0⟩ h) (fun h0 => ⟨hi, br_c (fun h1 => ⟨hi, br_c (fun hh => sm_no (fun t => ?_) h) (fun hh => sm_yes ⟨sm_nf z, hn, Or.inr ⟨h1, hh⟩⟩ h)⟩) (fun h1 => sm_no (fun t => ?_) h)⟩)⟩) (fun hn => sm_no (fun t => hn t.2.1) h)⟩)
  · rcases t.2.2 with y | y
    · exact h0 y
    · exact y.2 hh
  · rcases t.2.2 with y | y
    · exact h0 y
    · exact h1 y.1
theorem sx_sup_in {post : Int32 → Prop} (J : Int32 → Int32 → Prop) (p : Int32) (K H P N : Nat → Int32) (q m x4 s0 : Int32) (hJ : J (sm_row (sm_tk (bt q) K H N m) P H 10 s0) (x4 + 1)) : ∀ d i, i + d = 10 → wX_supportIn_15 post J q m x4 p K H P N (d + 1) (sm_row (sm_tk (bt q) K H N m) P H i s0) (nI i) := by
  intro d
  induction d with
  | zero =>
    intro i hi
    have e : i = 10 := by omega
    subst e
    exact br_t (nI_le (Nat.le_refl 10) (by decide)) (nm_e hJ)
  | succ d ih =>
    intro i hi
    have hc : (nI i).toNatClampNeg = i := nI_clamp (by omega)
    have hin : vp_in (nI i) 10 := vp_in_nI (by omega) (by decide)
    have e := ih (i + 1) (by omega)
    refine br_f (nI_ge (b := 10) (by omega) (by decide)) (sx_takesPart p K H P N q m i (by omega) (sm_br (fun t => ⟨hin, br_c (fun hp => ⟨hin, fun y ey w ew => ?_⟩) (fun hp => fun w ew => ?_)⟩) (fun t => fun w ew => ?_)))
    · rw [hc] at hp ey
      rw [sm_row_t t hp] at e
      subst ey
      subst ew
      rw [nI_1]
      exact e
    · rw [hc] at hp
      rw [sm_row_f (fun z => hp z.2)] at e
      subst ew
      rw [nI_1]
      exact e
    · rw [sm_row_f (fun z => t z.1)] at e
      subst ew
      rw [nI_1]
      exact e
theorem sx_sup_out {post : Int32 → Prop} (p : Int32) (K H P N : Nat → Int32) (q m : Int32) (h : post (sm_sup (bt q) K H P N m)) : ∀ d i, i + d = 6 → wX_supportIn_5 post q m p K H P N (d + 1) (sm_pas (sm_tk (bt q) K H N m) P H i) (nI i) := by
  intro d
  induction d with
  | zero =>
    intro i hi
    have e : i = 6 := by omega
    subst e
    exact br_t (nI_le (Nat.le_refl 6) (by decide)) h
  | succ d ih =>
    intro i hi
    have e := ih (i + 1) (by omega)
    refine br_f (nI_ge (b := 6) (by omega) (by decide)) ⟨11, ?_⟩
    refine sx_sup_in _ p K H P N q m (nI i) (sm_pas (sm_tk (bt q) K H N m) P H i) ?_ 10 0 rfl
    rw [nI_1]
    exact e
theorem sx_supportIn {post : Int32 → Prop} (p : Int32) (K H P N : Nat → Int32) (q m : Int32) (h : post (sm_sup (bt q) K H P N m)) : wpX_supportIn post (p, K, H, P, N) q m :=
  ⟨7, sx_sup_out p K H P N q m h 6 0 rfl⟩
theorem sx_ban {post : Int32 → Prop} (p : Int32) (K H P N : Nat → Int32) (q m : Int32) (h : post (sm_b (∃ r, r < 10 ∧ sm_ban (bt q) K P N m r))) : ∀ d i, i + d = 10 → (∀ r, r < i → ¬ sm_ban (bt q) K P N m r) → wX_isBannedIn_2 post q m p K H P N (d + 1) (nI i) := by
  intro d
  induction d with
  | zero =>
    intro i hi hb
    have e : i = 10 := by omega
    subst e
    exact br_t (nI_le (Nat.le_refl 10) (by decide)) (sm_no (fun ⟨r, hr, z⟩ => hb r hr z) h)
  | succ d ih =>
    intro i hi hb
    have hc : (nI i).toNatClampNeg = i := nI_clamp (by omega)
    have hin : vp_in (nI i) 10 := vp_in_nI (by omega) (by decide)
    have e : ¬ sm_ban (bt q) K P N m i → wX_isBannedIn_2 post q m p K H P N (d + 1) (nI i + 1) := by
      intro z
      rw [nI_1]
      exact ih (i + 1) (by omega) (lt_s hb z)
    refine br_f (nI_ge (b := 10) (by omega) (by decide)) (sx_isIn q i (by omega) (sm_br (fun t => ⟨hin, br_c (fun hk => ⟨hin, hin, sx_fits _ _ m (sm_br (fun hf => ?_) (fun hf => nm_e (e ?_)))⟩) (fun hk => nm_e (e ?_))⟩) (fun t => nm_e (e ?_))))
    · rw [hc] at hk hf
      exact sm_yes ⟨i, by omega, t, hk, hf.1, hf.2⟩ h
    · rw [hc] at hf
      exact fun z => hf z.2.2
    · rw [hc] at hk
      exact fun z => hk z.2.1
    · exact fun z => t z.1
theorem sx_isBannedIn {post : Int32 → Prop} (p : Int32) (K H P N : Nat → Int32) (q m : Int32) (h : post (sm_b (∃ r, r < 10 ∧ sm_ban (bt q) K P N m r))) : wpX_isBannedIn post (p, K, H, P, N) q m :=
  ⟨11, sx_ban p K H P N q m h 10 0 rfl lt_0⟩
theorem sx_isStableIn {post : Int32 → Prop} (p : Int32) (K H P N : Nat → Int32) (q m : Int32) (h : post (sm_b (sm_st (bt q) K H P N m))) : wpX_isStableIn post (p, K, H, P, N) q m := by
  unfold wpX_isStableIn
  dsimp only
  refine sx_supportIn p K H P N q m (br_c (fun e => sx_isBannedIn p K H P N q m (sm_br (fun z => sm_no (fun t => ?_) h) (fun z => sm_yes ⟨e, fun r hr t => z ⟨r, hr, t⟩⟩ h))) (fun e => sm_no (fun t => e t.1) h))
  obtain ⟨r, hr, y⟩ := z
  exact t.2 r hr y
theorem sx_sets {post : Int64 → Prop} (p : Int32) (K H P N : Nat → Int32) (q : Int32) (h : ∀ f : Int64, (∀ j, j < 64 → (sm_bl f j = true ↔ sm_st (bt q) K H P N (nI j))) → post f) : ∀ d i (f : Int64), i + d = 64 → (∀ j, j < 64 → (sm_bl f j = true ↔ (j < i ∧ sm_st (bt q) K H P N (nI j)))) → wX_stableSets_5 post q p K H P N (d + 1) f (nI i) := by
  intro d
  induction d with
  | zero =>
    intro i f hi hf
    have e : i = 64 := by omega
    subst e
    exact br_t (nI_le (Nat.le_refl 64) (by decide)) (h f (fun j hj => (hf j hj).trans ⟨fun z => z.2, fun z => ⟨hj, z⟩⟩))
  | succ d ih =>
    intro i f hi hf
    refine br_f (nI_ge (b := 64) (by omega) (by decide)) (sx_isStableIn p K H P N q (nI i) (sm_br (fun t => fun y ey w ew => ?_) (fun t => fun w ew => ?_)))
    · subst ey
      subst ew
      rw [nI_1]
      refine ih (i + 1) _ (by omega) (fun j hj => ?_)
      rw [sm_lor, sm_lsh i (by omega) hj, Bool.or_eq_true, hf j hj, decide_eq_true_eq]
      constructor
      · rintro (z | z)
        · exact ⟨by omega, z.2⟩
        · subst z
          exact ⟨by omega, t⟩
      · rintro ⟨z, y⟩
        by_cases e : j = i
        · exact Or.inr e
        · exact Or.inl ⟨by omega, y⟩
    · subst ew
      rw [nI_1]
      refine ih (i + 1) _ (by omega) (fun j hj => ?_)
      rw [hf j hj]
      constructor
      · rintro ⟨z, y⟩
        exact ⟨by omega, y⟩
      · rintro ⟨z, y⟩
        by_cases e : j = i
        · subst e
          exact absurd y t
        · exact ⟨by omega, y⟩
theorem sx_stableSets {post : Int64 → Prop} (p : Int32) (K H P N : Nat → Int32) (q : Int32) (h : ∀ f : Int64, (∀ j, j < 64 → (sm_bl f j = true ↔ sm_st (bt q) K H P N (nI j))) → post f) : wpX_stableSets post (p, K, H, P, N) q := by
  refine ⟨65, sx_sets p K H P N q h 64 0 0 rfl (fun j hj => ?_)⟩
  rw [sm_l0]
  exact ⟨fun z => Bool.noConfusion z, fun z => absurd z.1 (by omega)⟩
theorem sx_contains {post : Int32 → Prop} (f : Int64) (n : Nat) (hn : n < 64) (h : post (sm_b (sm_bl f n = true))) : wpX_contains post f (nI n) :=
  sm_e (sm_lin1 f n hn) (fun z => sm_yes z h) (fun z => sm_no z h)
end
section
/-! Y: set, taken, support, stable, work, ones -/
theorem sy_set {post : Int32 → Prop} (v : SY) (x : Int32) (h : post (sm_b (sm_S 64 x))) : wpY_set post v x := by
  by_cases hs : sm_S 64 x
  · have h1 := sm_yes hs h
    obtain ⟨j, hj, rfl⟩ := hs
    exact br_f (nI_pos (by omega)) (br_f (nI_nlt (a := 63) (by omega) (by decide)) h1)
  · have h0 := sm_no hs h
    rcases sm_S_not (by decide) hs with z | ⟨z, y⟩
    · exact br_t z h0
    · exact br_f z (br_t (sm_gt (n := 63) (by decide) y) h0)
def sm_Y (pr : Nat → Bool) (T K H : Nat → Int32) : Prop := (∀ r, r < 10 → T r = sm_b (pr r = true)) ∧ (∀ r, r < 10 → K r = 1 → ∃ j, j < 32 ∧ H r = nI j)
theorem sy_tk38 {post : Int32 → Prop} {pr : Nat → Bool} {T K H : Nat → Int32} (hY : sm_Y pr T K H) (P N F B : Nat → Int32) (m : Int32) (r : Nat) (hr : r < 10) (z : Int32) (h : post (sm_b (pr r = true ∧ (N r &&& m) = 0 ∧ ¬ z = 0))) : wY_taken_38 post (nI r) m z T K H P N F B := by
  have hc : (nI r).toNatClampNeg = r := nI_clamp (by omega)
  have hi : vp_in (nI r) 10 := vp_in_nI hr (by decide)
  unfold wY_taken_38
  rw [hc, hY.1 r hr]
  exact ⟨hi, sm_br (fun t => br_c (fun e => sm_no (fun q => q.2.2 e) h) (fun e => ⟨hi, br_c (fun n => sm_yes ⟨t, n, e⟩ h) (fun n => sm_no (fun q => n q.2.1) h)⟩)) (fun t => sm_no (fun q => t q.1) h)⟩
theorem sy_taken {post : Int32 → Prop} {pr : Nat → Bool} {T K H : Nat → Int32} (hY : sm_Y pr T K H) (P N F B : Nat → Int32) (m : Int32) (r : Nat) (hr : r < 10) (h : post (sm_b (sm_tk pr K H N m r))) : wpY_taken post (T, K, H, P, N, F, B) (nI r) m := by
  have hc : (nI r).toNatClampNeg = r := nI_clamp (by omega)
  have hi : vp_in (nI r) 10 := vp_in_nI hr (by decide)
  have h1 : (K r = 0 ∨ (K r = 1 ∧ ¬ (m &&& ((1 : Int32) <<< (H r &&& 31))) = 0)) → wY_taken_38 post (nI r) m 1 T K H P N F B := by
    intro z
    refine sy_tk38 hY P N F B m r hr 1 ?_
    rw [sm_bc (d := sm_tk pr K H N m r) ⟨fun q => ⟨q.1, q.2.1, z⟩, fun q => ⟨q.1, q.2.1, by decide⟩⟩]
    exact h
  have h0 : ¬ (K r = 0 ∨ (K r = 1 ∧ ¬ (m &&& ((1 : Int32) <<< (H r &&& 31))) = 0)) → wY_taken_38 post (nI r) m 0 T K H P N F B := by
    intro z
    refine sy_tk38 hY P N F B m r hr 0 ?_
    rw [sm_bc (d := sm_tk pr K H N m r) ⟨fun q => absurd rfl q.2.2, fun q => absurd q.2.2 z⟩]
    exact h
  unfold wpY_taken
  dsimp only
  rw [hc]
  refine ⟨hi, br_c (fun k0 => h1 (Or.inl k0)) (fun k0 => ⟨hi, br_c (fun k1 => ⟨hi, ?_⟩) (fun k1 => h0 ?_)⟩)⟩
  · obtain ⟨j, hj, e⟩ := hY.2 r hr k1
    rw [e] at h1 h0 ⊢
    refine sm_e (sm_in1 m j hj) (fun z => h1 (Or.inr ⟨k1, fun q => ?_⟩)) (fun z => h0 ?_)
    · exact absurd (z.symm.trans ((sm_at m j hj).mp q)) (by decide)
    · rintro (q | q)
      · exact k0 q
      · exact q.2 ((sm_at m j hj).mpr (by cases hb : bt m j; rfl; exact absurd hb z))
  · rintro (q | q)
    · exact k0 q
    · exact k1 q.1
theorem sy_sup_in {post : Int32 → Prop} (J : Int32 → Int32 → Prop) {pr : Nat → Bool} {T K H : Nat → Int32} (hY : sm_Y pr T K H) (P N F B : Nat → Int32) (m x3 s0 : Int32) (hJ : J (sm_row (sm_tk pr K H N m) P H 10 s0) (x3 + 1)) : ∀ d i, i + d = 10 → wY_support_23 post J m x3 T K H P N F B (d + 1) (sm_row (sm_tk pr K H N m) P H i s0) (nI i) := by
  intro d
  induction d with
  | zero =>
    intro i hi
    have e : i = 10 := by omega
    subst e
    exact br_t (nI_le (Nat.le_refl 10) (by decide)) (nm_e hJ)
  | succ d ih =>
    intro i hi
    have hc : (nI i).toNatClampNeg = i := nI_clamp (by omega)
    have hin : vp_in (nI i) 10 := vp_in_nI (by omega) (by decide)
    have e := ih (i + 1) (by omega)
    refine br_f (nI_ge (b := 10) (by omega) (by decide)) (sy_taken hY P N F B m i (by omega) (sm_br (fun t => ⟨hin, br_c (fun hp => ⟨hin, fun y ey w ew => ?_⟩) (fun hp => fun w ew => ?_)⟩) (fun t => fun w ew => ?_)))
    · rw [hc] at hp ey
      rw [sm_row_t t hp] at e
      subst ey
      subst ew
      rw [nI_1]
      exact e
    · rw [hc] at hp
      rw [sm_row_f (fun z => hp z.2)] at e
      subst ew
      rw [nI_1]
      exact e
    · rw [sm_row_f (fun z => t z.1)] at e
      subst ew
      rw [nI_1]
      exact e
theorem sy_sup_out {post : Int32 → Prop} {pr : Nat → Bool} {T K H : Nat → Int32} (hY : sm_Y pr T K H) (P N F B : Nat → Int32) (m : Int32) (h : post (sm_sup pr K H P N m)) : ∀ d i, i + d = 6 → wY_support_14 post m T K H P N F B (d + 1) (sm_pas (sm_tk pr K H N m) P H i) (nI i) := by
  intro d
  induction d with
  | zero =>
    intro i hi
    have e : i = 6 := by omega
    subst e
    exact br_t (nI_le (Nat.le_refl 6) (by decide)) h
  | succ d ih =>
    intro i hi
    have e := ih (i + 1) (by omega)
    refine br_f (nI_ge (b := 6) (by omega) (by decide)) ⟨11, ?_⟩
    refine sy_sup_in _ hY P N F B m (nI i) (sm_pas (sm_tk pr K H N m) P H i) ?_ 10 0 rfl
    rw [nI_1]
    exact e
theorem sy_support {post : Int32 → Prop} {pr : Nat → Bool} {T K H : Nat → Int32} (hY : sm_Y pr T K H) (P N F B : Nat → Int32) (m : Int32) (h1 : sm_S 64 m → post (sm_sup pr K H P N m)) (h0 : ¬ sm_S 64 m → post (-1)) : wpY_support post (T, K, H, P, N, F, B) m := by
  unfold wpY_support
  dsimp only
  exact sy_set _ m (sm_br (fun z => ⟨7, sy_sup_out hY P N F B m (h1 z) 6 0 rfl⟩) h0)
theorem sy_st79 {post : Int32 → Prop} {J : Int32 → Int32 → Prop} (T K H P N F B : Nat → Int32) (m x3 z : Int32) (c d : Prop) (hz : z = sm_b d) (h : J (sm_b (c ∧ ¬ d)) (x3 + 1)) : wY_stable_79 post J m (sm_b c) x3 z T K H P N F B := by
  subst hz
  refine sm_br (fun hc => sm_br (fun hd => nm_e ?_) (fun hd => nm_e ?_)) (fun hc => nm_e ?_)
  · rw [sm_bf (fun q => q.2 hd)] at h
    exact h
  · rw [sm_bt ⟨hc, hd⟩] at h
    exact h
  · rw [sm_bf (fun q => hc q.1)] at h
    exact h
theorem sy_st25 {post : Int32 → Prop} {pr : Nat → Bool} {T K H : Nat → Int32} (hY : sm_Y pr T K H) (P N F B : Nat → Int32) (m : Int32) (A : Prop) (h : post (sm_b (A ∧ ∀ r, r < 10 → ¬ sm_ban pr K P N m r))) : ∀ d i, i + d = 10 → wY_stable_25 post m T K H P N F B (d + 1) (sm_b (A ∧ ∀ r, r < i → ¬ sm_ban pr K P N m r)) (nI i) := by
  intro d
  induction d with
  | zero =>
    intro i hi
    have e : i = 10 := by omega
    subst e
    exact br_t (nI_le (Nat.le_refl 10) (by decide)) ⟨sm_narr _, h⟩
  | succ d ih =>
    intro i hi
    have hc : (nI i).toNatClampNeg = i := nI_clamp (by omega)
    have hin : vp_in (nI i) 10 := vp_in_nI (by omega) (by decide)
    have e := ih (i + 1) (by omega)
    have e2 : wY_stable_25 post m T K H P N F B (d + 1) (sm_b ((A ∧ ∀ r, r < i → ¬ sm_ban pr K P N m r) ∧ ¬ sm_ban pr K P N m i)) (nI i + 1) := by
      rw [nI_1, sm_bc (d := A ∧ ∀ r, r < i + 1 → ¬ sm_ban pr K P N m r)]
      · exact e
      · exact ⟨fun q => ⟨q.1.1, lt_s q.1.2 q.2⟩, fun q => ⟨⟨q.1, fun r hr => q.2 r (by omega)⟩, q.2 i (by omega)⟩⟩
    have y1 : sm_ban pr K P N m i → wY_stable_79 post (wY_stable_25 post m T K H P N F B (d + 1)) m (sm_b (A ∧ ∀ r, r < i → ¬ sm_ban pr K P N m r)) (nI i) 1 T K H P N F B := by
      intro z
      exact sy_st79 T K H P N F B m (nI i) 1 _ (sm_ban pr K P N m i) (sm_bt z).symm e2
    have y0 : ¬ sm_ban pr K P N m i → wY_stable_79 post (wY_stable_25 post m T K H P N F B (d + 1)) m (sm_b (A ∧ ∀ r, r < i → ¬ sm_ban pr K P N m r)) (nI i) 0 T K H P N F B := by
      intro z
      exact sy_st79 T K H P N F B m (nI i) 0 _ (sm_ban pr K P N m i) (sm_bf z).symm e2
    refine br_f (nI_ge (b := 10) (by omega) (by decide)) ⟨hin, ?_⟩
    rw [hc, hY.1 i (by omega)]
    exact sm_br (fun t => ⟨hin, br_c (fun k => ⟨hin, br_c (fun a => ⟨hin, br_c (fun b => y1 ⟨t, k, a, b⟩) (fun b => y0 (fun q => b q.2.2.2))⟩) (fun a => y0 (fun q => a q.2.2.1))⟩) (fun k => y0 (fun q => k q.2.1))⟩) (fun t => y0 (fun q => t q.1))
theorem sy_stable {post : Int32 → Prop} {pr : Nat → Bool} {T K H : Nat → Int32} (hY : sm_Y pr T K H) (P N F B : Nat → Int32) (m : Int32) (h : post (sm_b (sm_S 64 m ∧ sm_st pr K H P N m))) : wpY_stable post (T, K, H, P, N, F, B) m := by
  have e : post (sm_b ((sm_S 64 m ∧ sm_sup pr K H P N m = m) ∧ ∀ r, r < 10 → ¬ sm_ban pr K P N m r)) := by
    rw [sm_bc (d := sm_S 64 m ∧ sm_st pr K H P N m) ⟨fun q => ⟨q.1.1, q.1.2, q.2⟩, fun q => ⟨⟨q.1, q.2.1⟩, q.2.2⟩⟩]
    exact h
  have t := sy_st25 hY P N F B m _ e 10 0 rfl
  have t1 : (sm_S 64 m ∧ sm_sup pr K H P N m = m) → ∃ n25 : Nat, wY_stable_25 post m T K H P N F B n25 1 0 := by
    intro z
    rw [sm_bt ⟨z, fun r hr => absurd hr (by omega)⟩] at t
    exact ⟨_, t⟩
  have t0 : ¬ (sm_S 64 m ∧ sm_sup pr K H P N m = m) → ∃ n25 : Nat, wY_stable_25 post m T K H P N F B n25 0 0 := by
    intro z
    rw [sm_bf (fun q => z q.1)] at t
    exact ⟨_, t⟩
  unfold wpY_stable
  dsimp only
  exact sy_set _ m (sm_br (fun z => sy_support hY P N F B m (fun _ => br_c (fun y => t1 ⟨z, y⟩) (fun y => t0 (fun q => y q.2))) (fun y => absurd z y)) (fun z => t0 (fun q => z q.1)))
theorem sy_stab {post : Int32 → Prop} {pr : Nat → Bool} {T K H : Nat → Int32} (hY : sm_Y pr T K H) (P N F B : Nat → Int32) (i : Nat) (hi : i < 64) (h : post (sm_b (sm_st pr K H P N (nI i)))) : wpY_stable post (T, K, H, P, N, F, B) (nI i) := by
  refine sy_stable hY P N F B (nI i) ?_
  rw [sm_bc (d := sm_st pr K H P N (nI i)) ⟨fun q => q.2, fun q => ⟨sm_in_S hi, q⟩⟩]
  exact h
theorem sy_wk {post : SY → Prop} {pr : Nat → Bool} {T K H : Nat → Int32} (hY : sm_Y pr T K H) (P N B : Nat → Int32) (h : ∀ F : Nat → Int32, (∀ j, j < 64 → F j = sm_b (sm_st pr K H P N (nI j))) → post (T, K, H, P, N, F, B)) : ∀ d i (F : Nat → Int32), i + d = 64 → (∀ j, j < i → F j = sm_b (sm_st pr K H P N (nI j))) → wY_work_2 post (d + 1) (nI i) T K H P N F B := by
  intro d
  induction d with
  | zero =>
    intro i F hi hF
    have e : i = 64 := by omega
    subst e
    exact br_t (nI_le (Nat.le_refl 64) (by decide)) (h F hF)
  | succ d ih =>
    intro i F hi hF
    have hc : (nI i).toNatClampNeg = i := nI_clamp (by omega)
    have hin : vp_in (nI i) 64 := vp_in_nI (by omega) (by decide)
    refine br_f (nI_ge (b := 64) (by omega) (by decide)) (sy_stab hY P N F B i (by omega) ⟨hin, fun y ey w ew => ?_⟩)
    rw [hc, sm_nar] at ey
    subst ey
    subst ew
    rw [nI_1]
    refine ih (i + 1) _ (by omega) (fun j hj => ?_)
    unfold upd
    by_cases e : j = i
    · rw [if_pos e, e]
    · rw [if_neg e]
      exact hF j (by omega)
theorem sy_work {post : SY → Prop} {pr : Nat → Bool} {T K H : Nat → Int32} (hY : sm_Y pr T K H) (P N F B : Nat → Int32) (h : ∀ F : Nat → Int32, (∀ j, j < 64 → F j = sm_b (sm_st pr K H P N (nI j))) → post (T, K, H, P, N, F, B)) : wpY_work post (T, K, H, P, N, F, B) :=
  ⟨65, sy_wk hY P N B h 64 0 F rfl lt_0⟩
end
section
/-! models, model, brave, cautious, find, fewest: both loops in lockstep -/
theorem sm_64 : (64 : Int32) ≤ nI 64 := nI_le (Nat.le_refl 64) (by decide)
theorem sm_n64 {i : Nat} (h : i < 64) : ¬ (64 : Int32) ≤ nI i := nI_ge (b := 64) h (by decide)
def sm_F (f : Int64) (pr : Nat → Bool) (K H P N : Nat → Int32) : Prop := ∀ j, j < 64 → (sm_bl f j = true ↔ sm_st pr K H P N (nI j))
theorem sl_models {pr : Nat → Bool} {T K H P N : Nat → Int32} (hY : sm_Y pr T K H) (F B : Nat → Int32) {f : Int64} (hf : sm_F f pr K H P N) (p : Int32) (hx : Nat → Int32) :
    ∃ r, (∀ post : Int32 → Prop, post r → wX_models_14 post f p K hx P N 65 0 (nI 0)) ∧ (∀ post : Int32 → Prop, post r → wY_models_4 post T K H P N F B 65 0 (nI 0)) := by
  refine sm_lk (σ := Int32) (fun r (post : Int32 → Prop) => post r) (fun r (post : Int32 → Prop) => post r) (fun post n i s => wX_models_14 post f p K hx P N n s (nI i)) (fun post n i s => wY_models_4 post T K H P N F B n s (nI i)) (fun _ _ => True) 64 ?_ ?_ 64 0 0 rfl trivial
  · intro s _
    exact ⟨s, fun post n h => br_t sm_64 h, fun post n h => br_t sm_64 h⟩
  · intro i s hi _
    refine Or.inr ?_
    by_cases c : sm_st pr K H P N (nI i)
    · refine ⟨s + 1, trivial, fun post n h => br_f (sm_n64 hi) (sx_contains f i hi (sm_br (fun _ y ey w ew => ?_) (fun z => absurd ((hf i hi).mpr c) z))), fun post n h => br_f (sm_n64 hi) (sy_stab hY P N F B i hi (sm_br (fun _ y ey w ew => ?_) (fun z => absurd c z)))⟩
      · subst ey; subst ew; rw [nI_1]; exact h
      · subst ey; subst ew; rw [nI_1]; exact h
    · refine ⟨s, trivial, fun post n h => br_f (sm_n64 hi) (sx_contains f i hi (sm_br (fun z => absurd ((hf i hi).mp z) c) (fun _ w ew => ?_))), fun post n h => br_f (sm_n64 hi) (sy_stab hY P N F B i hi (sm_br (fun z => absurd z c) (fun _ w ew => ?_)))⟩
      · subst ew; rw [nI_1]; exact h
      · subst ew; rw [nI_1]; exact h
theorem sl_model {pr : Nat → Bool} {T K H P N : Nat → Int32} (hY : sm_Y pr T K H) (F B : Nat → Int32) {f : Int64} (hf : sm_F f pr K H P N) (p : Int32) (hx : Nat → Int32) (k : Int32) :
    ∃ r, (∀ post : Int32 → Prop, post r → wX_model_15 post k f p K hx P N 65 0 (nI 0)) ∧ (∀ post : Int32 → Prop, post r → wY_model_4 post k T K H P N F B 65 0 (nI 0)) := by
  refine sm_lk (σ := Int32) (fun r (post : Int32 → Prop) => post r) (fun r (post : Int32 → Prop) => post r) (fun post n i s => wX_model_15 post k f p K hx P N n s (nI i)) (fun post n i s => wY_model_4 post k T K H P N F B n s (nI i)) (fun _ _ => True) 64 ?_ ?_ 64 0 0 rfl trivial
  · intro s _
    exact ⟨-1, fun post n h => br_t sm_64 h, fun post n h => br_t sm_64 h⟩
  · intro i s hi _
    by_cases c : sm_st pr K H P N (nI i)
    · by_cases e : s = k
      · refine Or.inl ⟨nI i, fun post n h => br_f (sm_n64 hi) (sx_contains f i hi (sm_br (fun _ => br_t e h) (fun z => absurd ((hf i hi).mpr c) z))), fun post n h => br_f (sm_n64 hi) (sy_stab hY P N F B i hi (sm_br (fun _ => br_t e h) (fun z => absurd c z)))⟩
      · refine Or.inr ⟨s + 1, trivial, fun post n h => br_f (sm_n64 hi) (sx_contains f i hi (sm_br (fun _ => br_f e (fun y ey w ew => ?_)) (fun z => absurd ((hf i hi).mpr c) z))), fun post n h => br_f (sm_n64 hi) (sy_stab hY P N F B i hi (sm_br (fun _ => br_f e (fun y ey w ew => ?_)) (fun z => absurd c z)))⟩
        · subst ey; subst ew; rw [nI_1]; exact h
        · subst ey; subst ew; rw [nI_1]; exact h
    · refine Or.inr ⟨s, trivial, fun post n h => br_f (sm_n64 hi) (sx_contains f i hi (sm_br (fun z => absurd ((hf i hi).mp z) c) (fun _ w ew => ?_))), fun post n h => br_f (sm_n64 hi) (sy_stab hY P N F B i hi (sm_br (fun z => absurd z c) (fun _ w ew => ?_)))⟩
      · subst ew; rw [nI_1]; exact h
      · subst ew; rw [nI_1]; exact h
theorem sl_brave {pr : Nat → Bool} {T K H P N : Nat → Int32} (hY : sm_Y pr T K H) (F B : Nat → Int32) {f : Int64} (hf : sm_F f pr K H P N) (p : Int32) (hx : Nat → Int32) :
    ∃ r, (∀ post : Int32 → Prop, post r → wX_brave_14 post f p K hx P N 65 0 (nI 0)) ∧ (∀ post : Int32 → Prop, post r → wY_brave_4 post T K H P N F B 65 0 (nI 0)) := by
  refine sm_lk (σ := Int32) (fun r (post : Int32 → Prop) => post r) (fun r (post : Int32 → Prop) => post r) (fun post n i s => wX_brave_14 post f p K hx P N n s (nI i)) (fun post n i s => wY_brave_4 post T K H P N F B n s (nI i)) (fun _ _ => True) 64 ?_ ?_ 64 0 0 rfl trivial
  · intro s _
    exact ⟨s, fun post n h => br_t sm_64 h, fun post n h => br_t sm_64 h⟩
  · intro i s hi _
    refine Or.inr ?_
    by_cases c : sm_st pr K H P N (nI i)
    · refine ⟨s ||| nI i, trivial, fun post n h => br_f (sm_n64 hi) (sx_contains f i hi (sm_br (fun _ y ey w ew => ?_) (fun z => absurd ((hf i hi).mpr c) z))), fun post n h => br_f (sm_n64 hi) (sy_stab hY P N F B i hi (sm_br (fun _ y ey w ew => ?_) (fun z => absurd c z)))⟩
      · subst ey; subst ew; rw [nI_1]; exact h
      · subst ey; subst ew; rw [nI_1]; exact h
    · refine ⟨s, trivial, fun post n h => br_f (sm_n64 hi) (sx_contains f i hi (sm_br (fun z => absurd ((hf i hi).mp z) c) (fun _ w ew => ?_))), fun post n h => br_f (sm_n64 hi) (sy_stab hY P N F B i hi (sm_br (fun z => absurd z c) (fun _ w ew => ?_)))⟩
      · subst ew; rw [nI_1]; exact h
      · subst ew; rw [nI_1]; exact h
theorem sl_cautious {pr : Nat → Bool} {T K H P N : Nat → Int32} (hY : sm_Y pr T K H) (F B : Nat → Int32) {f : Int64} (hf : sm_F f pr K H P N) (p : Int32) (hx : Nat → Int32) :
    ∃ r, (∀ post : Int32 → Prop, post r → wX_cautious_15 post f p K hx P N 65 63 (nI 0)) ∧ (∀ post : Int32 → Prop, post r → wY_cautious_5 post T K H P N F B 65 63 (nI 0)) := by
  refine sm_lk (σ := Int32) (fun r (post : Int32 → Prop) => post r) (fun r (post : Int32 → Prop) => post r) (fun post n i s => wX_cautious_15 post f p K hx P N n s (nI i)) (fun post n i s => wY_cautious_5 post T K H P N F B n s (nI i)) (fun _ _ => True) 64 ?_ ?_ 64 0 63 rfl trivial
  · intro s _
    exact ⟨s, fun post n h => br_t sm_64 h, fun post n h => br_t sm_64 h⟩
  · intro i s hi _
    refine Or.inr ?_
    by_cases c : sm_st pr K H P N (nI i)
    · refine ⟨s &&& nI i, trivial, fun post n h => br_f (sm_n64 hi) (sx_contains f i hi (sm_br (fun _ y ey w ew => ?_) (fun z => absurd ((hf i hi).mpr c) z))), fun post n h => br_f (sm_n64 hi) (sy_stab hY P N F B i hi (sm_br (fun _ y ey w ew => ?_) (fun z => absurd c z)))⟩
      · subst ey; subst ew; rw [nI_1]; exact h
      · subst ey; subst ew; rw [nI_1]; exact h
    · refine ⟨s, trivial, fun post n h => br_f (sm_n64 hi) (sx_contains f i hi (sm_br (fun z => absurd ((hf i hi).mp z) c) (fun _ w ew => ?_))), fun post n h => br_f (sm_n64 hi) (sy_stab hY P N F B i hi (sm_br (fun z => absurd z c) (fun _ w ew => ?_)))⟩
      · subst ew; rw [nI_1]; exact h
      · subst ew; rw [nI_1]; exact h
theorem sl_find {pr : Nat → Bool} {T K H P N : Nat → Int32} (hY : sm_Y pr T K H) (F B : Nat → Int32) {f : Int64} (hf : sm_F f pr K H P N) (p : Int32) (hx : Nat → Int32) (a b : Int32) (ha : sm_S 64 a) (hb : sm_S 64 b) :
    ∃ r, (∀ post : Int32 → Prop, post r → wX_find_28 post a b f p K hx P N 65 (nI 0)) ∧ (∀ post : Int32 → Prop, post r → wY_find_2 post a b T K H P N F B 65 (nI 0)) := by
  refine sm_lk (σ := Unit) (fun r (post : Int32 → Prop) => post r) (fun r (post : Int32 → Prop) => post r) (fun post n i _ => wX_find_28 post a b f p K hx P N n (nI i)) (fun post n i _ => wY_find_2 post a b T K H P N F B n (nI i)) (fun _ _ => True) 64 ?_ ?_ 64 0 () rfl trivial
  · intro s _
    exact ⟨-1, fun post n h => br_t sm_64 h, fun post n h => br_t sm_64 h⟩
  · intro i s hi _
    by_cases c : sm_st pr K H P N (nI i)
    · by_cases e1 : (a &&& (nI i ^^^ (-1))) = 0
      · by_cases e2 : (b &&& nI i) = 0
        · refine Or.inl ⟨nI i, fun post n h => br_f (sm_n64 hi) (sx_contains f i hi (sm_br (fun _ => sx_fits a b (nI i) (sm_br (fun _ => h) (fun z => absurd ⟨e1, e2⟩ z))) (fun z => absurd ((hf i hi).mpr c) z))), fun post n h => br_f (sm_n64 hi) (sy_set _ a (sm_br (fun _ => sy_set _ b (sm_br (fun _ => br_t e1 (br_t e2 (sy_stab hY P N F B i hi (sm_br (fun _ => h) (fun z => absurd c z))))) (fun z => absurd hb z))) (fun z => absurd ha z)))⟩
        · refine Or.inr ⟨(), trivial, fun post n h => br_f (sm_n64 hi) (sx_contains f i hi (sm_br (fun _ => sx_fits a b (nI i) (sm_br (fun z => absurd z.2 e2) (fun z w ew => ?_))) (fun z => absurd ((hf i hi).mpr c) z))), fun post n h => br_f (sm_n64 hi) (sy_set _ a (sm_br (fun _ => sy_set _ b (sm_br (fun _ => br_t e1 (br_f e2 (fun w ew => ?_))) (fun z => absurd hb z))) (fun z => absurd ha z)))⟩
          · subst ew; rw [nI_1]; exact h
          · subst ew; rw [nI_1]; exact h
      · refine Or.inr ⟨(), trivial, fun post n h => br_f (sm_n64 hi) (sx_contains f i hi (sm_br (fun _ => sx_fits a b (nI i) (sm_br (fun z => absurd z.1 e1) (fun z w ew => ?_))) (fun z => absurd ((hf i hi).mpr c) z))), fun post n h => br_f (sm_n64 hi) (sy_set _ a (sm_br (fun _ => sy_set _ b (sm_br (fun _ => br_f e1 (fun w ew => ?_)) (fun z => absurd hb z))) (fun z => absurd ha z)))⟩
        · subst ew; rw [nI_1]; exact h
        · subst ew; rw [nI_1]; exact h
    · refine Or.inr ⟨(), trivial, fun post n h => br_f (sm_n64 hi) (sx_contains f i hi (sm_br (fun z => absurd ((hf i hi).mp z) c) (fun _ w ew => ?_))), fun post n h => br_f (sm_n64 hi) (sy_set _ a (sm_br (fun _ => sy_set _ b (sm_br (fun _ => br_c (fun e1 => br_c (fun e2 => sy_stab hY P N F B i hi (sm_br (fun z => absurd z c) (fun _ w ew => ?_))) (fun e2 w ew => ?_)) (fun e1 w ew => ?_)) (fun z => absurd hb z))) (fun z => absurd ha z)))⟩
      · subst ew; rw [nI_1]; exact h
      · subst ew; rw [nI_1]; exact h
      · subst ew; rw [nI_1]; exact h
      · subst ew; rw [nI_1]; exact h
/-! the number of atoms of a set -/
def sm_on (x : Int32) : Nat → Int32
  | 0 => 0
  | a + 1 => sm_on x a + ((x >>> (nI a &&& 31)) &&& 1)
theorem sm_on_n (x : Int32) (a : Nat) : ∃ k, k ≤ a ∧ sm_on x a = nI k := by
  induction a with
  | zero => exact ⟨0, by omega, rfl⟩
  | succ a ih =>
    obtain ⟨k, hk, e⟩ := ih
    rcases sm_a1 (x >>> (nI a &&& 31)) with z | z
    · refine ⟨k, by omega, ?_⟩
      show sm_on x a + ((x >>> (nI a &&& 31)) &&& 1) = nI k
      rw [e, z]
      exact nI_add k 0
    · refine ⟨k + 1, by omega, ?_⟩
      show sm_on x a + ((x >>> (nI a &&& 31)) &&& 1) = nI (k + 1)
      rw [e, z]
      exact nI_1 k
theorem sx_at {post : Int32 → Prop} (x : Int32) (h : post (sm_on x 6)) : ∀ d i, i + d = 6 → wX_atomsIn_4 post x (d + 1) (sm_on x i) (nI i) := by
  intro d
  induction d with
  | zero =>
    intro i hi
    have e : i = 6 := by omega
    subst e
    exact br_t (nI_le (Nat.le_refl 6) (by decide)) h
  | succ d ih =>
    intro i hi
    have e : wX_atomsIn_4 post x (d + 1) (sm_on x i + ((x >>> (nI i &&& 31)) &&& 1)) (nI (i + 1)) := ih (i + 1) (by omega)
    rw [sm_in x i (by omega)] at e
    refine br_f (nI_ge (b := 6) (by omega) (by decide)) (sx_isIn x i (by omega) (sm_br (fun t y ey w ew => ?_) (fun t w ew => ?_)))
    · rw [if_pos t] at e
      subst ey; subst ew; rw [nI_1 i]; exact e
    · rw [if_neg t] at e
      have e0 : sm_on x i + 0 = sm_on x i := by
        obtain ⟨k, hk, z⟩ := sm_on_n x i
        rw [z]
        exact nI_add k 0
      rw [e0] at e
      subst ew; rw [nI_1 i]; exact e
theorem sx_atomsIn {post : Int32 → Prop} (x : Int32) (h : post (sm_on x 6)) : wpX_atomsIn post x := ⟨7, sx_at x h 6 0 rfl⟩
theorem sy_on {post : Int32 → Prop} (T K H P N F B : Nat → Int32) (x : Int32) (h : post (sm_on x 6)) : ∀ d i, i + d = 6 → wY_ones_4 post x T K H P N F B (d + 1) (sm_on x i) (nI i) := by
  intro d
  induction d with
  | zero =>
    intro i hi
    have e : i = 6 := by omega
    subst e
    exact br_t (nI_le (Nat.le_refl 6) (by decide)) h
  | succ d ih =>
    intro i hi
    have e : wY_ones_4 post x T K H P N F B (d + 1) (sm_on x i + ((x >>> (nI i &&& 31)) &&& 1)) (nI (i + 1)) := ih (i + 1) (by omega)
    refine br_f (nI_ge (b := 6) (by omega) (by decide)) (fun y ey w ew => ?_)
    subst ey; subst ew; rw [nI_1 i]; exact e
theorem sy_ones {post : Int32 → Prop} (T K H P N F B : Nat → Int32) (x : Int32) (h : post (sm_on x 6)) : wpY_ones post (T, K, H, P, N, F, B) x := ⟨7, sy_on T K H P N F B x h 6 0 rfl⟩
theorem sl_fewest {pr : Nat → Bool} {T K H P N : Nat → Int32} (hY : sm_Y pr T K H) (F B : Nat → Int32) {f : Int64} (hf : sm_F f pr K H P N) (p : Int32) (hx : Nat → Int32) :
    ∃ r, (∀ post : Int32 → Prop, post r → wX_fewest_14 post f p K hx P N 65 (-1) (nI 0)) ∧ (∀ post : Int32 → Prop, post r → wY_fewest_4 post T K H P N F B 65 (-1) (nI 0)) := by
  refine sm_lk (σ := Int32) (fun r (post : Int32 → Prop) => post r) (fun r (post : Int32 → Prop) => post r) (fun post n i s => wX_fewest_14 post f p K hx P N n s (nI i)) (fun post n i s => wY_fewest_4 post T K H P N F B n s (nI i)) (fun _ s => s = -1 ∨ sm_S 7 s) 64 ?_ ?_ 64 0 (-1) rfl (Or.inl rfl)
  · intro s _
    exact ⟨s, fun post n h => br_t sm_64 h, fun post n h => br_t sm_64 h⟩
  · intro i s hi hs
    refine Or.inr ?_
    by_cases c : sm_st pr K H P N (nI i)
    · have ho : sm_S 7 (sm_on (nI i) 6) := by
        obtain ⟨k, hk, e⟩ := sm_on_n (nI i) 6
        exact ⟨k, by omega, e⟩
      by_cases e1 : s = -1
      · have l0 : s < 0 := by
          rw [e1]
          decide
        refine ⟨sm_on (nI i) 6, Or.inr ho, fun post n h => br_f (sm_n64 hi) (sx_contains f i hi (sm_br (fun _ => sx_atomsIn (nI i) (br_t e1 (fun w ew => ?_))) (fun z => absurd ((hf i hi).mpr c) z))), fun post n h => br_f (sm_n64 hi) (sy_ones T K H P N F B (nI i) (sy_stab hY P N F B i hi (sm_br (fun _ => br_t l0 (fun w ew => ?_)) (fun z => absurd c z))))⟩
        · subst ew; rw [nI_1]; exact h
        · subst ew; rw [nI_1]; exact h
      · have hs' : sm_S 7 s := hs.resolve_left e1
        have l0 : ¬ s < 0 := by
          obtain ⟨k, hk, e⟩ := hs'
          rw [e]
          exact nI_pos (by omega)
        by_cases e2 : s ≤ sm_on (nI i) 6
        · refine ⟨s, hs, fun post n h => br_f (sm_n64 hi) (sx_contains f i hi (sm_br (fun _ => sx_atomsIn (nI i) (br_f e1 (br_t e2 (fun w ew => ?_)))) (fun z => absurd ((hf i hi).mpr c) z))), fun post n h => br_f (sm_n64 hi) (sy_ones T K H P N F B (nI i) (sy_stab hY P N F B i hi (sm_br (fun _ => br_f l0 (br_t e2 (fun w ew => ?_))) (fun z => absurd c z))))⟩
          · subst ew; rw [nI_1]; exact h
          · subst ew; rw [nI_1]; exact h
        · refine ⟨sm_on (nI i) 6, Or.inr ho, fun post n h => br_f (sm_n64 hi) (sx_contains f i hi (sm_br (fun _ => sx_atomsIn (nI i) (br_f e1 (br_f e2 (fun w ew => ?_)))) (fun z => absurd ((hf i hi).mpr c) z))), fun post n h => br_f (sm_n64 hi) (sy_ones T K H P N F B (nI i) (sy_stab hY P N F B i hi (sm_br (fun _ => br_f l0 (br_f e2 (fun w ew => ?_))) (fun z => absurd c z))))⟩
          · subst ew; rw [nI_1]; exact h
          · subst ew; rw [nI_1]; exact h
    · refine ⟨s, hs, fun post n h => br_f (sm_n64 hi) (sx_contains f i hi (sm_br (fun z => absurd ((hf i hi).mp z) c) (fun _ w ew => ?_))), fun post n h => br_f (sm_n64 hi) (sy_ones T K H P N F B (nI i) (sy_stab hY P N F B i hi (sm_br (fun z => absurd z c) (fun _ w ew => ?_))))⟩
      · subst ew; rw [nI_1]; exact h
      · subst ew; rw [nI_1]; exact h
end
section
/-! maximal and matters -/
def sm_ins (f : Int64) (m k : Nat) : Prop := sm_bl f k = true ∧ (nI m &&& (nI k ^^^ (-1))) = 0
theorem sx_ins {post : Int32 → Prop} (f : Int64) (m : Nat) (h : post (sm_b (∃ k, m < k ∧ k < 64 ∧ sm_ins f m k))) : ∀ d i, i + d = 64 → (∀ k, m < k → k < i → ¬ sm_ins f m k) → m < i → wX_isInsideAnother_4 post f (nI m) (d + 1) (nI i) := by
  intro d
  induction d with
  | zero =>
    intro i hi hb hm
    have e : i = 64 := by omega
    subst e
    exact br_t sm_64 (sm_no (fun ⟨k, h1, h2, z⟩ => hb k h1 h2 z) h)
  | succ d ih =>
    intro i hi hb hm
    have e : ¬ sm_ins f m i → wX_isInsideAnother_4 post f (nI m) (d + 1) (nI i + 1) := by
      intro z
      rw [nI_1]
      refine ih (i + 1) (by omega) (fun k h1 h2 => ?_) (by omega)
      by_cases q : k = i
      · rw [q]
        exact z
      · exact hb k h1 (by omega)
    exact br_f (sm_n64 (by omega)) (sx_contains f i (by omega) (sm_br (fun t => br_c (fun s => sm_yes ⟨i, hm, by omega, t, s⟩ h) (fun s => nm_e (e (fun z => s z.2)))) (fun t => nm_e (e (fun z => t z.1)))))
theorem sx_inside {post : Int32 → Prop} (f : Int64) (m : Nat) (hm : m < 64) (h : post (sm_b (∃ k, m < k ∧ k < 64 ∧ sm_ins f m k))) : wpX_isInsideAnother post f (nI m) := by
  refine nm_r (nI_1 m) ⟨63 - m + 1, sx_ins f m h (63 - m) (m + 1) (by omega) (fun k h1 h2 => by omega) (by omega)⟩
def sm_bad (S : Nat → Prop) (m k : Nat) : Prop := S k ∧ k ≠ m ∧ (nI m &&& (nI k ^^^ (-1))) = 0
theorem sy_max_in {post : Int32 → SY → Prop} (J : Int32 → Int32 → Prop) (T K H P N F B : Nat → Int32) (S : Nat → Prop) (hF : ∀ j, j < 64 → F j = sm_b (S j)) (x1 : Int32) (m : Nat) (hm : m < 64) (A : Prop) (h1 : (A ∧ ∀ k, k < 64 → ¬ sm_bad S m k) → J (x1 + 1) (nI (m + 1))) (h0 : ¬ (A ∧ ∀ k, k < 64 → ¬ sm_bad S m k) → J x1 (nI (m + 1))) : ∀ d i, i + d = 64 → wY_maximal_24 post J x1 (nI m) T K H P N F B (d + 1) (sm_b (A ∧ ∀ k, k < i → ¬ sm_bad S m k)) (nI i) := by
  intro d
  induction d with
  | zero =>
    intro i hi
    have e : i = 64 := by omega
    subst e
    exact br_t sm_64 (sm_br (fun z => nm_e (nm_r (nI_1 m) (h1 z))) (fun z => nm_r (nI_1 m) (h0 z)))
  | succ d ih =>
    intro i hi
    have hc : (nI i).toNatClampNeg = i := nI_clamp (by omega)
    have hin : vp_in (nI i) 64 := vp_in_nI (by omega) (by decide)
    have e := ih (i + 1) (by omega)
    have e1 : (A ∧ ∀ k, k < i → ¬ sm_bad S m k) → ¬ sm_bad S m i → wY_maximal_24 post J x1 (nI m) T K H P N F B (d + 1) 1 (nI i + 1) := by
      intro z y
      rw [sm_bt ⟨z.1, lt_s z.2 y⟩] at e
      rw [nI_1 i]
      exact e
    have e0 : ¬ ((A ∧ ∀ k, k < i → ¬ sm_bad S m k) ∧ ¬ sm_bad S m i) → wY_maximal_24 post J x1 (nI m) T K H P N F B (d + 1) 0 (nI i + 1) := by
      intro z
      rw [sm_bf (fun q => z ⟨⟨q.1, fun k hk => q.2 k (by omega)⟩, q.2 i (by omega)⟩)] at e
      rw [nI_1 i]
      exact e
    refine br_f (sm_n64 (by omega)) (sm_br (fun t => ⟨hin, ?_⟩) (fun t => nm_e (e0 (fun q => t q.1))))
    rw [hc, hF i (by omega)]
    refine sm_br (fun s => sm_e (nI_eq (by omega) (by omega)) (fun q => nm_e (e1 t (fun w => w.2.1 q))) (fun q => br_c (fun b => nm_e (e0 (fun w => w.2 ⟨s, q, b⟩))) (fun b => nm_e (e1 t (fun w => b w.2.2))))) (fun s => nm_e (e1 t (fun w => s w.1)))
theorem sl_maximal (T K H P N B : Nat → Int32) {f : Int64} (S : Nat → Prop) (hf : ∀ j, j < 64 → (sm_bl f j = true ↔ S j)) (p : Int32) (hx : Nat → Int32) :
    ∃ r, (∀ post : Int32 → Prop, post r → wX_maximal_14 post f p K hx P N 65 0 (nI 0)) ∧ (∀ q : { F : Nat → Int32 // ∀ j, j < 64 → F j = sm_b (S j) } × (Int32 → SY → Prop), q.2 r (T, K, H, P, N, q.1.1, B) → wY_maximal_8 q.2 T K H P N q.1.1 B 65 0 (nI 0)) := by
  refine sm_lk (σ := Int32) (fun r (post : Int32 → Prop) => post r) (fun r (q : { F : Nat → Int32 // ∀ j, j < 64 → F j = sm_b (S j) } × (Int32 → SY → Prop)) => q.2 r (T, K, H, P, N, q.1.1, B)) (fun post n i s => wX_maximal_14 post f p K hx P N n s (nI i)) (fun q n i s => wY_maximal_8 q.2 T K H P N q.1.1 B n s (nI i)) (fun _ _ => True) 64 ?_ ?_ 64 0 0 rfl trivial
  · intro s _
    exact ⟨s, fun post n h => br_t sm_64 h, fun post n h => br_t sm_64 h⟩
  · intro i s hi _
    refine Or.inr ?_
    have hc : (nI i).toNatClampNeg = i := nI_clamp (by omega)
    have hin : vp_in (nI i) 64 := vp_in_nI hi (by decide)
    have hq : S i → ((∃ k, i < k ∧ k < 64 ∧ sm_ins f i k) ↔ ¬ ∀ k, k < 64 → ¬ sm_bad S i k) := by
      intro _
      constructor
      · rintro ⟨k, h1, h2, h3⟩ z
        exact z k h2 ⟨(hf k h2).mp h3.1, by omega, h3.2⟩
      · intro z
        refine Classical.byContradiction fun y => z (fun k hk b => y ⟨k, ?_, hk, (hf k hk).mpr b.1, b.2.2⟩)
        have l := sm_sub i hi k hk b.2.2
        have l2 := b.2.1
        omega
    have hy : ∀ (F : Nat → Int32) (hF : ∀ j, j < 64 → F j = sm_b (S j)) (post : Int32 → SY → Prop) (n : Nat), ((S i ∧ ∀ k, k < 64 → ¬ sm_bad S i k) → wY_maximal_8 post T K H P N F B n (s + 1) (nI (i + 1))) → (¬ (S i ∧ ∀ k, k < 64 → ¬ sm_bad S i k) → wY_maximal_8 post T K H P N F B n s (nI (i + 1))) → wY_maximal_8 post T K H P N F B (n + 1) s (nI i) := by
      intro F hF post n a1 a0
      refine br_f (sm_n64 hi) ⟨hin, fun y ey => ⟨65, ?_⟩⟩
      rw [hc, hF i hi] at ey
      subst ey
      have t := sy_max_in (post := post) _ T K H P N F B S hF s i hi (S i) a1 a0 64 0 rfl
      rw [sm_bc (c := S i ∧ ∀ k, k < 0 → ¬ sm_bad S i k) (d := S i) ⟨fun q => q.1, fun q => ⟨q, lt_0⟩⟩] at t
      exact t
    by_cases c : S i ∧ ∀ k, k < 64 → ¬ sm_bad S i k
    · refine ⟨s + 1, trivial, fun post n h => br_f (sm_n64 hi) (sx_contains f i hi (sm_br (fun _ => sx_inside f i hi (sm_br (fun z => absurd c.2 ((hq c.1).mp z)) (fun z y ey w ew => ?_))) (fun z => absurd ((hf i hi).mpr c.1) z))), fun q n h => hy q.1.1 q.1.2 q.2 n (fun _ => h) (fun z => absurd c z)⟩
      subst ey; subst ew; rw [nI_1]; exact h
    · refine ⟨s, trivial, fun post n h => br_f (sm_n64 hi) (sx_contains f i hi (sm_br (fun t => sx_inside f i hi (sm_br (fun z w ew => ?_) (fun z => ?_))) (fun z w ew => ?_))), fun q n h => hy q.1.1 q.1.2 q.2 n (fun z => absurd z c) (fun _ => h)⟩
      · subst ew; rw [nI_1]; exact h
      · have t' := (hf i hi).mp t
        exact absurd ((hq t').mpr (fun q => c ⟨t', q⟩)) z
      · subst ew; rw [nI_1]; exact h
theorem sy_mt73 {post : Int32 → SY → Prop} (T K H P N F B : Nat → Int32) (h : post (sm_b (∃ k, k < 64 ∧ ¬ F k = B k)) (T, K, H, P, N, F, B)) : ∀ d i, i + d = 64 → wY_matters_73 post T K H P N F B (d + 1) (sm_b (∃ k, k < i ∧ ¬ F k = B k)) (nI i) := by
  intro d
  induction d with
  | zero =>
    intro i hi
    have e : i = 64 := by omega
    subst e
    exact br_t sm_64 ⟨sm_narr _, h⟩
  | succ d ih =>
    intro i hi
    have hc : (nI i).toNatClampNeg = i := nI_clamp (by omega)
    have hin : vp_in (nI i) 64 := vp_in_nI (by omega) (by decide)
    have e := ih (i + 1) (by omega)
    refine br_f (sm_n64 (by omega)) (sm_br (fun t => nm_r (nI_1 i) ?_) (fun t => ⟨hin, hin, br_c (fun q => nm_r (nI_1 i) ?_) (fun q => nm_r (nI_1 i) ?_)⟩))
    · obtain ⟨k, hk, z⟩ := t
      rw [sm_bt ⟨k, by omega, z⟩] at e
      exact e
    · rw [hc] at q
      rw [sm_bf] at e
      · exact e
      · rintro ⟨k, hk, z⟩
        by_cases y : k = i
        · rw [y] at z
          exact z q
        · exact t ⟨k, by omega, z⟩
    · rw [hc] at q
      rw [sm_bt ⟨i, by omega, q⟩] at e
      exact e
theorem sy_mt27 {post : Int32 → SY → Prop} {pr : Nat → Bool} {T K H P N F : Nat → Int32} (hF : ∀ j, j < 64 → ∃ c : Prop, F j = sm_b c) (r : Nat) (hr : r < 10) (hY : sm_Y pr (upd T r 0) K H) (h : ∀ F' B' : Nat → Int32, (∀ j, j < 64 → B' j = F j) → (∀ j, j < 64 → F' j = sm_b (sm_st pr K H P N (nI j))) → post (sm_b (∃ k, k < 64 ∧ ¬ F' k = B' k)) (upd (upd T r 0) r 1, K, H, P, N, F', B')) : ∀ d i (B : Nat → Int32), i + d = 64 → (∀ j, j < i → B j = F j) → wY_matters_27 post (nI r) (d + 1) (nI i) T K H P N F B := by
  have hcr : (nI r).toNatClampNeg = r := nI_clamp (by omega)
  have hinr : vp_in (nI r) 10 := vp_in_nI hr (by decide)
  intro d
  induction d with
  | zero =>
    intro i B hi hB
    have e : i = 64 := by omega
    subst e
    refine br_t sm_64 ⟨hinr, fun T2 e2 => ?_⟩
    rw [hcr, sm_nar0] at e2
    subst e2
    refine sy_work hY P N F B (fun F' hF' => ⟨hinr, fun T3 e3 => ⟨65, ?_⟩⟩)
    rw [hcr, sm_nar1] at e3
    subst e3
    have t := sy_mt73 (post := post) (upd (upd T r 0) r 1) K H P N F' B (h F' B hB hF') 64 0 rfl
    rw [sm_bf (fun ⟨k, hk, _⟩ => absurd hk (by omega))] at t
    exact t
  | succ d ih =>
    intro i B hi hB
    have hc : (nI i).toNatClampNeg = i := nI_clamp (by omega)
    have hin : vp_in (nI i) 64 := vp_in_nI (by omega) (by decide)
    refine br_f (sm_n64 (by omega)) ⟨hin, hin, fun y ey w ew => ?_⟩
    obtain ⟨c, hcF⟩ := hF i (by omega)
    rw [hc, hcF, sm_nar, ← hcF] at ey
    subst ey; subst ew
    rw [nI_1]
    refine ih (i + 1) _ (by omega) (fun j hj => ?_)
    unfold upd
    by_cases e : j = i
    · rw [if_pos e, e]
    · rw [if_neg e]
      exact hB j (by omega)
theorem sy_matters {post : Int32 → SY → Prop} {pr pr' : Nat → Bool} {T K H : Nat → Int32} (hY : sm_Y pr T K H) (P N F B : Nat → Int32) (r : Nat) (hr : r < 10) (hp : pr r = true) (hp' : ∀ j, j < 10 → (pr' j = true ↔ pr j = true ∧ j ≠ r))
    (h : ∀ T' F' B' : Nat → Int32, (∀ j, j < 10 → T' j = T j) → post (sm_b (∃ k, k < 64 ∧ ¬ (sm_st pr K H P N (nI k) ↔ sm_st pr' K H P N (nI k)))) (T', K, H, P, N, F', B')) : wpY_matters post (T, K, H, P, N, F, B) (nI r) := by
  have hcr : (nI r).toNatClampNeg = r := nI_clamp (by omega)
  have hinr : vp_in (nI r) 10 := vp_in_nI hr (by decide)
  have hY' : sm_Y pr' (upd T r 0) K H := by
    refine ⟨fun j hj => ?_, hY.2⟩
    unfold upd
    by_cases e : j = r
    · rw [if_pos e, sm_bf (fun z => ((hp' j hj).mp z).2 e)]
    · rw [if_neg e, hY.1 j hj]
      exact sm_bc ⟨fun z => (hp' j hj).mpr ⟨z, e⟩, fun z => ((hp' j hj).mp z).1⟩
  unfold wpY_matters
  dsimp only
  rw [hcr, hY.1 r hr]
  refine br_f (nI_pos (by omega)) (br_f (nI_nlt (a := 9) (by omega) (by decide)) ⟨hinr, sm_br (fun _ => ?_) (fun z => absurd hp z)⟩)
  refine sy_work hY P N F B (fun F1 hF1 => ⟨65, ?_⟩)
  refine sy_mt27 (fun j hj => ⟨_, hF1 j hj⟩) r hr hY' (fun F' B' hB' hF' => ?_) 64 0 B rfl lt_0
  rw [sm_bc (d := ∃ k, k < 64 ∧ ¬ (sm_st pr K H P N (nI k) ↔ sm_st pr' K H P N (nI k)))]
  · refine h _ _ _ (fun j hj => ?_)
    unfold upd
    by_cases e : j = r
    · rw [if_pos e, e, hY.1 r hr, sm_bt hp]
    · rw [if_neg e, if_neg e]
  · constructor
    · rintro ⟨k, hk, z⟩
      rw [hF' k hk, hB' k hk, hF1 k hk] at z
      exact ⟨k, hk, fun q => z (sm_bc q.symm)⟩
    · rintro ⟨k, hk, z⟩
      refine ⟨k, hk, fun q => z ?_⟩
      rw [hF' k hk, hB' k hk, hF1 k hk, sm_bi] at q
      exact q.symm
end
section
/-! the relation's parts; add, remove, rules -/
def sm_R (p : Int32) (K hx hy T : Nat → Int32) : Prop :=
  (∀ r, r < 10 → T r = sm_b (bt p r = true)) ∧ (∀ i, 10 ≤ i → bt p i = false) ∧ (∀ r, r < 10 → K r = 0 ∨ K r = 1 → hx r = hy r ∧ ∃ j, j < 6 ∧ hy r = nI j)
theorem sm_RY {p : Int32} {K hx hy T : Nat → Int32} (h : sm_R p K hx hy T) : sm_Y (bt p) T K hy := by
  refine ⟨h.1, fun r hr e => ?_⟩
  obtain ⟨_, j, hj, z⟩ := h.2.2 r hr (Or.inr e)
  exact ⟨j, by omega, z⟩
theorem sm_RH {p : Int32} {K hx hy T : Nat → Int32} (h : sm_R p K hx hy T) : ∀ r, r < 10 → K r = 0 ∨ K r = 1 → hx r = hy r := fun r hr e => (h.2.2 r hr e).1
theorem sm_RF {p : Int32} {K hx hy T P N : Nat → Int32} (h : sm_R p K hx hy T) {f : Int64} {q : Int32} (hf : ∀ j, j < 64 → (sm_bl f j = true ↔ sm_st (bt q) K hx P N (nI j))) : sm_F f (bt q) K hy P N :=
  fun j hj => (hf j hj).trans (sm_st_c (nI j) (fun _ _ => rfl) (sm_RH h))
theorem sm_R_add {p : Int32} {K hx hy T : Nat → Int32} (h : sm_R p K hx hy T) (r : Nat) (hr : r < 10) (k a b : Int32) (hk : k = 0 ∨ k = 1 → a = b ∧ ∃ j, j < 6 ∧ b = nI j) : sm_R (p ||| ((1 : Int32) <<< (nI r &&& 31))) (upd K r k) (upd hx r a) (upd hy r b) (upd T r 1) := by
  refine ⟨fun i hi => ?_, fun i hi => ?_, fun i hi => ?_⟩
  · unfold upd
    by_cases e : i = r
    · rw [if_pos e, sm_bt]
      rw [sm_orb p r (by omega) (by omega), decide_eq_true e, Bool.or_true]
    · rw [if_neg e, h.1 i hi]
      refine sm_bc ?_
      rw [sm_orb p r (by omega) (by omega), decide_eq_false e, Bool.or_false]
  · rcases Nat.lt_or_ge i 32 with z | z
    · rw [sm_orb p r (by omega) z, h.2.1 i hi, decide_eq_false (by omega)]
      rfl
    · exact b_big z
  · unfold upd
    by_cases e : i = r
    · rw [if_pos e, if_pos e, if_pos e]
      exact hk
    · rw [if_neg e, if_neg e, if_neg e]
      exact h.2.2 i hi
theorem sm_R_rem {p : Int32} {K hx hy T : Nat → Int32} (h : sm_R p K hx hy T) (r : Nat) (hr : r < 10) : sm_R (p &&& (((1 : Int32) <<< (nI r &&& 31)) ^^^ (-1))) K hx hy (upd T r 0) := by
  refine ⟨fun i hi => ?_, fun i hi => ?_, h.2.2⟩
  · unfold upd
    by_cases e : i = r
    · rw [if_pos e, sm_bf]
      rw [sm_clb p r (by omega) (by omega), decide_eq_true e]
      simp
    · rw [if_neg e, h.1 i hi]
      refine sm_bc ?_
      rw [sm_clb p r (by omega) (by omega), decide_eq_false e]
      simp
  · rcases Nat.lt_or_ge i 32 with z | z
    · rw [sm_clb p r (by omega) z, h.2.1 i hi]
      rfl
    · exact b_big z
theorem sm_R_T {p : Int32} {K hx hy T T' : Nat → Int32} (h : sm_R p K hx hy T) (e : ∀ j, j < 10 → T' j = T j) : sm_R p K hx hy T' := ⟨fun r hr => (e r hr).trans (h.1 r hr), h.2⟩
theorem sy_add45 {post : Int32 → SY → Prop} {p : Int32} {K hx hy T : Nat → Int32} (hR : sm_R p K hx hy T) (P N F B : Nat → Int32) (v1 v2 v3 v4 : Int32) (r : Nat) (hr : r ≤ 10) (ht : ∀ j, j < r → bt p j = true) (hf : r < 10 → bt p r = false)
    (h10 : r = 10 → post (-2) (T, K, hy, P, N, F, B))
    (h1 : r < 10 → v1 = 2 → post (nI r) (upd T r 1, upd K r v1, upd hy r 0, upd P r v3, upd N r v4, F, B))
    (h2 : r < 10 → ¬ v1 = 2 → post (nI r) (upd T r 1, upd K r v1, upd hy r v2, upd P r v3, upd N r v4, F, B)) : ∀ d i, i + d = r → wY_add_45 post v1 v2 v3 v4 T K hy P N F B (d + 1) (nI i) := by
  intro d
  induction d with
  | zero =>
    intro i hi
    have e : i = r := by omega
    subst e
    rcases Nat.lt_or_ge i 10 with z | z
    · have hc : (nI i).toNatClampNeg = i := nI_clamp (by omega)
      have hin : vp_in (nI i) 10 := vp_in_nI z (by decide)
      have t0 : T (nI i).toNatClampNeg = 0 := by
        rw [hc, hR.1 i z]
        exact sm_bf (fun q => Bool.noConfusion (q.symm.trans (hf z)))
      refine br_f (nI_ge (b := 10) z (by decide)) ⟨hin, br_t t0 ⟨hin, fun a ea => ⟨hin, fun b eb => br_c (fun e2 => ⟨hin, fun c ec => ⟨hin, fun d ed => ⟨hin, fun g eg => ?_⟩⟩⟩) (fun e2 => ⟨hin, fun c ec => ⟨hin, fun d ed => ⟨hin, fun g eg => ?_⟩⟩⟩)⟩⟩⟩
      · rw [hc] at ea eb ec ed eg
        rw [sm_nar1] at ea
        subst ea; subst eb; subst ec; subst ed; subst eg
        exact h1 z e2
      · rw [hc] at ea eb ec ed eg
        rw [sm_nar1] at ea
        subst ea; subst eb; subst ec; subst ed; subst eg
        exact h2 z e2
    · have e10 : i = 10 := by omega
      exact br_t (nI_le (a := 10) z (by omega)) (h10 e10)
  | succ d ih =>
    intro i hi
    have hc : (nI i).toNatClampNeg = i := nI_clamp (by omega)
    have hin : vp_in (nI i) 10 := vp_in_nI (by omega) (by decide)
    have t1 : ¬ T (nI i).toNatClampNeg = 0 := by
      rw [hc, hR.1 i (by omega), sm_bt (ht i (by omega))]
      decide
    exact br_f (nI_ge (b := 10) (by omega) (by decide)) ⟨hin, br_f t1 (nm_r (nI_1 i) (ih (i + 1) (by omega)))⟩
theorem sy_add {post : Int32 → SY → Prop} (T K hy P N F B : Nat → Int32) (v1 v2 v3 v4 : Int32)
    (h1 : sm_S 3 v1 → (v1 = 2 ∨ sm_S 6 v2) → sm_S 64 v3 → sm_S 64 v4 → ∃ n45 : Nat, wY_add_45 post v1 v2 v3 v4 T K hy P N F B n45 0)
    (h0 : ¬ (sm_S 3 v1 ∧ (v1 = 2 ∨ sm_S 6 v2) ∧ sm_S 64 v3 ∧ sm_S 64 v4) → post (-1) (T, K, hy, P, N, F, B)) : wpY_add post (T, K, hy, P, N, F, B) v1 v2 v3 v4 := by
  unfold wpY_add
  dsimp only
  by_cases hk : sm_S 3 v1
  · have h23 : (v1 = 2 ∨ sm_S 6 v2) → wY_add_23 post v1 v2 v3 v4 T K hy P N F B := by
      intro ho
      unfold wY_add_23
      exact sy_set _ v3 (sm_br (fun h3 => sy_set _ v4 (sm_br (fun h4 => h1 hk ho h3 h4) (fun h4 => h0 (fun q => h4 q.2.2.2)))) (fun h3 => h0 (fun q => h3 q.2.2.1)))
    have l0 : ¬ v1 < 0 := by
      obtain ⟨j, hj, e⟩ := hk
      rw [e]
      exact nI_pos (by omega)
    have l2 : ¬ (2 : Int32) < v1 := by
      obtain ⟨j, hj, e⟩ := hk
      rw [e]
      exact nI_nlt (a := 2) (by omega) (by decide)
    refine br_f l0 (br_f l2 (br_c (fun e2 => h23 (Or.inl e2)) (fun e2 => ?_)))
    by_cases ha : sm_S 6 v2
    · have m0 : ¬ v2 < 0 := by
        obtain ⟨j, hj, e⟩ := ha
        rw [e]
        exact nI_pos (by omega)
      have m5 : ¬ (5 : Int32) < v2 := by
        obtain ⟨j, hj, e⟩ := ha
        rw [e]
        exact nI_nlt (a := 5) (by omega) (by decide)
      exact br_f m0 (br_f m5 (h23 (Or.inr ha)))
    · have hh := h0 (fun q => q.2.1.elim e2 ha)
      rcases sm_S_not (by decide) ha with z | ⟨z, y⟩
      · exact br_t z hh
      · exact br_f z (br_t (sm_gt (n := 5) (by decide) y) hh)
  · have hh := h0 (fun q => hk q.1)
    rcases sm_S_not (by decide) hk with z | ⟨z, y⟩
    · exact br_t z hh
    · exact br_f z (br_t (sm_gt (n := 2) (by decide) y) hh)
theorem sy_remove {post : Int32 → SY → Prop} {p : Int32} {K hx hy T : Nat → Int32} (hR : sm_R p K hx hy T) (P N F B : Nat → Int32) (x : Int32) (h1 : ∀ r, r < 10 → x = nI r → bt p r = true → post 1 (upd T r 0, K, hy, P, N, F, B)) (h0 : (∀ r, r < 10 → x = nI r → ¬ bt p r = true) → post 0 (T, K, hy, P, N, F, B)) : wpY_remove post (T, K, hy, P, N, F, B) x := by
  unfold wpY_remove
  dsimp only
  by_cases hs : sm_S 10 x
  · obtain ⟨r, hr, rfl⟩ := hs
    have hc : (nI r).toNatClampNeg = r := nI_clamp (by omega)
    have hin : vp_in (nI r) 10 := vp_in_nI hr (by decide)
    rw [hc, hR.1 r hr, sm_nar0]
    refine br_f (nI_pos (by omega)) (br_f (nI_nlt (a := 9) (by omega) (by decide)) ⟨hin, sm_br (fun z => ⟨hin, nm_e (h1 r hr rfl z)⟩) (fun z => h0 ?_)⟩)
    intro i hi e
    rw [nI_eq (by omega) (by omega)] at e
    rw [← e]
    exact z
  · have hh := h0 (fun r hr e => absurd ⟨r, hr, e⟩ hs)
    rcases sm_S_not (by decide) hs with z | ⟨z, y⟩
    · exact br_t z hh
    · exact br_f z (br_t (sm_gt (n := 9) (by decide) y) hh)
theorem sy_matters0 {post : Int32 → SY → Prop} {p : Int32} {K hx hy T : Nat → Int32} (hR : sm_R p K hx hy T) (P N F B : Nat → Int32) (x : Int32) (hx0 : ∀ r, r < 10 → x = nI r → ¬ bt p r = true) (h0 : post 0 (T, K, hy, P, N, F, B)) : wpY_matters post (T, K, hy, P, N, F, B) x := by
  unfold wpY_matters
  dsimp only
  by_cases hs : sm_S 10 x
  · obtain ⟨r, hr, rfl⟩ := hs
    have hc : (nI r).toNatClampNeg = r := nI_clamp (by omega)
    have hin : vp_in (nI r) 10 := vp_in_nI hr (by decide)
    rw [hc, hR.1 r hr]
    exact br_f (nI_pos (by omega)) (br_f (nI_nlt (a := 9) (by omega) (by decide)) ⟨hin, sm_br (fun z => absurd z (hx0 r hr rfl)) (fun _ => h0)⟩)
  · rcases sm_S_not (by decide) hs with z | ⟨z, y⟩
    · exact br_t z h0
    · exact br_f z (br_t (sm_gt (n := 9) (by decide) y) h0)
theorem sy_rules {post : Int32 → Prop} {p : Int32} {K hx hy T : Nat → Int32} (hR : sm_R p K hx hy T) (P N F B : Nat → Int32) (h : post p) : ∀ d i (s : Int32), i + d = 10 → (∀ j, j < 32 → (bt s j = true ↔ (j < i ∧ bt p j = true))) → wY_rules_4 post T K hy P N F B (d + 1) s (nI i) := by
  intro d
  induction d with
  | zero =>
    intro i s hi hs
    have e : i = 10 := by omega
    subst e
    have es : s = p := by
      apply b_ext
      intro j hj
      rw [Bool.eq_iff_iff, hs j hj]
      refine ⟨fun z => z.2, fun z => ⟨?_, z⟩⟩
      rcases Nat.lt_or_ge j 10 with y | y
      · exact y
      · exact absurd (z.symm.trans (hR.2.1 j y)) (by decide)
    rw [es]
    exact br_t (nI_le (Nat.le_refl 10) (by decide)) h
  | succ d ih =>
    intro i s hi hs
    have hc : (nI i).toNatClampNeg = i := nI_clamp (by omega)
    have hin : vp_in (nI i) 10 := vp_in_nI (by omega) (by decide)
    refine br_f (nI_ge (b := 10) (by omega) (by decide)) ⟨hin, ?_⟩
    rw [hc, hR.1 i (by omega)]
    refine sm_br (fun t => nm_e (nm_r (nI_1 i) (ih (i + 1) _ (by omega) (fun j hj => ?_)))) (fun t => nm_r (nI_1 i) (ih (i + 1) _ (by omega) (fun j hj => ?_)))
    · rw [sm_orb s i (by omega) hj, Bool.or_eq_true, hs j hj, decide_eq_true_eq]
      constructor
      · rintro (z | z)
        · exact ⟨by omega, z.2⟩
        · subst z
          exact ⟨by omega, t⟩
      · rintro ⟨z, y⟩
        by_cases e : j = i
        · exact Or.inr e
        · exact Or.inl ⟨by omega, y⟩
    · rw [hs j hj]
      constructor
      · rintro ⟨z, y⟩
        exact ⟨by omega, y⟩
      · rintro ⟨z, y⟩
        by_cases e : j = i
        · subst e
          exact absurd y t
        · exact ⟨by omega, y⟩
end
section
/-! what is owed: the relation (same kinds, positives, negatives; heads alike but for bans; the bit set is the table of flags) and a statement a method -/
def i_Rel (k : Nat) (u : SX) (v : SY) : Prop := ∃ (p : Int32) (K hx hy P N T F B : Nat → Int32), u = (p, K, hx, P, N) ∧ v = (T, K, hy, P, N, F, B) ∧ sm_R p K hx hy T
theorem i_up {k : Nat} {u : SX} {v : SY} (h : i_Rel k u v) : i_Rel (k + 5) u v := h
theorem i_vc0 : wpX_init (fun u => wpY_init (fun v => i_Rel 0 u v)) := by
  refine ⟨0, _, _, _, _, _, _, _, _, rfl, rfl, fun r _ => ?_, fun i _ => b_0 i, fun r _ _ => ⟨rfl, 0, by omega, rfl⟩⟩
  rw [b_0]
  exact (sm_bf (fun z => Bool.noConfusion z)).symm
theorem i_vc_add {k : Nat} {u : SX} {v : SY} (I : i_Rel k u v) (hk : k + 5 ≤ 2560) (v1 : Int32) (v2 : Int32) (v3 : Int32) (v4 : Int32) : wpX_add (fun r u' => wpY_add (fun r' v' => r' = r ∧ i_Rel (k + 5) u' v') v v1 v2 v3 v4) u v1 v2 v3 v4 := by
  obtain ⟨p, K, hx, hy, P, N, T, F, B, rfl, rfl, hR⟩ := I
  have ref : ¬ (sm_S 3 v1 ∧ (v1 = 2 ∨ sm_S 6 v2) ∧ sm_S 64 v3 ∧ sm_S 64 v4) → wpY_add (fun r' v' => r' = -1 ∧ i_Rel (k + 5) (p, K, hx, P, N) v') (T, K, hy, P, N, F, B) v1 v2 v3 v4 := by
    intro z
    exact sy_add T K hy P N F B v1 v2 v3 v4 (fun a b c d => absurd ⟨a, b, c, d⟩ z) (fun _ => ⟨rfl, p, K, hx, hy, P, N, T, F, B, rfl, rfl, hR⟩)
  obtain ⟨r, hr, ht, hf⟩ := sm_least p 10 0 rfl (fun j hj => absurd hj (by omega))
  have ok : sm_S 3 v1 → (v1 = 2 ∨ sm_S 6 v2) → sm_S 64 v3 → sm_S 64 v4 → wX_add_38 (fun r u' => wpY_add (fun r' v' => r' = r ∧ i_Rel (k + 5) u' v') (T, K, hy, P, N, F, B) v1 v2 v3 v4) v1 v2 v3 v4 p K hx P N := by
    intro a b c d
    unfold wX_add_38
    refine ⟨r + 1, sx_leastFree p K hx P N r hr ht hf ?_ r 0 (by omega)⟩
    have hc : (nI r).toNatClampNeg = r := nI_clamp (by omega)
    refine br_c (fun e => ?_) (fun e => ?_)
    · have e10 : r = 10 := (nI_eq (b := 10) (by omega) (by decide)).mp e
      exact sy_add T K hy P N F B v1 v2 v3 v4 (fun _ _ _ _ => ⟨r + 1, sy_add45 hR P N F B v1 v2 v3 v4 r hr ht hf (fun _ => ⟨rfl, p, K, hx, hy, P, N, T, F, B, rfl, rfl, hR⟩) (fun z => absurd z (by omega)) (fun z => absurd z (by omega)) r 0 (by omega)⟩) (fun z => absurd ⟨a, b, c, d⟩ z)
    · have h10 : r < 10 := by
        rcases Nat.lt_or_ge r 10 with z | z
        · exact z
        · have e10 : r = 10 := by omega
          rw [e10] at e
          exact absurd rfl e
      have hin : vp_in (nI r) 10 := vp_in_nI h10 (by decide)
      refine ⟨hin, fun K' eK => ⟨hin, fun H' eH => ⟨hin, fun P' eP => ⟨hin, fun N' eN p' ep => ?_⟩⟩⟩⟩
      rw [hc] at eK eH eP eN
      subst eK; subst eH; subst eP; subst eN; subst ep
      refine sy_add T K hy P N F B v1 v2 v3 v4 (fun _ _ _ _ => ⟨r + 1, sy_add45 hR P N F B v1 v2 v3 v4 r hr ht hf (fun z => absurd z (by omega)) (fun _ e2 => ⟨rfl, _, _, _, _, _, _, _, _, _, rfl, rfl, sm_R_add hR r h10 v1 v2 0 ?_⟩) (fun _ e2 => ⟨rfl, _, _, _, _, _, _, _, _, _, rfl, rfl, sm_R_add hR r h10 v1 v2 v2 ?_⟩) r 0 (by omega)⟩) (fun z => absurd ⟨a, b, c, d⟩ z)
      · rintro (z | z)
        · exact absurd (z.symm.trans e2) (by decide)
        · exact absurd (z.symm.trans e2) (by decide)
      · intro _
        obtain ⟨j, hj, z⟩ := b.resolve_left e2
        exact ⟨rfl, j, hj, z⟩
  unfold wpX_add
  dsimp only
  exact sx_isKind v1 (sm_br (fun a => sx_isSet v3 (sm_br (fun c => sx_isSet v4 (sm_br (fun d => br_c (fun e => ok a (Or.inl e) c d) (fun e => sx_isAtom v2 (sm_br (fun b => ok a (Or.inr b) c d) (fun b => ref (fun q => q.2.1.elim e b))))) (fun d => ref (fun q => d q.2.2.2)))) (fun c => ref (fun q => c q.2.2.1)))) (fun a => ref (fun q => a q.1)))
theorem i_vc_remove {k : Nat} {u : SX} {v : SY} (I : i_Rel k u v) (hk : k + 5 ≤ 2560) (v1 : Int32) : wpX_remove (fun r u' => wpY_remove (fun r' v' => r' = r ∧ i_Rel (k + 5) u' v') v v1) u v1 := by
  obtain ⟨p, K, hx, hy, P, N, T, F, B, rfl, rfl, hR⟩ := I
  unfold wpX_remove
  dsimp only
  refine sx_isRule p K hx P N v1 (fun r hr e hb => ?_) (fun z => ?_)
  · refine br_f (by decide) (nm_e ?_)
    refine sy_remove hR P N F B v1 (fun r' hr' e' hb' => ⟨rfl, _, _, _, _, _, _, _, _, _, rfl, rfl, ?_⟩) (fun z => absurd hb (z r hr e))
    rw [e']
    exact sm_R_rem hR r' hr'
  · refine br_t rfl ?_
    exact sy_remove hR P N F B v1 (fun r hr e hb => absurd hb (z r hr e)) (fun _ => ⟨rfl, _, _, _, _, _, _, _, _, _, rfl, rfl, hR⟩)
theorem i_vc_rules {k : Nat} {u : SX} {v : SY} (I : i_Rel k u v) (hk : k + 5 ≤ 2560) : wpX_rules (fun r => wpY_rules (fun r' => r' = r ∧ i_Rel (k + 5) u v) v) u := by
  have I' := i_up I
  obtain ⟨p, K, hx, hy, P, N, T, F, B, rfl, rfl, hR⟩ := I
  refine ⟨11, sy_rules hR P N F B ⟨rfl, I'⟩ 10 0 0 rfl (fun j hj => ?_)⟩
  rw [b_0]
  exact ⟨fun z => Bool.noConfusion z, fun z => absurd z.1 (by omega)⟩
theorem i_vc_support {k : Nat} {u : SX} {v : SY} (I : i_Rel k u v) (hk : k + 5 ≤ 2560) (v1 : Int32) : wpX_support (fun r => wpY_support (fun r' => r' = r ∧ i_Rel (k + 5) u v) v v1) u v1 := by
  have I' := i_up I
  obtain ⟨p, K, hx, hy, P, N, T, F, B, rfl, rfl, hR⟩ := I
  unfold wpX_support
  dsimp only
  refine sx_isSet v1 (sm_br (fun z => sx_supportIn p K hx P N p v1 ?_) (fun z => ?_))
  · exact sy_support (sm_RY hR) P N F B v1 (fun _ => ⟨sm_sup_c v1 (fun _ _ => rfl) (fun r hr e => (sm_RH hR r hr e).symm), I'⟩) (fun y => absurd z y)
  · exact sy_support (sm_RY hR) P N F B v1 (fun y => absurd y z) (fun _ => ⟨rfl, I'⟩)
theorem i_vc_stable {k : Nat} {u : SX} {v : SY} (I : i_Rel k u v) (hk : k + 5 ≤ 2560) (v1 : Int32) : wpX_stable (fun r => wpY_stable (fun r' => r' = r ∧ i_Rel (k + 5) u v) v v1) u v1 := by
  have I' := i_up I
  obtain ⟨p, K, hx, hy, P, N, T, F, B, rfl, rfl, hR⟩ := I
  have e : sm_st (bt p) K hx P N v1 ↔ sm_st (bt p) K hy P N v1 := sm_st_c v1 (fun _ _ => rfl) (sm_RH hR)
  unfold wpX_stable
  dsimp only
  refine sx_isSet v1 (sm_br (fun z => sx_isStableIn p K hx P N p v1 (sm_br (fun t => ?_) (fun t => ?_))) (fun z => ?_))
  · exact sy_stable (sm_RY hR) P N F B v1 ⟨sm_bt ⟨z, e.mp t⟩, I'⟩
  · exact sy_stable (sm_RY hR) P N F B v1 ⟨sm_bf (fun q => t (e.mpr q.2)), I'⟩
  · exact sy_stable (sm_RY hR) P N F B v1 ⟨sm_bf (fun q => z q.1), I'⟩
theorem i_vc_models {k : Nat} {u : SX} {v : SY} (I : i_Rel k u v) (hk : k + 5 ≤ 2560) : wpX_models (fun r => wpY_models (fun r' => r' = r ∧ i_Rel (k + 5) u v) v) u := by
  have I' := i_up I
  obtain ⟨p, K, hx, hy, P, N, T, F, B, rfl, rfl, hR⟩ := I
  unfold wpX_models
  dsimp only
  refine sx_stableSets p K hx P N p (fun f hf => ?_)
  obtain ⟨r, hX, hY⟩ := sl_models (sm_RY hR) F B (sm_RF hR hf) p hx
  exact ⟨65, hX _ ⟨65, hY _ ⟨rfl, I'⟩⟩⟩
theorem i_vc_model {k : Nat} {u : SX} {v : SY} (I : i_Rel k u v) (hk : k + 5 ≤ 2560) (v1 : Int32) : wpX_model (fun r => wpY_model (fun r' => r' = r ∧ i_Rel (k + 5) u v) v v1) u v1 := by
  have I' := i_up I
  obtain ⟨p, K, hx, hy, P, N, T, F, B, rfl, rfl, hR⟩ := I
  unfold wpX_model
  dsimp only
  refine sx_stableSets p K hx P N p (fun f hf => ?_)
  obtain ⟨r, hX, hY⟩ := sl_model (sm_RY hR) F B (sm_RF hR hf) p hx v1
  exact ⟨65, hX _ ⟨65, hY _ ⟨rfl, I'⟩⟩⟩
theorem i_vc_brave {k : Nat} {u : SX} {v : SY} (I : i_Rel k u v) (hk : k + 5 ≤ 2560) : wpX_brave (fun r => wpY_brave (fun r' => r' = r ∧ i_Rel (k + 5) u v) v) u := by
  have I' := i_up I
  obtain ⟨p, K, hx, hy, P, N, T, F, B, rfl, rfl, hR⟩ := I
  unfold wpX_brave
  dsimp only
  refine sx_stableSets p K hx P N p (fun f hf => ?_)
  obtain ⟨r, hX, hY⟩ := sl_brave (sm_RY hR) F B (sm_RF hR hf) p hx
  exact ⟨65, hX _ ⟨65, hY _ ⟨rfl, I'⟩⟩⟩
theorem i_vc_cautious {k : Nat} {u : SX} {v : SY} (I : i_Rel k u v) (hk : k + 5 ≤ 2560) : wpX_cautious (fun r => wpY_cautious (fun r' => r' = r ∧ i_Rel (k + 5) u v) v) u := by
  have I' := i_up I
  obtain ⟨p, K, hx, hy, P, N, T, F, B, rfl, rfl, hR⟩ := I
  unfold wpX_cautious
  dsimp only
  refine sx_stableSets p K hx P N p (fun f hf => ?_)
  obtain ⟨r, hX, hY⟩ := sl_cautious (sm_RY hR) F B (sm_RF hR hf) p hx
  exact ⟨65, hX _ ⟨65, hY _ ⟨rfl, I'⟩⟩⟩
theorem i_vc_find {k : Nat} {u : SX} {v : SY} (I : i_Rel k u v) (hk : k + 5 ≤ 2560) (v1 : Int32) (v2 : Int32) : wpX_find (fun r => wpY_find (fun r' => r' = r ∧ i_Rel (k + 5) u v) v v1 v2) u v1 v2 := by
  have I' := i_up I
  obtain ⟨p, K, hx, hy, P, N, T, F, B, rfl, rfl, hR⟩ := I
  unfold wpX_find
  dsimp only
  refine sx_isSet v1 (sm_br (fun a => sx_isSet v2 (sm_br (fun b => sx_stableSets p K hx P N p (fun f hf => ?_)) (fun b => ?_))) (fun a => ?_))
  · obtain ⟨r, hX, hY⟩ := sl_find (sm_RY hR) F B (sm_RF hR hf) p hx v1 v2 a b
    exact ⟨65, hX _ ⟨65, hY _ ⟨rfl, I'⟩⟩⟩
  · exact ⟨1, br_f (sm_n64 (i := 0) (by omega)) (sy_set _ v1 (sm_br (fun _ => sy_set _ v2 (sm_br (fun z => absurd z b) (fun _ => ⟨rfl, I'⟩))) (fun z => absurd a z)))⟩
  · exact ⟨1, br_f (sm_n64 (i := 0) (by omega)) (sy_set _ v1 (sm_br (fun z => absurd z a) (fun _ => ⟨rfl, I'⟩)))⟩
theorem i_vc_fewest {k : Nat} {u : SX} {v : SY} (I : i_Rel k u v) (hk : k + 5 ≤ 2560) : wpX_fewest (fun r => wpY_fewest (fun r' => r' = r ∧ i_Rel (k + 5) u v) v) u := by
  have I' := i_up I
  obtain ⟨p, K, hx, hy, P, N, T, F, B, rfl, rfl, hR⟩ := I
  unfold wpX_fewest
  dsimp only
  refine sx_stableSets p K hx P N p (fun f hf => ?_)
  obtain ⟨r, hX, hY⟩ := sl_fewest (sm_RY hR) F B (sm_RF hR hf) p hx
  exact ⟨65, hX _ ⟨65, hY _ ⟨rfl, I'⟩⟩⟩
theorem i_vc_maximal {k : Nat} {u : SX} {v : SY} (I : i_Rel k u v) (hk : k + 5 ≤ 2560) : wpX_maximal (fun r => wpY_maximal (fun r' v' => r' = r ∧ i_Rel (k + 5) u v') v) u := by
  obtain ⟨p, K, hx, hy, P, N, T, F, B, rfl, rfl, hR⟩ := I
  unfold wpX_maximal
  dsimp only
  refine sx_stableSets p K hx P N p (fun f hf => ?_)
  obtain ⟨r, hX, hY⟩ := sl_maximal T K hy P N B (fun j => sm_st (bt p) K hy P N (nI j)) (sm_RF hR hf) p hx
  refine ⟨65, hX _ ?_⟩
  unfold wpY_maximal
  dsimp only
  exact sy_work (sm_RY hR) P N F B (fun F1 hF1 => ⟨65, hY (⟨F1, hF1⟩, _) ⟨rfl, _, _, _, _, _, _, _, _, _, rfl, rfl, hR⟩⟩)
theorem i_vc_matters {k : Nat} {u : SX} {v : SY} (I : i_Rel k u v) (hk : k + 5 ≤ 2560) (v1 : Int32) : wpX_matters (fun r => wpY_matters (fun r' v' => r' = r ∧ i_Rel (k + 5) u v') v v1) u v1 := by
  obtain ⟨p, K, hx, hy, P, N, T, F, B, rfl, rfl, hR⟩ := I
  unfold wpX_matters
  dsimp only
  refine sx_isRule p K hx P N v1 (fun r hr e hb => ?_) (fun z => br_t rfl (sy_matters0 hR P N F B v1 z ⟨rfl, _, _, _, _, _, _, _, _, _, rfl, rfl, hR⟩))
  subst e
  refine br_f (by decide) (sx_stableSets p K hx P N p (fun f1 hf1 => sx_stableSets p K hx P N (p &&& (((1 : Int32) <<< (nI r &&& 31)) ^^^ (-1))) (fun f2 hf2 => ?_)))
  have g1 := sm_RF hR hf1
  have g2 := sm_RF hR hf2
  have hp' : ∀ j, j < 10 → (bt (p &&& (((1 : Int32) <<< (nI r &&& 31)) ^^^ (-1))) j = true ↔ bt p j = true ∧ j ≠ r) := by
    intro j hj
    rw [sm_clb p r (by omega) (by omega)]
    simp
  have hY := fun (post : Int32 → SY → Prop) => sy_matters (post := post) (sm_RY hR) P N F B r hr hb hp'
  refine br_c (fun e => hY _ (fun T' F' B' hT' => ⟨sm_bf ?_, _, _, _, _, _, _, _, _, _, rfl, rfl, sm_R_T hR hT'⟩)) (fun e => hY _ (fun T' F' B' hT' => ⟨sm_bt ?_, _, _, _, _, _, _, _, _, _, rfl, rfl, sm_R_T hR hT'⟩))
  · rintro ⟨j, hj, z⟩
    rw [e] at g1
    exact z ((g1 j hj).symm.trans (g2 j hj))
  · refine Classical.byContradiction fun q => e (sm_lx fun i hi => ?_)
    rw [Bool.eq_iff_iff, g1 i hi, g2 i hi]
    exact Classical.byContradiction fun z => q ⟨i, hi, z⟩
end
