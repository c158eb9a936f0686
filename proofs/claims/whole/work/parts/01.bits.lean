/-! bits of ints (family bt of kit/rows/BITS) and of longs; the pure pictures -/
def bt (x : Int32) (i : Nat) : Bool := x.toBitVec.getLsbD i
theorem b_ext {x y : Int32} (h : ∀ i, i < 32 → bt x i = bt y i) : x = y := Int32.toBitVec_inj.mp (BitVec.eq_of_getLsbD_eq (fun i hi => h i hi))
theorem b_or (x y : Int32) (i : Nat) : bt (x ||| y) i = (bt x i || bt y i) := by unfold bt; rw [Int32.toBitVec_or, BitVec.getLsbD_or]
theorem b_and (x y : Int32) (i : Nat) : bt (x &&& y) i = (bt x i && bt y i) := by unfold bt; rw [Int32.toBitVec_and, BitVec.getLsbD_and]
theorem b_xor (x y : Int32) (i : Nat) : bt (x ^^^ y) i = (bt x i ^^ bt y i) := by unfold bt; rw [Int32.toBitVec_xor, BitVec.getLsbD_xor]
theorem b_big {x : Int32} {i : Nat} (h : 32 ≤ i) : bt x i = false := BitVec.getLsbD_of_ge _ _ h
theorem b_m1 : ∀ i, i < 32 → bt (-1) i = true := by decide +kernel
theorem b_0 (i : Nat) : bt 0 i = false := BitVec.getLsbD_zero
theorem s_l : ∀ n, n < 32 → ((nI n &&& 31).toBitVec.smod 32).toNat = n := by decide +kernel
theorem b_shl (n : Nat) (hn : n < 32) (x : Int32) {i : Nat} (hi : i < 32) : bt (x <<< (nI n &&& 31)) i = (decide (n ≤ i) && bt x (i - n)) := by
  unfold bt
  rw [Int32.toBitVec_shiftLeft]
  show (x.toBitVec <<< ((nI n &&& 31).toBitVec.smod 32).toNat).getLsbD i = _
  rw [s_l n hn, BitVec.getLsbD_shiftLeft]
  rcases Nat.lt_or_ge i n with h | h
  · simp [h, Nat.not_le.mpr h]
  · simp [hi, h, Nat.not_lt.mpr h]
theorem b_sshr (n : Nat) (hn : n < 32) (x : Int32) {i : Nat} (hi : i < 32) : bt (x >>> (nI n &&& 31)) i = if n + i < 32 then bt x (n + i) else bt x 31 := by
  unfold bt
  rw [Int32.toBitVec_shiftRight]
  show (x.toBitVec.sshiftRight ((nI n &&& 31).toBitVec.smod 32).toNat).getLsbD i = _
  rw [s_l n hn, BitVec.getLsbD_sshiftRight, BitVec.msb_eq_getLsbD_last]
  simp [hi]
theorem sm_b1 : ∀ i, i < 32 → bt 1 i = decide (i = 0) := by decide +kernel
theorem sm_one (n : Nat) (hn : n < 32) {i : Nat} (hi : i < 32) : bt ((1 : Int32) <<< (nI n &&& 31)) i = decide (i = n) := by
  rw [b_shl n hn 1 hi, sm_b1 (i - n) (by omega), Bool.eq_iff_iff]
  simp only [Bool.and_eq_true, decide_eq_true_eq]
  omega
theorem sm_if (b : Bool) (i : Nat) (hi : i < 32) : bt (if b = true then (1 : Int32) else 0) i = (b && decide (i = 0)) := by
  cases b
  · rw [if_neg (by decide), b_0, Bool.false_and]
  · rw [if_pos rfl, sm_b1 i hi, Bool.true_and]
theorem sm_in (x : Int32) (n : Nat) (hn : n < 32) : ((x >>> (nI n &&& 31)) &&& 1) = if bt x n = true then 1 else 0 := by
  apply b_ext
  intro i hi
  rw [b_and, b_sshr n hn x hi, sm_b1 i hi, sm_if _ i hi]
  by_cases h0 : i = 0
  · subst h0
    rw [Nat.add_zero, if_pos hn]
  · rw [decide_eq_false h0, Bool.and_false, Bool.and_false]
theorem sm_in1 (x : Int32) (n : Nat) (hn : n < 32) : ((x >>> (nI n &&& 31)) &&& 1) = 1 ↔ bt x n = true := by
  rw [sm_in x n hn]
  cases bt x n <;> decide
theorem sm_at (x : Int32) (n : Nat) (hn : n < 32) : (x &&& ((1 : Int32) <<< (nI n &&& 31))) = 0 ↔ bt x n = false := by
  constructor
  · intro h
    have t := b_and x ((1 : Int32) <<< (nI n &&& 31)) n
    rw [h, b_0, sm_one n hn hn, decide_eq_true rfl, Bool.and_true] at t
    exact t.symm
  · intro h
    apply b_ext
    intro i hi
    rw [b_and, sm_one n hn hi, b_0]
    by_cases e : i = n
    · subst e
      rw [h, Bool.false_and]
    · rw [decide_eq_false e, Bool.and_false]
theorem sm_orb (x : Int32) (n : Nat) (hn : n < 32) {i : Nat} (hi : i < 32) : bt (x ||| ((1 : Int32) <<< (nI n &&& 31))) i = (bt x i || decide (i = n)) := by
  rw [b_or, sm_one n hn hi]
theorem sm_clb (x : Int32) (n : Nat) (hn : n < 32) {i : Nat} (hi : i < 32) : bt (x &&& (((1 : Int32) <<< (nI n &&& 31)) ^^^ (-1))) i = (bt x i && !decide (i = n)) := by
  rw [b_and, b_xor, sm_one n hn hi, b_m1 i hi, Bool.xor_true]
def sm_bl (x : Int64) (i : Nat) : Bool := x.toBitVec.getLsbD i
theorem sm_lx {x y : Int64} (h : ∀ i, i < 64 → sm_bl x i = sm_bl y i) : x = y := Int64.toBitVec_inj.mp (BitVec.eq_of_getLsbD_eq (fun i hi => h i hi))
theorem sm_l0 (i : Nat) : sm_bl 0 i = false := BitVec.getLsbD_zero
theorem sm_l1 : ∀ i, i < 64 → sm_bl 1 i = decide (i = 0) := by decide +kernel
theorem sm_lc : ∀ k, k < 64 → (((nI k).toInt64 &&& 63).toBitVec.smod 64).toNat = k := by decide +kernel
theorem sm_lor (x y : Int64) (i : Nat) : sm_bl (x ||| y) i = (sm_bl x i || sm_bl y i) := by
  unfold sm_bl
  rw [Int64.toBitVec_or, BitVec.getLsbD_or]
theorem sm_land (x y : Int64) (i : Nat) : sm_bl (x &&& y) i = (sm_bl x i && sm_bl y i) := by
  unfold sm_bl
  rw [Int64.toBitVec_and, BitVec.getLsbD_and]
theorem sm_lsh (k : Nat) (hk : k < 64) {i : Nat} (hi : i < 64) : sm_bl ((1 : Int64) <<< ((nI k).toInt64 &&& 63)) i = decide (i = k) := by
  have t := sm_l1 (i - k) (by omega)
  unfold sm_bl at t ⊢
  rw [Int64.toBitVec_shiftLeft, BitVec.getLsbD_shiftLeft', sm_lc k hk, t, Bool.eq_iff_iff]
  simp only [Bool.and_eq_true, Bool.not_eq_true', decide_eq_true_eq, decide_eq_false_iff_not]
  omega
theorem sm_lsr (x : Int64) (k : Nat) (hk : k < 64) {i : Nat} (hi : i < 64) : sm_bl (x >>> ((nI k).toInt64 &&& 63)) i = if k + i < 64 then sm_bl x (k + i) else sm_bl x 63 := by
  unfold sm_bl
  rw [Int64.toBitVec_shiftRight, BitVec.getLsbD_sshiftRight', sm_lc k hk, BitVec.msb_eq_getLsbD_last]
  simp [hi]
theorem sm_lif (b : Bool) (i : Nat) (hi : i < 64) : sm_bl (if b = true then (1 : Int64) else 0) i = (b && decide (i = 0)) := by
  cases b
  · rw [if_neg (by decide), sm_l0, Bool.false_and]
  · rw [if_pos rfl, sm_l1 i hi, Bool.true_and]
theorem sm_lin (x : Int64) (k : Nat) (hk : k < 64) : ((x >>> ((nI k).toInt64 &&& 63)) &&& 1) = if sm_bl x k = true then 1 else 0 := by
  apply sm_lx
  intro i hi
  rw [sm_land, sm_lsr x k hk hi, sm_l1 i hi, sm_lif _ i hi]
  by_cases h0 : i = 0
  · subst h0
    rw [Nat.add_zero, if_pos hk]
  · rw [decide_eq_false h0, Bool.and_false, Bool.and_false]
theorem sm_lin1 (x : Int64) (k : Nat) (hk : k < 64) : ((x >>> ((nI k).toInt64 &&& 63)) &&& 1) = 1 ↔ sm_bl x k = true := by
  rw [sm_lin x k hk]
  cases sm_bl x k <;> decide
/-! one bit of an int is 0 or 1 -/
theorem sm_a1 (x : Int32) : x &&& 1 = 0 ∨ x &&& 1 = 1 := by
  have h : ∀ b : Bool, bt x 0 = b → x &&& 1 = if b = true then 1 else 0 := by
    intro b hb
    apply b_ext
    intro i hi
    rw [b_and, sm_b1 i hi, sm_if _ i hi]
    by_cases h0 : i = 0
    · subst h0
      rw [hb]
    · rw [decide_eq_false h0, Bool.and_false, Bool.and_false]
  cases hb : bt x 0
  · exact Or.inl (h false hb)
  · exact Or.inr (h true hb)
/-! a set inside another one is no greater -/
theorem sm_sub : ∀ m, m < 64 → ∀ k, k < 64 → (nI m &&& (nI k ^^^ (-1))) = 0 → m ≤ k := by decide +kernel
/-! the pure pictures -/
def sm_tk (pr : Nat → Bool) (K H N : Nat → Int32) (m : Int32) (r : Nat) : Prop :=
  pr r = true ∧ (N r &&& m) = 0 ∧ (K r = 0 ∨ (K r = 1 ∧ ¬ (m &&& ((1 : Int32) <<< (H r &&& 31))) = 0))
noncomputable def sm_row (T : Nat → Prop) (P H : Nat → Int32) : Nat → Int32 → Int32
  | 0, s => s
  | r + 1, s => @ite _ (T r ∧ (P r &&& (sm_row T P H r s ^^^ (-1))) = 0) (Classical.propDecidable _) (sm_row T P H r s ||| ((1 : Int32) <<< (H r &&& 31))) (sm_row T P H r s)
theorem sm_row_t {T : Nat → Prop} {P H : Nat → Int32} {r : Nat} {s : Int32} (h : T r) (h2 : (P r &&& (sm_row T P H r s ^^^ (-1))) = 0) : sm_row T P H (r + 1) s = sm_row T P H r s ||| ((1 : Int32) <<< (H r &&& 31)) := if_pos ⟨h, h2⟩
theorem sm_row_f {T : Nat → Prop} {P H : Nat → Int32} {r : Nat} {s : Int32} (h : ¬ (T r ∧ (P r &&& (sm_row T P H r s ^^^ (-1))) = 0)) : sm_row T P H (r + 1) s = sm_row T P H r s := if_neg h
theorem sm_row_0 {T : Nat → Prop} {P H : Nat → Int32} {s : Int32} : sm_row T P H 0 s = s := rfl
theorem sm_row_c {T T' : Nat → Prop} {P H H' : Nat → Int32} (n : Nat) (hT : ∀ r, r < n → (T r ↔ T' r)) (hH : ∀ r, r < n → T r → H r = H' r) (s : Int32) : sm_row T P H n s = sm_row T' P H' n s := by
  induction n with
  | zero => rfl
  | succ n ih =>
    have e := ih (fun r hr => hT r (by omega)) (fun r hr => hH r (by omega))
    by_cases c : T n ∧ (P n &&& (sm_row T P H n s ^^^ (-1))) = 0
    · have c2 := c.2
      rw [e] at c2
      rw [sm_row_t c.1 c.2, sm_row_t ((hT n (by omega)).mp c.1) c2, e, hH n (by omega) c.1]
    · have c' : ¬ (T' n ∧ (P n &&& (sm_row T' P H' n s ^^^ (-1))) = 0) := by
        rw [← e]
        intro z
        exact c ⟨(hT n (by omega)).mpr z.1, z.2⟩
      rw [sm_row_f c, sm_row_f c', e]
noncomputable def sm_pas (T : Nat → Prop) (P H : Nat → Int32) : Nat → Int32
  | 0 => 0
  | n + 1 => sm_row T P H 10 (sm_pas T P H n)
theorem sm_pas_c {T T' : Nat → Prop} {P H H' : Nat → Int32} (n : Nat) (hT : ∀ r, r < 10 → (T r ↔ T' r)) (hH : ∀ r, r < 10 → T r → H r = H' r) : sm_pas T P H n = sm_pas T' P H' n := by
  induction n with
  | zero => rfl
  | succ n ih =>
    show sm_row T P H 10 (sm_pas T P H n) = sm_row T' P H' 10 (sm_pas T' P H' n)
    rw [ih, sm_row_c 10 hT hH]
noncomputable def sm_sup (pr : Nat → Bool) (K H P N : Nat → Int32) (m : Int32) : Int32 := sm_pas (sm_tk pr K H N m) P H 6
def sm_ban (pr : Nat → Bool) (K P N : Nat → Int32) (m : Int32) (r : Nat) : Prop :=
  pr r = true ∧ K r = 2 ∧ (P r &&& (m ^^^ (-1))) = 0 ∧ (N r &&& m) = 0
def sm_st (pr : Nat → Bool) (K H P N : Nat → Int32) (m : Int32) : Prop :=
  sm_sup pr K H P N m = m ∧ ∀ r, r < 10 → ¬ sm_ban pr K P N m r
theorem sm_tk_c {pr pr' : Nat → Bool} {K H H' N : Nat → Int32} {m : Int32} {r : Nat} (hp : pr r = pr' r) (hH : K r = 0 ∨ K r = 1 → H r = H' r) : sm_tk pr K H N m r ↔ sm_tk pr' K H' N m r := by
  unfold sm_tk
  rw [hp]
  constructor
  · rintro ⟨a, b, c | ⟨c, d⟩⟩
    · exact ⟨a, b, Or.inl c⟩
    · exact ⟨a, b, Or.inr ⟨c, by rw [← hH (Or.inr c)]; exact d⟩⟩
  · rintro ⟨a, b, c | ⟨c, d⟩⟩
    · exact ⟨a, b, Or.inl c⟩
    · exact ⟨a, b, Or.inr ⟨c, by rw [hH (Or.inr c)]; exact d⟩⟩
theorem sm_sup_c {pr pr' : Nat → Bool} {K H H' P N : Nat → Int32} (m : Int32) (hp : ∀ r, r < 10 → pr r = pr' r) (hH : ∀ r, r < 10 → K r = 0 ∨ K r = 1 → H r = H' r) : sm_sup pr K H P N m = sm_sup pr' K H' P N m := by
  refine sm_pas_c 6 (fun r hr => sm_tk_c (hp r hr) (hH r hr)) (fun r hr t => hH r hr ?_)
  rcases t.2.2 with c | c
  · exact Or.inl c
  · exact Or.inr c.1
theorem sm_st_c {pr pr' : Nat → Bool} {K H H' P N : Nat → Int32} (m : Int32) (hp : ∀ r, r < 10 → pr r = pr' r) (hH : ∀ r, r < 10 → K r = 0 ∨ K r = 1 → H r = H' r) : sm_st pr K H P N m ↔ sm_st pr' K H' P N m := by
  have hb : ∀ r, r < 10 → (sm_ban pr K P N m r ↔ sm_ban pr' K P N m r) := by
    intro r hr
    unfold sm_ban
    rw [hp r hr]
  unfold sm_st
  rw [sm_sup_c m hp hH]
  constructor
  · exact fun z => ⟨z.1, fun r hr c => z.2 r hr ((hb r hr).mpr c)⟩
  · exact fun z => ⟨z.1, fun r hr c => z.2 r hr ((hb r hr).mp c)⟩
