/-! bits of an Int32 (the family bt of kit/rows), and what the walks ask of them -/
def bt (x : Int32) (i : Nat) : Bool := x.toBitVec.getLsbD i
theorem b_ext {x y : Int32} (h : ∀ i, i < 32 → bt x i = bt y i) : x = y := Int32.toBitVec_inj.mp (BitVec.eq_of_getLsbD_eq (fun i hi => h i hi))
theorem b_or (x y : Int32) (i : Nat) : bt (x ||| y) i = (bt x i || bt y i) := by unfold bt; rw [Int32.toBitVec_or, BitVec.getLsbD_or]
theorem b_and (x y : Int32) (i : Nat) : bt (x &&& y) i = (bt x i && bt y i) := by unfold bt; rw [Int32.toBitVec_and, BitVec.getLsbD_and]
theorem b_xor (x y : Int32) (i : Nat) : bt (x ^^^ y) i = (bt x i ^^ bt y i) := by unfold bt; rw [Int32.toBitVec_xor, BitVec.getLsbD_xor]
theorem b_big {x : Int32} {i : Nat} (h : 32 ≤ i) : bt x i = false := BitVec.getLsbD_of_ge _ _ h
theorem b_65535 (i : Nat) : bt 65535 i = decide (i < 16) := by
  rcases Nat.lt_or_ge i 32 with h | h
  · exact (by decide +kernel : ∀ i, i < 32 → bt 65535 i = decide (i < 16)) i h
  · rw [b_big h, decide_eq_false (by omega)]
theorem b_m1 : ∀ i, i < 32 → bt (-1) i = true := by decide +kernel
theorem b_0 (i : Nat) : bt 0 i = false := BitVec.getLsbD_zero
theorem s_l : ∀ n, n < 32 → ((nI n &&& 31).toBitVec.smod 32).toNat = n := by decide +kernel
theorem b_shl (n : Nat) (hn : n < 32) (x : Int32) {i : Nat} (hi : i < 32) : bt (x <<< (nI n &&& 31)) i = (decide (n ≤ i) && bt x (i - n)) := by
  unfold bt
  rw [Int32.toBitVec_shiftLeft]
  show (x.toBitVec <<< ((nI n &&& 31).toBitVec.smod 32).toNat).getLsbD i = _
  rw [s_l n hn, BitVec.getLsbD_shiftLeft]
  rcases Nat.lt_or_ge i n with h | h
  · simp [h, Nat.not_le.mpr h]
  · simp [hi, h, Nat.not_lt.mpr h]
theorem b_sshr (n : Nat) (hn : n < 32) (x : Int32) {i : Nat} (hi : i < 32) : bt (x >>> (nI n &&& 31)) i = if n + i < 32 then bt x (n + i) else bt x 31 := by
  unfold bt
  rw [Int32.toBitVec_shiftRight]
  show (x.toBitVec.sshiftRight ((nI n &&& 31).toBitVec.smod 32).toNat).getLsbD i = _
  rw [s_l n hn, BitVec.getLsbD_sshiftRight, BitVec.msb_eq_getLsbD_last]
  simp [hi]
theorem pk_us {f : Nat → Int32} {k : Nat} {x : Int32} : upd f k x k = x := if_pos rfl
theorem pk_un {f : Nat → Int32} {k j : Nat} {x : Int32} (h : j ≠ k) : upd f k x j = f j := if_neg h
theorem pk_and (x : Int32) {m : Int32} (k : Nat) (hm : m.toBitVec.toNat = 2 ^ k - 1) : x &&& m = nI (x.toBitVec.toNat % 2 ^ k) := by
  apply Int32.toBitVec_inj.mp
  apply BitVec.eq_of_toNat_eq
  rw [Int32.toBitVec_and, BitVec.toNat_and, hm, Nat.and_two_pow_sub_one_eq_mod]
  show _ = (BitVec.ofNat 32 _).toNat
  rw [BitVec.toNat_ofNat]
  exact (Nat.mod_eq_of_lt (Nat.lt_of_le_of_lt (Nat.mod_le _ _) x.toBitVec.isLt)).symm
theorem pk_andE (x : Int32) {m : Int32} (k : Nat) (hm : m.toBitVec.toNat = 2 ^ k - 1) : ∃ j : Nat, j < 2 ^ k ∧ x &&& m = nI j := ⟨_, Nat.mod_lt _ (Nat.two_pow_pos k), pk_and x k hm⟩
/-! own rows -/
theorem cf_b1 (i : Nat) : bt 1 i = decide (i = 0) := by
  rcases Nat.lt_or_ge i 32 with h | h
  · exact (by decide +kernel : ∀ i, i < 32 → bt 1 i = decide (i = 0)) i h
  · rw [b_big h, decide_eq_false (by omega)]
theorem cf_b127 (i : Nat) : bt 127 i = decide (i < 7) := by
  rcases Nat.lt_or_ge i 32 with h | h
  · exact (by decide +kernel : ∀ i, i < 32 → bt 127 i = decide (i < 7)) i h
  · rw [b_big h, decide_eq_false (by omega)]
/-- one bit -/
theorem cf_one {k : Nat} (hk : k < 32) (i : Nat) : bt ((1 : Int32) <<< (nI k &&& 31)) i = decide (i = k) := by
  rcases Nat.lt_or_ge i 32 with h | h
  · rw [b_shl k hk 1 h, cf_b1]
    by_cases e : i = k
    · subst e; simp
    · rw [decide_eq_false e]
      rcases Nat.lt_or_ge i k with g | g
      · rw [decide_eq_false (by omega), Bool.false_and]
      · rw [decide_eq_false (show ¬ i - k = 0 by omega), Bool.and_false]
  · rw [b_big h, decide_eq_false (by omega)]
theorem cf_not (x : Int32) {i : Nat} (h : i < 32) : bt (x ^^^ (-1)) i = !bt x i := by
  rw [b_xor, b_m1 i h, Bool.xor_true]
/-- the answer of a comparison -/
def cf_bi (b : Bool) : Int32 := if b = true then 1 else 0
theorem cf_bi0 : cf_bi false = 0 := rfl
theorem cf_bi1 : cf_bi true = 1 := rfl
theorem cf_biz {b : Bool} : cf_bi b = 0 ↔ b = false := by cases b <;> decide
theorem cf_bin (b : Bool) : narrow .boolean (.int (cf_bi b)) = .int (cf_bi b) := by cases b <;> rfl
theorem cf_biv (b : Bool) : vp_nar .boolean (cf_bi b) = cf_bi b := by cases b <;> rfl
theorem cf_bit (x : Int32) {k : Nat} (hk : k < 32) : ((x >>> (nI k &&& 31)) &&& 1) = cf_bi (bt x k) := by
  apply b_ext
  intro i hi
  rw [b_and, cf_b1, b_sshr k hk x hi]
  by_cases e : i = 0
  · subst e
    rw [if_pos (by omega), Nat.add_zero]
    cases bt x k
    · rw [cf_bi0, b_0]; rfl
    · rw [cf_bi1, cf_b1]; rfl
  · rw [decide_eq_false e, Bool.and_false]
    cases bt x k
    · rw [cf_bi0, b_0]
    · rw [cf_bi1, cf_b1, decide_eq_false e]
theorem cf_bit1 (x : Int32) {k : Nat} (hk : k < 32) : ((x >>> (nI k &&& 31)) &&& 1) = 1 ↔ bt x k = true := by
  rw [cf_bit x hk]; cases bt x k <;> decide
theorem cf_bit0 (x : Int32) {k : Nat} (hk : k < 32) : ((x >>> (nI k &&& 31)) &&& 1) = 0 ↔ bt x k = false := by
  rw [cf_bit x hk]; cases bt x k <;> decide
theorem cf_z (x : Int32) : x = 0 ↔ ∀ i, i < 32 → bt x i = false :=
  ⟨fun h i _ => by rw [h, b_0], fun h => b_ext (fun i hi => by rw [h i hi, b_0])⟩
theorem cf_orz (a b : Int32) : (a ||| b) = 0 ↔ a = 0 ∧ b = 0 := by
  constructor
  · intro h
    have hh := (cf_z _).mp h
    exact ⟨(cf_z a).mpr (fun i hi => by have := hh i hi; rw [b_or] at this; revert this; cases bt a i <;> simp),
      (cf_z b).mpr (fun i hi => by have := hh i hi; rw [b_or] at this; revert this; cases bt a i <;> simp)⟩
  · rintro ⟨rfl, rfl⟩; decide
/-- one set lies in another -/
theorem cf_subz (a b : Int32) : (a &&& (b ^^^ (-1))) = 0 ↔ ∀ i, bt a i = true → bt b i = true := by
  constructor
  · intro h i ha
    rcases Nat.lt_or_ge i 32 with hi | hi
    · have := (cf_z _).mp h i hi
      rw [b_and, cf_not b hi, ha] at this
      revert this; cases bt b i <;> simp
    · rw [b_big hi] at ha; exact absurd ha (by decide)
  · intro h
    apply (cf_z _).mpr
    intro i hi
    rw [b_and, cf_not b hi]
    cases ha : bt a i
    · rfl
    · rw [h i ha]; rfl
theorem cf_small {x : Int32} (h : ∀ i, bt x i = true → i < 7) : ∃ j, j < 128 ∧ x = nI j := by
  obtain ⟨j, hj, e⟩ := pk_andE x (m := 127) 7 (by decide)
  refine ⟨j, hj, ?_⟩
  rw [← e]
  apply b_ext
  intro i _
  rw [b_and, cf_b127]
  cases hx : bt x i
  · rfl
  · rw [decide_eq_true (h i hx)]; rfl
theorem cf_nb (n : Nat) {i : Nat} (hi : i < 32) : bt (nI n) i = n.testBit i := by
  show (BitVec.ofNat 32 n).getLsbD i = _
  rw [BitVec.getLsbD_ofNat, decide_eq_true hi, Bool.true_and]
theorem cf_nb7 {n i : Nat} (hn : n < 128) (h : bt (nI n) i = true) : i < 7 := by
  rcases Nat.lt_or_ge i 7 with g | g
  · exact g
  · rcases Nat.lt_or_ge i 32 with hi | hi
    · rw [cf_nb n hi, Nat.testBit_lt_two_pow (Nat.lt_of_lt_of_le (show n < 2 ^ 7 from hn) (Nat.pow_le_pow_right (by decide) g))] at h
      exact absurd h (by decide)
    · rw [b_big hi] at h; exact absurd h (by decide)
/-! bounded 'for all' -/
def cf_all (p : Nat → Bool) : Nat → Bool
  | 0 => true
  | n + 1 => cf_all p n && p n
theorem cf_alli {p : Nat → Bool} : ∀ {n : Nat}, cf_all p n = true ↔ ∀ k, k < n → p k = true
  | 0 => ⟨fun _ k hk => absurd hk (Nat.not_lt_zero k), fun _ => rfl⟩
  | n + 1 => by
    show (cf_all p n && p n) = true ↔ _
    rw [Bool.and_eq_true, cf_alli (n := n)]
    constructor
    · rintro ⟨h, hn⟩ k hk
      rcases Nat.lt_or_ge k n with g | g
      · exact h k g
      · have e : k = n := by omega
        rw [e]; exact hn
    · intro h
      exact ⟨fun k hk => h k (by omega), h n (by omega)⟩
theorem cf_allc {p q : Nat → Bool} {n : Nat} (h : ∀ k, k < n → p k = q k) : cf_all p n = cf_all q n := by
  apply Bool.eq_iff_iff.mpr
  rw [cf_alli, cf_alli]
  exact ⟨fun g k hk => by rw [← h k hk]; exact g k hk, fun g k hk => by rw [h k hk]; exact g k hk⟩
theorem cf_allF {p : Nat → Bool} {n k : Nat} (hk : k < n) (h : p k = false) : cf_all p n = false := by
  cases e : cf_all p n
  · rfl
  · rw [cf_alli.mp e k hk] at h; exact absurd h (by decide)
/-! indices -/
theorem cf_ge7 {i : Nat} (h : i < 7) : ¬ (7 : Int32) ≤ nI i := nI_ge (b := 7) h (by decide)
theorem cf_ge16 {i : Nat} (h : i < 16) : ¬ (16 : Int32) ≤ nI i := nI_ge (b := 16) h (by decide)
theorem cf_ge128 {i : Nat} (h : i < 128) : ¬ (128 : Int32) ≤ nI i := nI_ge (b := 128) h (by decide)
theorem cf_7 : (7 : Int32) ≤ nI 7 := by decide
theorem cf_16 : (16 : Int32) ≤ nI 16 := by decide
theorem cf_128 : (128 : Int32) ≤ nI 128 := by decide
theorem cf_cl {n : Nat} (h : n < 128) : (nI n).toNatClampNeg = n := nI_clamp (by omega)
