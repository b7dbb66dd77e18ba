section
/-! bits of an Int32 (the family bt of kit/rows), and what the walks ask of them -/
def bt (x : Int32) (i : Nat) : Bool := x.toBitVec.getLsbD i
theorem b_ext {x y : Int32} (h : ∀ i, i < 32 → bt x i = bt y i) : x = y := Int32.toBitVec_inj.mp (BitVec.eq_of_getLsbD_eq (fun i hi => h i hi))
theorem b_or (x y : Int32) (i : Nat) : bt (x ||| y) i = (bt x i || bt y i) := by unfold bt; rw [Int32.toBitVec_or, BitVec.getLsbD_or]
theorem b_and (x y : Int32) (i : Nat) : bt (x &&& y) i = (bt x i && bt y i) := by unfold bt; rw [Int32.toBitVec_and, BitVec.getLsbD_and]
theorem b_xor (x y : Int32) (i : Nat) : bt (x ^^^ y) i = (bt x i ^^ bt y i) := by unfold bt; rw [Int32.toBitVec_xor, BitVec.getLsbD_xor]
theorem b_big {x : Int32} {i : Nat} (h : 32 ≤ i) : bt x i = false := BitVec.getLsbD_of_ge _ _ h
theorem b_65535 (i : Nat) : bt 65535 i = decide (i < 16) := by
  rcases Nat.lt_or_ge i 32 with h | h
  · exact (by decide +kernel : ∀ i, i < 32 → bt 65535 i = decide (i < 16)) i h
  · rw [b_big h, decide_eq_false (by omega)]
theorem b_m1 : ∀ i, i < 32 → bt (-1) i = true := by decide +kernel
theorem b_0 (i : Nat) : bt 0 i = false := BitVec.getLsbD_zero
theorem s_l : ∀ n, n < 32 → ((nI n &&& 31).toBitVec.smod 32).toNat = n := by decide +kernel
theorem b_shl (n : Nat) (hn : n < 32) (x : Int32) {i : Nat} (hi : i < 32) : bt (x <<< (nI n &&& 31)) i = (decide (n ≤ i) && bt x (i - n)) := by
  unfold bt
  rw [Int32.toBitVec_shiftLeft]
  show (x.toBitVec <<< ((nI n &&& 31).toBitVec.smod 32).toNat).getLsbD i = _
  rw [s_l n hn, BitVec.getLsbD_shiftLeft]
  rcases Nat.lt_or_ge i n with h | h
  · simp [h, Nat.not_le.mpr h]
  · simp [hi, h, Nat.not_lt.mpr h]
theorem b_sshr (n : Nat) (hn : n < 32) (x : Int32) {i : Nat} (hi : i < 32) : bt (x >>> (nI n &&& 31)) i = if n + i < 32 then bt x (n + i) else bt x 31 := by
  unfold bt
  rw [Int32.toBitVec_shiftRight]
  show (x.toBitVec.sshiftRight ((nI n &&& 31).toBitVec.smod 32).toNat).getLsbD i = _
  rw [s_l n hn, BitVec.getLsbD_sshiftRight, BitVec.msb_eq_getLsbD_last]
  simp [hi]
theorem pk_us {f : Nat → Int32} {k : Nat} {x : Int32} : upd f k x k = x := if_pos rfl
theorem pk_un {f : Nat → Int32} {k j : Nat} {x : Int32} (h : j ≠ k) : upd f k x j = f j := if_neg h
theorem pk_and (x : Int32) {m : Int32} (k : Nat) (hm : m.toBitVec.toNat = 2 ^ k - 1) : x &&& m = nI (x.toBitVec.toNat % 2 ^ k) := by
  apply Int32.toBitVec_inj.mp
  apply BitVec.eq_of_toNat_eq
  rw [Int32.toBitVec_and, BitVec.toNat_and, hm, Nat.and_two_pow_sub_one_eq_mod]
  show _ = (BitVec.ofNat 32 _).toNat
  rw [BitVec.toNat_ofNat]
  exact (Nat.mod_eq_of_lt (Nat.lt_of_le_of_lt (Nat.mod_le _ _) x.toBitVec.isLt)).symm
theorem pk_andE (x : Int32) {m : Int32} (k : Nat) (hm : m.toBitVec.toNat = 2 ^ k - 1) : ∃ j : Nat, j < 2 ^ k ∧ x &&& m = nI j := ⟨_, Nat.mod_lt _ (Nat.two_pow_pos k), pk_and x k hm⟩
/-! own rows -/
theorem cf_b1 (i : Nat) : bt 1 i = decide (i = 0) := by
  rcases Nat.lt_or_ge i 32 with h | h
  · exact (by decide +kernel : ∀ i, i < 32 → bt 1 i = decide (i = 0)) i h
  · rw [b_big h, decide_eq_false (by omega)]
theorem cf_b127 (i : Nat) : bt 127 i = decide (i < 7) := by
  rcases Nat.lt_or_ge i 32 with h | h
  · exact (by decide +kernel : ∀ i, i < 32 → bt 127 i = decide (i < 7)) i h
  · rw [b_big h, decide_eq_false (by omega)]
/-- one bit -/
theorem cf_one {k : Nat} (hk : k < 32) (i : Nat) : bt ((1 : Int32) <<< (nI k &&& 31)) i = decide (i = k) := by
  rcases Nat.lt_or_ge i 32 with h | h
  · rw [b_shl k hk 1 h, cf_b1]
    by_cases e : i = k
    · subst e; simp
    · rw [decide_eq_false e]
      rcases Nat.lt_or_ge i k with g | g
      · rw [decide_eq_false (by omega), Bool.false_and]
      · rw [decide_eq_false (show ¬ i - k = 0 by omega), Bool.and_false]
  · rw [b_big h, decide_eq_false (by omega)]
theorem cf_not (x : Int32) {i : Nat} (h : i < 32) : bt (x ^^^ (-1)) i = !bt x i := by
  rw [b_xor, b_m1 i h, Bool.xor_true]
/-- the answer of a comparison -/
def cf_bi (b : Bool) : Int32 := if b = true then 1 else 0
theorem cf_bi0 : cf_bi false = 0 := rfl
theorem cf_bi1 : cf_bi true = 1 := rfl
theorem cf_biz {b : Bool} : cf_bi b = 0 ↔ b = false := by cases b <;> decide
theorem cf_bin (b : Bool) : narrow .boolean (.int (cf_bi b)) = .int (cf_bi b) := by cases b <;> rfl
theorem cf_biv (b : Bool) : vp_nar .boolean (cf_bi b) = cf_bi b := by cases b <;> rfl
theorem cf_bit (x : Int32) {k : Nat} (hk : k < 32) : ((x >>> (nI k &&& 31)) &&& 1) = cf_bi (bt x k) := by
  apply b_ext
  intro i hi
  rw [b_and, cf_b1, b_sshr k hk x hi]
  by_cases e : i = 0
  · subst e
    rw [if_pos (by omega), Nat.add_zero]
    cases bt x k
    · rw [cf_bi0, b_0]; rfl
    · rw [cf_bi1, cf_b1]; rfl
  · rw [decide_eq_false e, Bool.and_false]
    cases bt x k
    · rw [cf_bi0, b_0]
    · rw [cf_bi1, cf_b1, decide_eq_false e]
theorem cf_bit1 (x : Int32) {k : Nat} (hk : k < 32) : ((x >>> (nI k &&& 31)) &&& 1) = 1 ↔ bt x k = true := by
  rw [cf_bit x hk]; cases bt x k <;> decide
theorem cf_bit0 (x : Int32) {k : Nat} (hk : k < 32) : ((x >>> (nI k &&& 31)) &&& 1) = 0 ↔ bt x k = false := by
  rw [cf_bit x hk]; cases bt x k <;> decide
theorem cf_z (x : Int32) : x = 0 ↔ ∀ i, i < 32 → bt x i = false :=
  ⟨fun h i _ => by rw [h, b_0], fun h => b_ext (fun i hi => by rw [h i hi, b_0])⟩
theorem cf_orz (a b : Int32) : (a ||| b) = 0 ↔ a = 0 ∧ b = 0 := by
  constructor
  · intro h
    have hh := (cf_z _).mp h
    exact ⟨(cf_z a).mpr (fun i hi => by have := hh i hi; rw [b_or] at this; revert this; cases bt a i <;> simp),
      (cf_z b).mpr (fun i hi => by have := hh i hi; rw [b_or] at this; revert this; cases bt a i <;> simp)⟩
  · rintro ⟨rfl, rfl⟩; decide
/-- one set lies in another -/
theorem cf_subz (a b : Int32) : (a &&& (b ^^^ (-1))) = 0 ↔ ∀ i, bt a i = true → bt b i = true := by
  constructor
  · intro h i ha
    rcases Nat.lt_or_ge i 32 with hi | hi
    · have := (cf_z _).mp h i hi
      rw [b_and, cf_not b hi, ha] at this
      revert this; cases bt b i <;> simp
    · rw [b_big hi] at ha; exact absurd ha (by decide)
  · intro h
    apply (cf_z _).mpr
    intro i hi
    rw [b_and, cf_not b hi]
    cases ha : bt a i
    · rfl
    · rw [h i ha]; rfl
theorem cf_small {x : Int32} (h : ∀ i, bt x i = true → i < 7) : ∃ j, j < 128 ∧ x = nI j := by
  obtain ⟨j, hj, e⟩ := pk_andE x (m := 127) 7 (by decide)
  refine ⟨j, hj, ?_⟩
  rw [← e]
  apply b_ext
  intro i _
  rw [b_and, cf_b127]
  cases hx : bt x i
  · rfl
  · rw [decide_eq_true (h i hx)]; rfl
theorem cf_nb (n : Nat) {i : Nat} (hi : i < 32) : bt (nI n) i = n.testBit i := by
  show (BitVec.ofNat 32 n).getLsbD i = _
  rw [BitVec.getLsbD_ofNat, decide_eq_true hi, Bool.true_and]
theorem cf_nb7 {n i : Nat} (hn : n < 128) (h : bt (nI n) i = true) : i < 7 := by
  rcases Nat.lt_or_ge i 7 with g | g
  · exact g
  · rcases Nat.lt_or_ge i 32 with hi | hi
    · rw [cf_nb n hi, Nat.testBit_lt_two_pow (Nat.lt_of_lt_of_le (show n < 2 ^ 7 from hn) (Nat.pow_le_pow_right (by decide) g))] at h
      exact absurd h (by decide)
    · rw [b_big hi] at h; exact absurd h (by decide)
/-! bounded 'for all' -/
def cf_all (p : Nat → Bool) : Nat → Bool
  | 0 => true
  | n + 1 => cf_all p n && p n
theorem cf_alli {p : Nat → Bool} : ∀ {n : Nat}, cf_all p n = true ↔ ∀ k, k < n → p k = true
  | 0 => ⟨fun _ k hk => absurd hk (Nat.not_lt_zero k), fun _ => rfl⟩
  | n + 1 => by
    show (cf_all p n && p n) = true ↔ _
    rw [Bool.and_eq_true, cf_alli (n := n)]
    constructor
    · rintro ⟨h, hn⟩ k hk
      rcases Nat.lt_or_ge k n with g | g
      · exact h k g
      · have e : k = n := by omega
        rw [e]; exact hn
    · intro h
      exact ⟨fun k hk => h k (by omega), h n (by omega)⟩
theorem cf_allc {p q : Nat → Bool} {n : Nat} (h : ∀ k, k < n → p k = q k) : cf_all p n = cf_all q n := by
  apply Bool.eq_iff_iff.mpr
  rw [cf_alli, cf_alli]
  exact ⟨fun g k hk => by rw [← h k hk]; exact g k hk, fun g k hk => by rw [h k hk]; exact g k hk⟩
theorem cf_allF {p : Nat → Bool} {n k : Nat} (hk : k < n) (h : p k = false) : cf_all p n = false := by
  cases e : cf_all p n
  · rfl
  · rw [cf_alli.mp e k hk] at h; exact absurd h (by decide)
/-! indices -/
theorem cf_ge7 {i : Nat} (h : i < 7) : ¬ (7 : Int32) ≤ nI i := nI_ge (b := 7) h (by decide)
theorem cf_ge16 {i : Nat} (h : i < 16) : ¬ (16 : Int32) ≤ nI i := nI_ge (b := 16) h (by decide)
theorem cf_ge128 {i : Nat} (h : i < 128) : ¬ (128 : Int32) ≤ nI i := nI_ge (b := 128) h (by decide)
theorem cf_7 : (7 : Int32) ≤ nI 7 := by decide
theorem cf_16 : (16 : Int32) ≤ nI 16 := by decide
theorem cf_128 : (128 : Int32) ≤ nI 128 := by decide
theorem cf_cl {n : Nat} (h : n < 128) : (nI n).toNatClampNeg = n := nI_clamp (by omega)
end
section
/-! the picture: what both sides answer -/
/-- a clause (pos, neg) holds at the values v -/
def cf_hold (p n : Int32) (v : Nat) : Bool := decide (¬ ((p &&& nI v) ||| (n &&& (nI v ^^^ (-1)))) = 0)
/-- all clauses of the set S that are there hold at v -/
def cf_ok (th ye no : Nat → Int32) (S : Int32) (v : Nat) : Bool := cf_all (fun k => !bt S k || (decide (th k = 0) || cf_hold (ye k) (no k) v)) 7
/-- the set S is consistent -/
def cf_F (th ye no : Nat → Int32) (S : Int32) : Bool := !cf_all (fun v => !cf_ok th ye no S v) 16
/-- the numbers' sets -/
def cf_out (S : Int32) (k : Nat) : Int32 := S &&& (((1 : Int32) <<< (nI k &&& 31)) ^^^ (-1))
def cf_in (S : Int32) (k : Nat) : Int32 := S ||| ((1 : Int32) <<< (nI k &&& 31))
def cf_sub (S p : Int32) : Bool := decide ((S &&& (p ^^^ (-1))) = 0)
def cf_core (F : Int32 → Bool) (p S : Int32) : Bool := cf_sub S p && !F S && cf_all (fun k => !bt S k || F (cf_out S k)) 7
def cf_rep (F : Int32 → Bool) (p S : Int32) : Bool := cf_sub S p && F (p &&& (S ^^^ (-1))) && cf_all (fun k => !bt S k || !F (cf_in (p &&& (S ^^^ (-1))) k)) 7
/-- the relation -/
def cf_R (p : Int32) (va th ye no : Nat → Int32) : Prop :=
  (∀ i, bt p i = (decide (i < 7) && !decide (th i = 0))) ∧ (∀ i, i < 7 → ¬ th i = 0 → ∀ w, w < 16 → bt (va i) w = cf_hold (ye i) (no i) w)
theorem cf_R7 {p : Int32} {va th ye no : Nat → Int32} (h : cf_R p va th ye no) {i : Nat} (g : bt p i = true) : i < 7 := by
  rw [h.1 i, Bool.and_eq_true] at g
  exact of_decide_eq_true g.1
theorem cf_Rt {p : Int32} {va th ye no : Nat → Int32} (h : cf_R p va th ye no) {i : Nat} (hi : i < 7) : bt p i = !decide (th i = 0) := by
  rw [h.1 i, decide_eq_true hi, Bool.true_and]
theorem cf_bout (S : Int32) {k : Nat} (hk : k < 7) (i : Nat) : bt (cf_out S k) i = (bt S i && !decide (i = k)) := by
  unfold cf_out
  rcases Nat.lt_or_ge i 32 with hi | hi
  · rw [b_and, cf_not _ hi, cf_one (by omega)]
  · rw [b_big hi, b_big hi, Bool.false_and]
theorem cf_bin' (S : Int32) {k : Nat} (hk : k < 7) (i : Nat) : bt (cf_in S k) i = (bt S i || decide (i = k)) := by
  unfold cf_in
  rw [b_or, cf_one (by omega)]
/-- less clauses hold more easily -/
theorem cf_okmono {th ye no : Nat → Int32} {S T : Int32} {v : Nat} (h : ∀ k, k < 7 → bt S k = true → ¬ th k = 0 → bt T k = true) (g : cf_ok th ye no T v = true) : cf_ok th ye no S v = true := by
  unfold cf_ok at g ⊢
  rw [cf_alli] at g ⊢
  intro k hk
  have := g k hk
  cases hs : bt S k
  · rfl
  · by_cases z : th k = 0
    · rw [decide_eq_true z]; rfl
    · rw [h k hk hs z] at this
      simpa using this
theorem cf_okc {th ye no : Nat → Int32} {S T : Int32} {v : Nat} (h : ∀ k, k < 7 → ¬ th k = 0 → bt S k = bt T k) : cf_ok th ye no S v = cf_ok th ye no T v := by
  apply Bool.eq_iff_iff.mpr
  exact ⟨cf_okmono (fun k hk a z => by rw [h k hk z]; exact a), cf_okmono (fun k hk a z => by rw [← h k hk z]; exact a)⟩
theorem cf_Fi {th ye no : Nat → Int32} {S : Int32} : cf_F th ye no S = true ↔ ∃ v, v < 16 ∧ cf_ok th ye no S v = true := by
  unfold cf_F
  constructor
  · intro h
    apply Classical.byContradiction
    intro z
    have : cf_all (fun v => !cf_ok th ye no S v) 16 = true := cf_alli.mpr (fun v hv => by
      cases e : cf_ok th ye no S v
      · rfl
      · exact absurd ⟨v, hv, e⟩ z)
    rw [this] at h
    exact absurd h (by decide)
  · rintro ⟨v, hv, e⟩
    rw [cf_allF hv (by show (!cf_ok th ye no S v) = false; rw [e]; rfl)]
    rfl
theorem cf_Fmono {th ye no : Nat → Int32} {S T : Int32} (h : ∀ k, bt S k = true → bt T k = true) (g : cf_F th ye no T = true) : cf_F th ye no S = true := by
  rw [cf_Fi] at g ⊢
  obtain ⟨v, hv, e⟩ := g
  exact ⟨v, hv, cf_okmono (fun k _ a _ => h k a) e⟩
theorem cf_Fc {th ye no : Nat → Int32} {S T : Int32} (h : ∀ k, k < 7 → ¬ th k = 0 → bt S k = bt T k) : cf_F th ye no S = cf_F th ye no T := by
  unfold cf_F
  rw [cf_allc (fun v _ => by rw [cf_okc h])]
/-! the first that is so; what a count says on its way -/
def cf_first (g : Nat → Bool) (N : Nat) (r : Int32) : Prop :=
  (∃ v, v < N ∧ g v = true ∧ (∀ j, j < v → g j = false) ∧ r = nI v) ∨ ((∀ j, j < N → g j = false) ∧ r = -1)
theorem cf_firstu {g g' : Nat → Bool} {N : Nat} {r r' : Int32} (h : ∀ v, v < N → g v = g' v) (a : cf_first g N r) (b : cf_first g' N r') : r' = r := by
  rcases a with ⟨v, hv, gv, lv, rfl⟩ | ⟨nv, rfl⟩
  · rcases b with ⟨w, hw, gw, lw, rfl⟩ | ⟨nw, rfl⟩
    · rcases Nat.lt_trichotomy v w with z | z | z
      · have := lw v z; rw [← h v hv, gv] at this; exact absurd this (by decide)
      · rw [z]
      · have := lv w z; rw [h w hw, gw] at this; exact absurd this (by decide)
    · have := nw v hv; rw [← h v hv, gv] at this; exact absurd this (by decide)
  · rcases b with ⟨w, hw, gw, lw, rfl⟩ | ⟨nw, rfl⟩
    · have := nv w hw; rw [h w hw, gw] at this; exact absurd this (by decide)
    · rfl
def cf_it (f : Nat → Int32 → Int32) (a : Int32) : Nat → Int32
  | 0 => a
  | n + 1 => f n (cf_it f a n)
/-! Y's repair is X's: to put one clause back is enough -/
def cf_repY (F : Int32 → Bool) (p : Int32) (s : Nat) : Bool := cf_sub (nI s) p && F (p &&& (nI s ^^^ (-1))) && cf_all (fun t => !cf_sub (nI t) (nI s) || !F (p &&& (nI t ^^^ (-1)))) s
theorem cf_subi {a b : Int32} : cf_sub a b = true ↔ ∀ i, bt a i = true → bt b i = true := by
  unfold cf_sub
  rw [decide_eq_true_iff]
  exact cf_subz a b
theorem cf_bdiff (p S : Int32) (i : Nat) : bt (p &&& (S ^^^ (-1))) i = (bt p i && !bt S i) := by
  rcases Nat.lt_or_ge i 32 with hi | hi
  · rw [b_and, cf_not _ hi]
  · rw [b_big hi, b_big hi, Bool.false_and]
theorem cf_nlt {s t : Nat} (hs : s < 128) (ht : t < 128) (h : ∀ i, bt (nI t) i = true → bt (nI s) i = true) : t ≤ s := by
  have e : t = t &&& s := by
    apply Nat.eq_of_testBit_eq
    intro i
    rw [Nat.testBit_and]
    rcases Nat.lt_or_ge i 32 with hi | hi
    · have := h i
      rw [cf_nb t hi, cf_nb s hi] at this
      cases z : t.testBit i
      · rfl
      · rw [this z]; rfl
    · rw [Nat.testBit_lt_two_pow (Nat.lt_of_lt_of_le (show t < 2 ^ 7 from ht) (Nat.pow_le_pow_right (by decide) (by omega)))]
      rfl
  rw [e]
  exact Nat.and_le_right
theorem cf_repeq {F : Int32 → Bool} {p : Int32} {s : Nat} (hs : s < 128) (hF : ∀ S T : Int32, (∀ k, bt S k = true → bt T k = true) → F T = true → F S = true) : cf_repY F p s = cf_rep F p (nI s) := by
  unfold cf_repY cf_rep
  cases hsub : cf_sub (nI s) p
  · rfl
  cases hk : F (p &&& (nI s ^^^ (-1)))
  · rfl
  rw [Bool.true_and, Bool.true_and, Bool.true_and]
  have hsp := cf_subi.mp hsub
  apply Bool.eq_iff_iff.mpr
  rw [cf_alli, cf_alli]
  constructor
  · intro h k hk7
    cases hb : bt (nI s) k
    · rfl
    · -- the set without k
      have hsm : ∀ i, bt (cf_out (nI s) k) i = true → i < 7 := by
        intro i hi
        rw [cf_bout _ hk7, Bool.and_eq_true] at hi
        exact cf_nb7 hs hi.1
      obtain ⟨t, ht, et⟩ := cf_small hsm
      have hts : ∀ i, bt (nI t) i = true → bt (nI s) i = true := by
        intro i hi
        rw [← et, cf_bout _ hk7, Bool.and_eq_true] at hi
        exact hi.1
      have hle := cf_nlt hs ht hts
      have hne : t ≠ s := by
        intro z
        have : bt (nI t) k = false := by
          rw [← et, cf_bout _ hk7, decide_eq_true rfl]
          cases bt (nI s) k <;> rfl
        rw [z, hb] at this
        exact absurd this (by decide)
      have := h t (by omega)
      rw [cf_subi.mpr hts] at this
      have e : cf_in (p &&& (nI s ^^^ (-1))) k = p &&& (nI t ^^^ (-1)) := by
        apply b_ext
        intro i _
        rw [cf_bin' _ hk7, cf_bdiff, cf_bdiff, ← et, cf_bout _ hk7]
        by_cases z : i = k
        · subst z
          rw [decide_eq_true rfl, hsp i hb]; cases bt (nI s) i <;> rfl
        · rw [decide_eq_false z]; cases bt (nI s) i <;> cases bt p i <;> rfl
      rw [e]
      simpa using this
  · intro h t hts
    cases hsub2 : cf_sub (nI t) (nI s)
    · rfl
    · have hb := cf_subi.mp hsub2
      -- some k lies in s and not in t
      have hex : ∃ k, bt (nI s) k = true ∧ bt (nI t) k = false := by
        apply Classical.byContradiction
        intro z
        have := cf_nlt (s := t) (t := s) (by omega) hs (fun i hi => by
          cases e : bt (nI t) i
          · exact absurd ⟨i, hi, e⟩ z
          · rfl)
        omega
      obtain ⟨k, hk1, hk2⟩ := hex
      have hk7 := cf_nb7 hs hk1
      have hx := h k hk7
      rw [hk1] at hx
      cases e : F (p &&& (nI t ^^^ (-1)))
      · rfl
      · have : F (cf_in (p &&& (nI s ^^^ (-1))) k) = true := by
          apply hF _ _ _ e
          intro i hi
          rw [cf_bin' _ hk7, cf_bdiff] at hi
          rw [cf_bdiff]
          by_cases z : i = k
          · subst z
            rw [hsp i hk1, hk2]; rfl
          · rw [decide_eq_false z, Bool.or_false, Bool.and_eq_true] at hi
            rw [hi.1]
            cases z2 : bt (nI t) i
            · rfl
            · rw [hb i z2] at hi; exact absurd hi.2 (by decide)
        rw [this] at hx
        exact absurd hx (by decide)
end
section
/-! X: each private method at its value -/
theorem cf_xhas {post : Int32 → Prop} {S : Int32} {k : Nat} (hk : k < 32) (h : post (cf_bi (bt S k))) : wpX_has post S (nI k) := by
  unfold wpX_has
  cases e : bt S k
  · rw [e] at h
    exact br_f (fun z => by rw [cf_bit1 S hk, e] at z; exact absurd z (by decide)) h
  · rw [e] at h
    exact br_t ((cf_bit1 S hk).mpr e) h
theorem cf_xwith {post : Int32 → Prop} {S : Int32} {k : Nat} (h : post (cf_in S k)) : wpX_with post S (nI k) := h
theorem cf_xwithout {post : Int32 → Prop} {S : Int32} {k : Nat} (h : post (cf_out S k)) : wpX_without post S (nI k) := h
theorem cf_dlt (j i : Nat) : decide (j < i + 1) = (decide (j < i) || decide (j = i)) := by
  rw [← Bool.decide_or]
  exact decide_eq_decide.mpr (by omega)
theorem cf_xval {post : Int32 → Prop} {p q : Int32} (h : ∀ w, (∀ i, bt w i = (decide (i < 16) && cf_hold p q i)) → post w) : wpX_valuesFor post p q := by
  unfold wpX_valuesFor
  refine loop_0 (fun n i s => wX_valuesFor_4 post p q n s (nI i)) (fun i s => ∀ j, bt s j = (decide (j < i) && cf_hold p q j)) 16 0 ?_ ?_ ?_
  · intro j
    rw [b_0, decide_eq_false (by omega), Bool.false_and]
  · intro n s I
    exact br_t cf_16 (h s I)
  · intro n i s hi I rec
    refine br_f (cf_ge16 hi) (br_c (fun z => nm_r (nI_1 i) (rec s ?_)) (fun z => cf_xwith (nm_r (nI_1 i) (rec _ ?_))))
    · intro j
      rw [I j, cf_dlt]
      by_cases e : j = i
      · subst e
        rw [show cf_hold p q j = false from decide_eq_false (fun c => c z), Bool.and_false, Bool.and_false]
      · rw [decide_eq_false e, Bool.or_false]
    · intro j
      unfold cf_in
      rw [b_or, I j, cf_dlt, cf_one (by omega)]
      by_cases e : j = i
      · subst e
        rw [show cf_hold p q j = true from decide_eq_true z, decide_eq_true rfl]
        cases decide (j < j) <;> rfl
      · rw [decide_eq_false e, Bool.or_false, Bool.or_false]
theorem cf_xcommon {post : Int32 → Prop} {p S : Int32} {va : Nat → Int32} (h : ∀ c, (∀ i, bt c i = (decide (i < 16) && cf_all (fun k => !bt S k || bt (va k) i) 7)) → post c) : wpX_commonValues post (p, va) S := by
  unfold wpX_commonValues
  dsimp only
  refine loop_0 (fun n i s => wX_commonValues_5 post S p va n s (nI i)) (fun i s => ∀ j, bt s j = (decide (j < 16) && cf_all (fun k => !bt S k || bt (va k) j) i)) 7 65535 ?_ ?_ ?_
  · intro j
    rw [b_65535]
    show _ = (decide (j < 16) && true)
    rw [Bool.and_true]
  · intro n s I
    exact br_t cf_7 (h s I)
  · intro n i s hi I rec
    refine br_f (cf_ge7 hi) (cf_xhas (by omega) ?_)
    cases e : bt S i
    · refine br_t rfl (nm_r (nI_1 i) (rec s ?_))
      intro j
      rw [I j]
      show _ = (decide (j < 16) && (cf_all _ i && (!bt S i || bt (va i) j)))
      rw [e]
      simp
    · refine br_f (by decide) ⟨vp_in_nI hi (by decide), nm_e (nm_r (nI_1 i) (rec _ ?_))⟩
      intro j
      rw [b_and, I j, nI_clamp (by omega)]
      show _ = (decide (j < 16) && (cf_all _ i && (!bt S i || bt (va i) j)))
      rw [e]
      simp [Bool.and_assoc]
theorem cf_xcom {post : Int32 → Prop} {p S : Int32} {va th ye no : Nat → Int32} (R : cf_R p va th ye no) (hS : ∀ i, bt S i = true → bt p i = true) (h : ∀ c, (∀ i, bt c i = (decide (i < 16) && cf_ok th ye no S i)) → post c) : wpX_commonValues post (p, va) S := by
  refine cf_xcommon (fun c hc => h c (fun i => ?_))
  rw [hc i]
  rcases Nat.lt_or_ge i 16 with hi | hi
  · congr 1
    unfold cf_ok
    apply cf_allc
    intro k hk
    cases e : bt S k
    · rfl
    · have hp := hS k e
      rw [cf_Rt R hk] at hp
      have z : ¬ th k = 0 := by intro z; rw [decide_eq_true z] at hp; exact absurd hp (by decide)
      rw [R.2 k hk z i hi, decide_eq_false z]
      rfl
  · rw [decide_eq_false (by omega), Bool.false_and, Bool.false_and]
theorem cf_comz {th ye no : Nat → Int32} {S c : Int32} (hc : ∀ i, bt c i = (decide (i < 16) && cf_ok th ye no S i)) : c = 0 ↔ cf_F th ye no S = false := by
  constructor
  · intro z
    cases e : cf_F th ye no S
    · rfl
    · obtain ⟨v, hv, g⟩ := cf_Fi.mp e
      have := hc v
      rw [z, b_0, g, decide_eq_true hv] at this
      exact absurd this (by decide)
  · intro e
    apply (cf_z c).mpr
    intro i _
    rw [hc i]
    rcases Nat.lt_or_ge i 16 with hi | hi
    · cases g : cf_ok th ye no S i
      · rw [Bool.and_false]
      · rw [cf_Fi.mpr ⟨i, hi, g⟩] at e; exact absurd e (by decide)
    · rw [decide_eq_false (by omega), Bool.false_and]
theorem cf_xcan {post : Int32 → Prop} {p S : Int32} {va th ye no : Nat → Int32} (R : cf_R p va th ye no) (hS : ∀ i, bt S i = true → bt p i = true) (h : post (cf_bi (cf_F th ye no S))) : wpX_canHold post (p, va) S := by
  unfold wpX_canHold
  dsimp only
  refine cf_xcom R hS (fun c hc => br_c (fun z => ?_) (fun z => ?_))
  · rw [(cf_comz hc).mp z] at h; exact h
  · cases e : cf_F th ye no S
    · exact absurd ((cf_comz hc).mpr e) z
    · rw [e] at h; exact h
theorem cf_xpres {post : Int32 → Prop} {p S : Int32} {va : Nat → Int32} (h : post (cf_bi (cf_sub S p))) : wpX_isPresent post (p, va) S := by
  unfold wpX_isPresent
  dsimp only
  refine br_c (fun z => ?_) (fun z => ?_)
  · rw [show cf_sub S p = true from decide_eq_true z] at h; exact h
  · rw [show cf_sub S p = false from decide_eq_false z] at h; exact h
theorem cf_xcore {post : Int32 → Prop} {p S : Int32} {va th ye no : Nat → Int32} (R : cf_R p va th ye no) (h : post (cf_bi (cf_core (cf_F th ye no) p S))) : wpX_isCore post (p, va) S := by
  unfold wpX_isCore
  dsimp only
  refine cf_xpres ?_
  unfold cf_core at h
  cases e : cf_sub S p
  · rw [e] at h
    exact br_t rfl h
  · rw [e] at h
    have hsp := cf_subi.mp e
    refine br_f (by decide) (cf_xcan R hsp ?_)
    cases e2 : cf_F th ye no S
    · rw [e2] at h
      refine br_t rfl ?_
      refine loop_0 (fun n i (_ : Unit) => wX_isCore_20 post S p va n (nI i)) (fun i _ => cf_all (fun k => !bt S k || cf_F th ye no (cf_out S k)) i = true) 7 () rfl ?_ ?_
      · intro n s I
        rw [I] at h
        exact br_t cf_7 h
      · intro n i s hi I rec
        refine br_f (cf_ge7 hi) (cf_xhas (by omega) ?_)
        cases e3 : bt S i
        · refine br_t rfl (nm_r (nI_1 i) (rec () ?_))
          show (cf_all _ i && (!bt S i || _)) = true
          rw [I, e3]; rfl
        · refine br_f (by decide) (cf_xwithout (cf_xcan R ?_ ?_))
          · intro j hj
            rw [cf_bout S hi, Bool.and_eq_true] at hj
            exact hsp j hj.1
          · cases e4 : cf_F th ye no (cf_out S i)
            · refine br_t rfl ?_
              rw [cf_allF hi (by show (!bt S i || cf_F th ye no (cf_out S i)) = false; rw [e3, e4]; rfl)] at h
              exact h
            · refine br_f (by decide) (nm_r (nI_1 i) (rec () ?_))
              show (cf_all _ i && (!bt S i || cf_F th ye no (cf_out S i))) = true
              rw [I, e4, Bool.or_true]; rfl
    · rw [e2] at h
      exact br_f (by decide) h
theorem cf_xrep {post : Int32 → Prop} {p S : Int32} {va th ye no : Nat → Int32} (R : cf_R p va th ye no) (h : post (cf_bi (cf_rep (cf_F th ye no) p S))) : wpX_isRepair post (p, va) S := by
  unfold wpX_isRepair
  dsimp only
  refine cf_xpres ?_
  unfold cf_rep at h
  cases e : cf_sub S p
  · rw [e] at h
    exact br_t rfl h
  · rw [e] at h
    have hsp := cf_subi.mp e
    have hd : ∀ i, bt (p &&& (S ^^^ (-1))) i = true → bt p i = true := fun i hi => by
      rw [cf_bdiff, Bool.and_eq_true] at hi; exact hi.1
    refine br_f (by decide) (cf_xcan R hd ?_)
    cases e2 : cf_F th ye no (p &&& (S ^^^ (-1)))
    · rw [e2] at h
      exact br_t rfl h
    · rw [e2] at h
      refine br_f (by decide) ?_
      refine loop_0 (fun n i (_ : Unit) => wX_isRepair_27 post S p va n (nI i)) (fun i _ => cf_all (fun k => !bt S k || !cf_F th ye no (cf_in (p &&& (S ^^^ (-1))) k)) i = true) 7 () rfl ?_ ?_
      · intro n s I
        rw [I] at h
        exact br_t cf_7 h
      · intro n i s hi I rec
        refine br_f (cf_ge7 hi) (cf_xhas (by omega) ?_)
        cases e3 : bt S i
        · refine br_t rfl (nm_r (nI_1 i) (rec () ?_))
          show (cf_all _ i && (!bt S i || _)) = true
          rw [I, e3]; rfl
        · refine br_f (by decide) (cf_xwith (cf_xcan R ?_ ?_))
          · intro j hj
            rw [cf_bin' _ hi] at hj
            by_cases z : j = i
            · rw [z]; exact hsp i e3
            · rw [decide_eq_false z, Bool.or_false] at hj
              exact hd j hj
          · cases e4 : cf_F th ye no (cf_in (p &&& (S ^^^ (-1))) i)
            · refine br_t rfl (nm_r (nI_1 i) (rec () ?_))
              show (cf_all _ i && (!bt S i || !cf_F th ye no (cf_in (p &&& (S ^^^ (-1))) i))) = true
              rw [I, e4]; cases bt S i <;> rfl
            · refine br_f (by decide) ?_
              rw [cf_allF hi (by show (!bt S i || !cf_F th ye no (cf_in (p &&& (S ^^^ (-1))) i)) = false; rw [e3, e4]; rfl)] at h
              exact h
def cf_size (S : Int32) : Int32 := cf_it (fun k a => a + cf_bi (bt S k)) 0 7
theorem cf_xsize {post : Int32 → Prop} {S : Int32} (h : post (cf_size S)) : wpX_sizeOf post S := by
  unfold wpX_sizeOf
  refine loop_0 (fun n i s => wX_sizeOf_4 post S n s (nI i)) (fun i s => s = cf_it (fun k a => a + cf_bi (bt S k)) 0 i) 7 0 rfl ?_ ?_
  · rintro n s rfl
    exact br_t cf_7 h
  · rintro n i s hi rfl rec
    refine br_f (cf_ge7 hi) (cf_xhas (by omega) ?_)
    cases e : bt S i
    · refine br_t rfl (nm_r (nI_1 i) (rec _ ?_))
      show _ = _ + cf_bi (bt S i)
      rw [e, cf_bi0, Int32.add_zero]
    · refine br_f (by decide) (nm_e (nm_r (nI_1 i) (rec _ ?_)))
      show _ = _ + cf_bi (bt S i)
      rw [e, cf_bi1]
theorem cf_it_nn (S : Int32) : ∀ n, n ≤ 7 → ∃ m, m ≤ n ∧ cf_it (fun k a => a + cf_bi (bt S k)) 0 n = nI m
  | 0, _ => ⟨0, Nat.le_refl _, rfl⟩
  | n + 1, hn => by
    obtain ⟨m, hm, e⟩ := cf_it_nn S n (by omega)
    show ∃ m, m ≤ n + 1 ∧ cf_it _ 0 n + cf_bi (bt S n) = nI m
    rw [e]
    cases bt S n
    · exact ⟨m, by omega, by rw [cf_bi0, Int32.add_zero]⟩
    · exact ⟨m + 1, by omega, by rw [cf_bi1, nI_1]⟩
theorem cf_size_nn (S : Int32) : ¬ cf_size S < 0 ∧ ¬ cf_size S = -1 := by
  obtain ⟨m, hm, e⟩ := cf_it_nn S 7 (by omega)
  unfold cf_size
  rw [e]
  exact (by decide : ∀ m, m ≤ 7 → ¬ nI m < 0 ∧ ¬ nI m = -1) m hm
end
section
/-! the folds that both sides walk, and X's public methods -/
def cf_fc (g : Nat → Bool) : Nat → Int32 → Int32 := fun i a => if g i = true then a + 1 else a
def cf_fo (g : Nat → Bool) : Nat → Int32 → Int32 := fun i a => if g i = true then a ||| nI i else a
def cf_fa (g : Nat → Bool) : Nat → Int32 → Int32 := fun i a => if g i = true then a &&& nI i else a
def cf_fs (g : Nat → Bool) : Nat → Int32 → Int32 := fun i a => if g i = true then (if a < 0 then cf_size (nI i) else if a ≤ cf_size (nI i) then a else cf_size (nI i)) else a
def cf_fm (g : Nat → Bool) : Nat → Int32 → Int32 := fun i a => if g i = true then (if cf_size (nI i) ≤ a then a else cf_size (nI i)) else a
theorem cf_its {f : Nat → Int32 → Int32} {a x : Int32} {i : Nat} (h : f i (cf_it f a i) = x) : x = cf_it f a (i + 1) := h.symm
theorem cf_fc0 {g : Nat → Bool} {i : Nat} {a : Int32} (h : g i = false) : cf_fc g i a = a := by unfold cf_fc; rw [h]; rfl
theorem cf_fc1 {g : Nat → Bool} {i : Nat} {a : Int32} (h : g i = true) : cf_fc g i a = a + 1 := by unfold cf_fc; rw [h]; rfl
theorem cf_fo0 {g : Nat → Bool} {i : Nat} {a : Int32} (h : g i = false) : cf_fo g i a = a := by unfold cf_fo; rw [h]; rfl
theorem cf_fo1 {g : Nat → Bool} {i : Nat} {a : Int32} (h : g i = true) : cf_fo g i a = a ||| nI i := by unfold cf_fo; rw [h]; rfl
theorem cf_fa0 {g : Nat → Bool} {i : Nat} {a : Int32} (h : g i = false) : cf_fa g i a = a := by unfold cf_fa; rw [h]; rfl
theorem cf_fa1 {g : Nat → Bool} {i : Nat} {a : Int32} (h : g i = true) : cf_fa g i a = a &&& nI i := by unfold cf_fa; rw [h]; rfl
theorem cf_fs0 {g : Nat → Bool} {i : Nat} {a : Int32} (h : g i = false) : cf_fs g i a = a := by unfold cf_fs; rw [h]; rfl
theorem cf_fs1 {g : Nat → Bool} {i : Nat} {a : Int32} (h : g i = true) (z : a < 0) : cf_fs g i a = cf_size (nI i) := by unfold cf_fs; rw [h, if_pos rfl, if_pos z]
theorem cf_fs2 {g : Nat → Bool} {i : Nat} {a : Int32} (h : g i = true) (z : ¬ a < 0) (y : a ≤ cf_size (nI i)) : cf_fs g i a = a := by unfold cf_fs; rw [h, if_pos rfl, if_neg z, if_pos y]
theorem cf_fs3 {g : Nat → Bool} {i : Nat} {a : Int32} (h : g i = true) (z : ¬ a < 0) (y : ¬ a ≤ cf_size (nI i)) : cf_fs g i a = cf_size (nI i) := by unfold cf_fs; rw [h, if_pos rfl, if_neg z, if_neg y]
theorem cf_fm0 {g : Nat → Bool} {i : Nat} {a : Int32} (h : g i = false) : cf_fm g i a = a := by unfold cf_fm; rw [h]; rfl
theorem cf_fm1 {g : Nat → Bool} {i : Nat} {a : Int32} (h : g i = true) (y : cf_size (nI i) ≤ a) : cf_fm g i a = a := by unfold cf_fm; rw [h, if_pos rfl, if_pos y]
theorem cf_fm2 {g : Nat → Bool} {i : Nat} {a : Int32} (h : g i = true) (y : ¬ cf_size (nI i) ≤ a) : cf_fm g i a = cf_size (nI i) := by unfold cf_fm; rw [h, if_pos rfl, if_neg y]
/-- the k-th: the first that is so and has k lesser ones -/
def cf_nth (g : Nat → Bool) (k : Int32) : Nat → Bool := fun i => g i && decide (cf_it (cf_fc g) 0 i = k)
theorem cf_nth0 {g : Nat → Bool} {k : Int32} {i : Nat} (h : g i = false) : cf_nth g k i = false := by unfold cf_nth; rw [h]; rfl
theorem cf_nth1 {g : Nat → Bool} {k : Int32} {i : Nat} (h : g i = true) (z : cf_it (cf_fc g) 0 i = k) : cf_nth g k i = true := by unfold cf_nth; rw [h, decide_eq_true z]; rfl
theorem cf_nth2 {g : Nat → Bool} {k : Int32} {i : Nat} (z : ¬ cf_it (cf_fc g) 0 i = k) : cf_nth g k i = false := by unfold cf_nth; rw [decide_eq_false z, Bool.and_false]
def cf_let (x : Int32) : Bool := !decide (x < 0) && !decide (16 ≤ x)
theorem cf_xlet {post : Int32 → Prop} {x : Int32} (h : post (cf_bi (cf_let x))) : wpX_areLetters post x := by
  unfold wpX_areLetters
  unfold cf_let at h
  refine br_c (fun z => ?_) (fun z => br_c (fun y => ?_) (fun y => ?_))
  · rw [decide_eq_true z] at h; exact h
  · rw [decide_eq_false z, decide_eq_true y] at h; exact h
  · rw [decide_eq_false z, decide_eq_false y] at h; exact h
theorem cf_xadd {post : Int32 → SX → Prop} {p a b : Int32} {va : Nat → Int32}
    (h1 : (cf_let a && cf_let b) = false → post (-1) (p, va))
    (h2 : (cf_let a && cf_let b) = true → (∀ j, j < 7 → bt p j = true) → post (-2) (p, va))
    (h3 : (cf_let a && cf_let b) = true → ∀ k, k < 7 → bt p k = false → (∀ j, j < k → bt p j = true) → ∀ w, (∀ i, bt w i = (decide (i < 16) && cf_hold a b i)) → post (nI k) (cf_in p k, upd va k w)) :
    wpX_add post (p, va) a b := by
  unfold wpX_add
  dsimp only
  refine cf_xlet ?_
  cases e : cf_let a
  · exact br_t rfl (h1 (by rw [e]; rfl))
  · refine br_f (by decide) (cf_xlet ?_)
    cases e2 : cf_let b
    · exact br_t rfl (h1 (by rw [e, e2]; rfl))
    · refine br_f (by decide) ?_
      have hl : (cf_let a && cf_let b) = true := by rw [e, e2]; rfl
      refine loop_0 (fun n i (_ : Unit) => wX_add_18 post a b p va n (nI i)) (fun i _ => ∀ j, j < i → bt p j = true) 7 () lt_0 ?_ ?_
      · intro n s I
        exact br_t cf_7 (h2 hl I)
      · intro n i s hi I rec
        refine br_f (cf_ge7 hi) (cf_xhas (by omega) ?_)
        cases e3 : bt p i
        · refine br_t rfl (cf_xval (fun w hw => ⟨vp_in_nI hi (by decide), ?_⟩))
          rw [nI_clamp (by omega)]
          exact nm_e (cf_xwith (h3 hl i hi e3 I w hw))
        · exact br_f (by decide) (nm_r (nI_1 i) (rec () (lt_s I e3)))
theorem cf_okp {p S : Int32} {va th ye no : Nat → Int32} (R : cf_R p va th ye no) (v : Nat) : cf_ok th ye no (S &&& p) v = cf_ok th ye no S v :=
  cf_okc (fun k hk z => by rw [b_and, cf_Rt R hk, decide_eq_false z]; exact Bool.and_true _)
theorem cf_Fp {p S : Int32} {va th ye no : Nat → Int32} (R : cf_R p va th ye no) : cf_F th ye no (S &&& p) = cf_F th ye no S :=
  cf_Fc (fun k hk z => by rw [b_and, cf_Rt R hk, decide_eq_false z]; exact Bool.and_true _)
theorem cf_andp {S p : Int32} : ∀ i, bt (S &&& p) i = true → bt p i = true := fun i h => by
  rw [b_and, Bool.and_eq_true] at h; exact h.2
theorem cf_xcons {post : Int32 → Prop} {p S : Int32} {va th ye no : Nat → Int32} (R : cf_R p va th ye no) (h : post (cf_bi (cf_F th ye no S))) : wpX_consistent post (p, va) S := by
  unfold wpX_consistent
  dsimp only
  refine cf_xcan R cf_andp ⟨cf_bin _, ?_⟩
  rw [cf_Fp R]
  exact h
theorem cf_xwit {post : Int32 → Prop} {p S : Int32} {va th ye no : Nat → Int32} (R : cf_R p va th ye no) (h : ∀ r, cf_first (fun v => cf_ok th ye no S v) 16 r → post r) : wpX_witness post (p, va) S := by
  unfold wpX_witness
  dsimp only
  refine cf_xcom R cf_andp (fun c hc => ?_)
  have hb : ∀ v, v < 16 → bt c v = cf_ok th ye no S v := fun v hv => by
    rw [hc v, decide_eq_true hv, Bool.true_and, cf_okp R]
  refine loop_0 (fun n i (_ : Unit) => wX_witness_13 post c p va n (nI i)) (fun i _ => ∀ j, j < i → cf_ok th ye no S j = false) 16 () lt_0 ?_ ?_
  · intro n s I
    exact br_t cf_16 (h _ (Or.inr ⟨I, rfl⟩))
  · intro n i s hi I rec
    refine br_f (cf_ge16 hi) (cf_xhas (by omega) ?_)
    rw [hb i hi]
    cases e : cf_ok th ye no S i
    · exact br_t rfl (nm_r (nI_1 i) (rec () (lt_s I e)))
    · exact br_f (by decide) (h _ (Or.inl ⟨i, hi, e, I, rfl⟩))
theorem cf_ok127 {p : Int32} {va th ye no : Nat → Int32} (R : cf_R p va th ye no) (v : Nat) : cf_ok th ye no p v = cf_ok th ye no 127 v :=
  cf_okc (fun k hk z => by rw [cf_b127, decide_eq_true hk, cf_Rt R hk, decide_eq_false z]; rfl)
def cf_fol (th ye no : Nat → Int32) (a b : Int32) : Bool := (cf_let a && cf_let b) && cf_all (fun v => !cf_ok th ye no 127 v || cf_hold a b v) 16
theorem cf_xfol {post : Int32 → Prop} {p a b : Int32} {va th ye no : Nat → Int32} (R : cf_R p va th ye no) (h : post (cf_bi (cf_fol th ye no a b))) : wpX_follows post (p, va) a b := by
  unfold wpX_follows
  dsimp only
  unfold cf_fol at h
  refine cf_xlet ?_
  cases e : cf_let a
  · rw [e] at h
    exact br_t rfl h
  · refine br_f (by decide) (cf_xlet ?_)
    cases e2 : cf_let b
    · rw [e, e2] at h
      exact br_t rfl h
    · rw [e, e2] at h
      refine br_f (by decide) (cf_xcom R (fun _ x => x) (fun c hc => cf_xval (fun w hw => ?_)))
      refine br_c (fun z => ?_) (fun z => ?_)
      · have hs := (cf_subz c w).mp z
        have : cf_all (fun v => !cf_ok th ye no 127 v || cf_hold a b v) 16 = true := cf_alli.mpr (fun v hv => by
          cases g : cf_ok th ye no 127 v
          · rfl
          · have hcv : bt c v = true := by rw [hc v, decide_eq_true hv, cf_ok127 R, g]; rfl
            have hwv := hs v hcv
            rw [hw v, decide_eq_true hv, Bool.true_and] at hwv
            rw [hwv]; rfl)
        rw [this] at h
        exact h
      · have : cf_all (fun v => !cf_ok th ye no 127 v || cf_hold a b v) 16 = false := by
          cases g : cf_all (fun v => !cf_ok th ye no 127 v || cf_hold a b v) 16
          · rfl
          · exfalso
            apply z
            apply (cf_subz c w).mpr
            intro i hi
            rw [hc i, Bool.and_eq_true, cf_ok127 R] at hi
            have hi16 : i < 16 := of_decide_eq_true hi.1
            have := cf_alli.mp g i hi16
            rw [hi.2] at this
            rw [hw i, decide_eq_true hi16, Bool.true_and]
            simpa using this
        rw [this] at h
        exact h
end
section
/-! X's walks over the 128 sets -/
theorem cf_xcores {post : Int32 → Prop} {p : Int32} {va th ye no : Nat → Int32} (R : cf_R p va th ye no) (h : post (cf_it (cf_fc (fun i => cf_core (cf_F th ye no) p (nI i))) 0 128)) : wpX_cores post (p, va) := by
  unfold wpX_cores
  dsimp only
  refine loop_0 (fun n i s => wX_cores_4 post p va n s (nI i)) (fun i s => s = cf_it (cf_fc (fun i => cf_core (cf_F th ye no) p (nI i))) 0 i) 128 0 rfl ?_ ?_
  · rintro n s rfl
    exact br_t cf_128 h
  · rintro n i s hi rfl rec
    refine br_f (cf_ge128 hi) (cf_xcore R ?_)
    cases e : cf_core (cf_F th ye no) p (nI i)
    · exact br_t rfl (nm_r (nI_1 i) (rec _ (cf_its (cf_fc0 e))))
    · exact br_f (by decide) (nm_e (nm_r (nI_1 i) (rec _ (cf_its (cf_fc1 e)))))
theorem cf_xrepairs {post : Int32 → Prop} {p : Int32} {va th ye no : Nat → Int32} (R : cf_R p va th ye no) (h : post (cf_it (cf_fc (fun i => cf_rep (cf_F th ye no) p (nI i))) 0 128)) : wpX_repairs post (p, va) := by
  unfold wpX_repairs
  dsimp only
  refine loop_0 (fun n i s => wX_repairs_4 post p va n s (nI i)) (fun i s => s = cf_it (cf_fc (fun i => cf_rep (cf_F th ye no) p (nI i))) 0 i) 128 0 rfl ?_ ?_
  · rintro n s rfl
    exact br_t cf_128 h
  · rintro n i s hi rfl rec
    refine br_f (cf_ge128 hi) (cf_xrep R ?_)
    cases e : cf_rep (cf_F th ye no) p (nI i)
    · exact br_t rfl (nm_r (nI_1 i) (rec _ (cf_its (cf_fc0 e))))
    · exact br_f (by decide) (nm_e (nm_r (nI_1 i) (rec _ (cf_its (cf_fc1 e)))))
theorem cf_xguilty {post : Int32 → Prop} {p : Int32} {va th ye no : Nat → Int32} (R : cf_R p va th ye no) (h : post (cf_it (cf_fo (fun i => cf_core (cf_F th ye no) p (nI i))) 0 128)) : wpX_guilty post (p, va) := by
  unfold wpX_guilty
  dsimp only
  refine loop_0 (fun n i s => wX_guilty_4 post p va n s (nI i)) (fun i s => s = cf_it (cf_fo (fun i => cf_core (cf_F th ye no) p (nI i))) 0 i) 128 0 rfl ?_ ?_
  · rintro n s rfl
    exact br_t cf_128 h
  · rintro n i s hi rfl rec
    refine br_f (cf_ge128 hi) (cf_xcore R ?_)
    cases e : cf_core (cf_F th ye no) p (nI i)
    · exact br_t rfl (nm_r (nI_1 i) (rec _ (cf_its (cf_fo0 e))))
    · exact br_f (by decide) (nm_e (nm_r (nI_1 i) (rec _ (cf_its (cf_fo1 e)))))
theorem cf_xcentral {post : Int32 → Prop} {p : Int32} {va th ye no : Nat → Int32} (R : cf_R p va th ye no) (h : post (cf_it (cf_fa (fun i => cf_core (cf_F th ye no) p (nI i))) p 128)) : wpX_central post (p, va) := by
  unfold wpX_central
  dsimp only
  refine loop_0 (fun n i s => wX_central_7 post p va n s (nI i)) (fun i s => s = cf_it (cf_fa (fun i => cf_core (cf_F th ye no) p (nI i))) p i) 128 p rfl ?_ ?_
  · rintro n s rfl
    exact br_t cf_128 h
  · rintro n i s hi rfl rec
    refine br_f (cf_ge128 hi) (cf_xcore R ?_)
    cases e : cf_core (cf_F th ye no) p (nI i)
    · exact br_t rfl (nm_r (nI_1 i) (rec _ (cf_its (cf_fa0 e))))
    · exact br_f (by decide) (nm_e (nm_r (nI_1 i) (rec _ (cf_its (cf_fa1 e)))))
theorem cf_xcoreN {post : Int32 → Prop} {p k : Int32} {va th ye no : Nat → Int32} (R : cf_R p va th ye no) (h : ∀ r, cf_first (cf_nth (fun i => cf_core (cf_F th ye no) p (nI i)) k) 128 r → post r) : wpX_core post (p, va) k := by
  unfold wpX_core
  dsimp only
  refine loop_0 (fun n i s => wX_core_4 post k p va n s (nI i)) (fun i s => s = cf_it (cf_fc (fun i => cf_core (cf_F th ye no) p (nI i))) 0 i ∧ ∀ j, j < i → cf_nth (fun i => cf_core (cf_F th ye no) p (nI i)) k j = false) 128 0 ⟨rfl, lt_0⟩ ?_ ?_
  · rintro n s ⟨rfl, I⟩
    exact br_t cf_128 (h _ (Or.inr ⟨I, rfl⟩))
  · rintro n i s hi ⟨rfl, I⟩ rec
    refine br_f (cf_ge128 hi) (cf_xcore R ?_)
    cases e : cf_core (cf_F th ye no) p (nI i)
    · exact br_t rfl (nm_r (nI_1 i) (rec _ ⟨cf_its (cf_fc0 e), lt_s I (cf_nth0 e)⟩))
    · refine br_f (by decide) (br_c (fun z => ?_) (fun z => ?_))
      · exact h _ (Or.inl ⟨i, hi, cf_nth1 e z, I, rfl⟩)
      · exact nm_e (nm_r (nI_1 i) (rec _ ⟨cf_its (cf_fc1 e), lt_s I (cf_nth2 z)⟩))
theorem cf_xrepairN {post : Int32 → Prop} {p k : Int32} {va th ye no : Nat → Int32} (R : cf_R p va th ye no) (h : ∀ r, cf_first (cf_nth (fun i => cf_rep (cf_F th ye no) p (nI i)) k) 128 r → post r) : wpX_repair post (p, va) k := by
  unfold wpX_repair
  dsimp only
  refine loop_0 (fun n i s => wX_repair_4 post k p va n s (nI i)) (fun i s => s = cf_it (cf_fc (fun i => cf_rep (cf_F th ye no) p (nI i))) 0 i ∧ ∀ j, j < i → cf_nth (fun i => cf_rep (cf_F th ye no) p (nI i)) k j = false) 128 0 ⟨rfl, lt_0⟩ ?_ ?_
  · rintro n s ⟨rfl, I⟩
    exact br_t cf_128 (h _ (Or.inr ⟨I, rfl⟩))
  · rintro n i s hi ⟨rfl, I⟩ rec
    refine br_f (cf_ge128 hi) (cf_xrep R ?_)
    cases e : cf_rep (cf_F th ye no) p (nI i)
    · exact br_t rfl (nm_r (nI_1 i) (rec _ ⟨cf_its (cf_fc0 e), lt_s I (cf_nth0 e)⟩))
    · refine br_f (by decide) (br_c (fun z => ?_) (fun z => ?_))
      · exact h _ (Or.inl ⟨i, hi, cf_nth1 e z, I, rfl⟩)
      · exact nm_e (nm_r (nI_1 i) (rec _ ⟨cf_its (cf_fc1 e), lt_s I (cf_nth2 z)⟩))
/-- the least size so far is -1 or no less than 0 -/
theorem cf_fsI (g : Nat → Bool) : ∀ n, cf_it (cf_fs g) (-1) n = -1 ∨ ¬ cf_it (cf_fs g) (-1) n < 0
  | 0 => Or.inl rfl
  | n + 1 => by
    show cf_fs g n (cf_it (cf_fs g) (-1) n) = -1 ∨ ¬ cf_fs g n (cf_it (cf_fs g) (-1) n) < 0
    have ih := cf_fsI g n
    cases e : g n
    · rw [cf_fs0 e]; exact ih
    · by_cases z : cf_it (cf_fs g) (-1) n < 0
      · rw [cf_fs1 e z]; exact Or.inr (cf_size_nn _).1
      · by_cases y : cf_it (cf_fs g) (-1) n ≤ cf_size (nI n)
        · rw [cf_fs2 e z y]; exact Or.inr z
        · rw [cf_fs3 e z y]; exact Or.inr (cf_size_nn _).1
theorem cf_xsmall {post : Int32 → Prop} {p : Int32} {va th ye no : Nat → Int32} (R : cf_R p va th ye no) (h : post (cf_it (cf_fs (fun i => cf_core (cf_F th ye no) p (nI i))) (-1) 128)) : wpX_smallestCore post (p, va) := by
  unfold wpX_smallestCore
  dsimp only
  refine loop_0 (fun n i s => wX_smallestCore_4 post p va n s (nI i)) (fun i s => s = cf_it (cf_fs (fun i => cf_core (cf_F th ye no) p (nI i))) (-1) i) 128 (-1) rfl ?_ ?_
  · rintro n s rfl
    exact br_t cf_128 h
  · rintro n i s hi rfl rec
    refine br_f (cf_ge128 hi) (cf_xcore R ?_)
    cases e : cf_core (cf_F th ye no) p (nI i)
    · exact br_t rfl (nm_r (nI_1 i) (rec _ (cf_its (cf_fs0 e))))
    · refine br_f (by decide) (cf_xsize ?_)
      have I := cf_fsI (fun i => cf_core (cf_F th ye no) p (nI i)) i
      refine br_c (fun z => ?_) (fun z => ?_)
      · exact nm_r (nI_1 i) (rec _ (cf_its (cf_fs1 e (by rw [z]; decide))))
      · have z' := I.resolve_left z
        refine br_c (fun y => ?_) (fun y => ?_)
        · exact nm_r (nI_1 i) (rec _ (cf_its (cf_fs2 e z' y)))
        · exact nm_r (nI_1 i) (rec _ (cf_its (cf_fs3 e z' y)))
theorem cf_xmost {post : Int32 → Prop} {p : Int32} {va th ye no : Nat → Int32} (R : cf_R p va th ye no) (h : post (cf_it (cf_fm (fun i => cf_sub (nI i) p && cf_F th ye no (nI i))) 0 128)) : wpX_mostTogether post (p, va) := by
  unfold wpX_mostTogether
  dsimp only
  refine loop_0 (fun n i s => wX_mostTogether_4 post p va n s (nI i)) (fun i s => s = cf_it (cf_fm (fun i => cf_sub (nI i) p && cf_F th ye no (nI i))) 0 i) 128 0 rfl ?_ ?_
  · rintro n s rfl
    exact br_t cf_128 h
  · rintro n i s hi rfl rec
    refine br_f (cf_ge128 hi) (cf_xpres ?_)
    cases e : cf_sub (nI i) p
    · exact br_t rfl (nm_r (nI_1 i) (rec _ (cf_its (cf_fm0 (by rw [e]; rfl)))))
    · refine br_f (by decide) (cf_xcan R (cf_subi.mp e) ?_)
      cases e2 : cf_F th ye no (nI i)
      · exact br_t rfl (nm_r (nI_1 i) (rec _ (cf_its (cf_fm0 (by rw [e, e2]; rfl)))))
      · refine br_f (by decide) (cf_xsize ?_)
        refine br_c (fun y => ?_) (fun y => ?_)
        · exact nm_r (nI_1 i) (rec _ (cf_its (cf_fm1 (by rw [e, e2]; rfl) y)))
        · exact nm_r (nI_1 i) (rec _ (cf_its (cf_fm2 (by rw [e, e2]; rfl) y)))
end
section
/-! Y: each private method at its value -/
theorem cf_1516 (x : Int32) : 15 < x ↔ 16 ≤ x := by
  rw [Int32.lt_iff_toInt_lt, Int32.le_iff_toInt_le, show (15 : Int32).toInt = 15 from by decide, show (16 : Int32).toInt = 16 from by decide]
  omega
theorem cf_67 (x : Int32) : 6 < x ↔ 7 ≤ x := by
  rw [Int32.lt_iff_toInt_lt, Int32.le_iff_toInt_le, show (6 : Int32).toInt = 6 from by decide, show (7 : Int32).toInt = 7 from by decide]
  omega
theorem cf_ylet {post : Int32 → Prop} {x : Int32} {th ye no fi : Nat → Int32} (h : post (cf_bi (cf_let x))) : wpY_letters post (th, ye, no, fi) x := by
  unfold wpY_letters
  dsimp only
  unfold cf_let at h
  refine br_c (fun z => ?_) (fun z => br_c (fun y => ?_) (fun y => ?_))
  · rw [decide_eq_true z] at h; exact h
  · rw [cf_1516] at y
    rw [decide_eq_false z, decide_eq_true y] at h; exact h
  · rw [cf_1516] at y
    rw [decide_eq_false z, decide_eq_false y] at h; exact h
theorem cf_yclauses {post : Int32 → Prop} {p : Int32} {th ye no fi : Nat → Int32} (hp : ∀ i, bt p i = (decide (i < 7) && !decide (th i = 0))) (h : post p) : wpY_clauses post (th, ye, no, fi) := by
  unfold wpY_clauses
  dsimp only
  refine loop_0 (fun n i s => wY_clauses_4 post th ye no fi n s (nI i)) (fun i s => ∀ j, bt s j = (decide (j < i) && !decide (th j = 0))) 7 0 ?_ ?_ ?_
  · intro j
    rw [b_0, decide_eq_false (by omega), Bool.false_and]
  · intro n s I
    have e : s = p := b_ext (fun i _ => by rw [I i, hp i])
    rw [e]
    exact br_t cf_7 h
  · intro n i s hi I rec
    refine br_f (cf_ge7 hi) ⟨vp_in_nI hi (by decide), ?_⟩
    rw [nI_clamp (by omega)]
    refine br_c (fun z => nm_r (nI_1 i) (rec s ?_)) (fun z => nm_e (nm_r (nI_1 i) (rec _ ?_)))
    · intro j
      rw [I j, cf_dlt]
      by_cases e : j = i
      · subst e
        rw [decide_eq_true z]; simp
      · rw [decide_eq_false e, Bool.or_false]
    · intro j
      rw [b_or, I j, cf_dlt, cf_one (by omega)]
      by_cases e : j = i
      · subst e
        rw [decide_eq_false z]; simp
      · rw [decide_eq_false e, Bool.or_false, Bool.or_false]
theorem cf_yholds {post : Int32 → Prop} {a b : Int32} {v : Nat} {th ye no fi : Nat → Int32} (h : post (cf_bi (cf_hold a b v))) : wpY_holds post (th, ye, no, fi) a b (nI v) := by
  unfold wpY_holds
  dsimp only
  refine br_c (fun z => br_c (fun y => ?_) (fun y => ?_)) (fun z => ?_)
  · rw [show cf_hold a b v = false from decide_eq_false (fun c => c ((cf_orz _ _).mpr ⟨z, y⟩))] at h; exact h
  · rw [show cf_hold a b v = true from decide_eq_true (fun c => y ((cf_orz _ _).mp c).2)] at h; exact h
  · rw [show cf_hold a b v = true from decide_eq_true (fun c => z ((cf_orz _ _).mp c).1)] at h; exact h
theorem cf_yall {post : Int32 → Prop} {S : Int32} {v : Nat} {th ye no fi : Nat → Int32} (h : post (cf_bi (cf_ok th ye no S v))) : wpY_allHold post (th, ye, no, fi) S (nI v) := by
  unfold wpY_allHold
  dsimp only
  refine loop_0 (fun n i s => wY_allHold_5 post S (nI v) th ye no fi n s (nI i)) (fun i s => s = cf_bi (cf_all (fun k => !bt S k || (decide (th k = 0) || cf_hold (ye k) (no k) v)) i)) 7 1 rfl ?_ ?_
  · rintro n s rfl
    exact br_t cf_7 ⟨cf_bin _, h⟩
  · rintro n i s hi rfl rec
    refine br_f (cf_ge7 hi) ?_
    cases e : cf_all (fun k => !bt S k || (decide (th k = 0) || cf_hold (ye k) (no k) v)) i
    · refine br_t rfl (nm_r (nI_1 i) (rec _ ?_))
      show 0 = cf_bi (cf_all _ i && _)
      rw [e]; rfl
    · refine br_f (by decide) (br_c (fun z => ?_) (fun z => ?_))
      · rw [cf_bit0 S (by omega)] at z
        refine nm_r (nI_1 i) (rec _ ?_)
        show 1 = cf_bi (cf_all _ i && (!bt S i || _))
        rw [e, z]; rfl
      · rw [cf_bit0 S (by omega)] at z
        have z' : bt S i = true := by cases y : bt S i; exact absurd y z; rfl
        refine ⟨vp_in_nI hi (by decide), ?_⟩
        rw [nI_clamp (by omega)]
        refine br_c (fun y => ?_) (fun y => ?_)
        · refine nm_r (nI_1 i) (rec _ ?_)
          show 1 = cf_bi (cf_all _ i && (!bt S i || (decide (th i = 0) || _)))
          rw [e, z', decide_eq_true y]; rfl
        · refine ⟨vp_in_nI hi (by decide), vp_in_nI hi (by decide), cf_yholds ?_⟩
          cases e2 : cf_hold (ye i) (no i) v
          · refine br_t rfl (nm_r (nI_1 i) (rec _ ?_))
            show 0 = cf_bi (cf_all _ i && (!bt S i || (decide (th i = 0) || cf_hold (ye i) (no i) v)))
            rw [e, z', decide_eq_false y, e2]; rfl
          · refine br_f (by decide) (nm_r (nI_1 i) (rec _ ?_))
            show 1 = cf_bi (cf_all _ i && (!bt S i || (decide (th i = 0) || cf_hold (ye i) (no i) v)))
            rw [e, z', e2, decide_eq_false y]; rfl
theorem cf_ywit {post : Int32 → Prop} {S : Int32} {th ye no fi : Nat → Int32} (h : ∀ r, cf_first (fun v => cf_ok th ye no S v) 16 r → post r) : wpY_witness post (th, ye, no, fi) S := by
  unfold wpY_witness
  dsimp only
  refine loop_0 (fun n i (_ : Unit) => wY_witness_2 post S th ye no fi n (nI i)) (fun i _ => ∀ j, j < i → cf_ok th ye no S j = false) 16 () lt_0 ?_ ?_
  · intro n s I
    exact br_t cf_16 (h _ (Or.inr ⟨I, rfl⟩))
  · intro n i s hi I rec
    refine br_f (cf_ge16 hi) (cf_yall ?_)
    cases e : cf_ok th ye no S i
    · exact br_t rfl (nm_r (nI_1 i) (rec () (lt_s I e)))
    · exact br_f (by decide) (h _ (Or.inl ⟨i, hi, e, I, rfl⟩))
theorem cf_ycons {post : Int32 → Prop} {S : Int32} {th ye no fi : Nat → Int32} (h : post (cf_bi (cf_F th ye no S))) : wpY_consistent post (th, ye, no, fi) S := by
  unfold wpY_consistent
  dsimp only
  refine cf_ywit (fun r hr => ?_)
  rcases hr with ⟨v, hv, g, _, rfl⟩ | ⟨nv, rfl⟩
  · rw [cf_Fi.mpr ⟨v, hv, g⟩] at h
    exact br_f (nI_pos (by omega)) h
  · have : cf_F th ye no S = false := by
      cases e : cf_F th ye no S
      · rfl
      · obtain ⟨v, hv, g⟩ := cf_Fi.mp e
        have := nv v hv
        dsimp only at this
        rw [g] at this; exact absurd this (by decide)
    rw [this] at h
    exact br_t (by decide) h
theorem cf_ywork {post : SY → Prop} {th ye no fi : Nat → Int32} (h : ∀ f, (∀ j, j < 128 → f j = cf_bi (cf_F th ye no (nI j))) → post (th, ye, no, f)) : wpY_work post (th, ye, no, fi) := by
  unfold wpY_work
  dsimp only
  refine loop_0 (fun n i s => wY_work_2 post n (nI i) th ye no s) (fun i s => ∀ j, j < i → s j = cf_bi (cf_F th ye no (nI j))) 128 fi lt_0 ?_ ?_
  · intro n s I
    exact br_t cf_128 (h s I)
  · intro n i s hi I rec
    refine br_f (cf_ge128 hi) (cf_ycons ⟨vp_in_nI hi (by decide), ?_⟩)
    rw [nI_clamp (by omega), cf_biv]
    refine nm_e (nm_r (nI_1 i) (rec _ ?_))
    intro j hj
    by_cases e : j = i
    · rw [e, pk_us]
    · rw [pk_un e]; exact I j (by omega)
/-- a set below 128 as an index -/
theorem cf_ix {x : Int32} {F : Int32 → Bool} {fi : Nat → Int32} (hf : ∀ j, j < 128 → fi j = cf_bi (F (nI j))) (hx : ∀ i, bt x i = true → i < 7) : vp_in x 128 ∧ fi x.toNatClampNeg = cf_bi (F x) := by
  obtain ⟨j, hj, rfl⟩ := cf_small hx
  exact ⟨vp_in_nI hj (by decide), by rw [cf_cl hj]; exact hf j hj⟩
theorem cf_ycore {post : Int32 → Prop} {p : Int32} {s : Nat} {F : Int32 → Bool} {th ye no fi : Nat → Int32} (hp : ∀ i, bt p i = (decide (i < 7) && !decide (th i = 0))) (hf : ∀ j, j < 128 → fi j = cf_bi (F (nI j))) (hs : s < 128) (h : post (cf_bi (cf_core F p (nI s)))) : wpY_isCore post (th, ye, no, fi) (nI s) := by
  unfold wpY_isCore
  dsimp only
  refine cf_yclauses hp ?_
  have L : ∀ b0 : Bool, b0 = (cf_sub (nI s) p && !F (nI s)) → ∃ n28, wY_isCore_28 post (nI s) th ye no fi n28 (cf_bi b0) 0 := by
    intro b0 hb
    refine loop_0 (fun n i a => wY_isCore_28 post (nI s) th ye no fi n a (nI i)) (fun i a => a = cf_bi (b0 && cf_all (fun k => !bt (nI s) k || F (cf_out (nI s) k)) i)) 7 (cf_bi b0) ?_ ?_ ?_
    · show cf_bi b0 = cf_bi (b0 && true)
      rw [Bool.and_true]
    · rintro n a rfl
      refine br_t cf_7 ⟨cf_bin _, ?_⟩
      rw [hb]; exact h
    · rintro n i a hi rfl rec
      refine br_f (cf_ge7 hi) ?_
      cases e : (b0 && cf_all (fun k => !bt (nI s) k || F (cf_out (nI s) k)) i)
      · refine br_t rfl (nm_r (nI_1 i) (rec _ ?_))
        show 0 = cf_bi (b0 && (cf_all _ i && _))
        rw [← Bool.and_assoc, e]; rfl
      · refine br_f (by decide) (br_c (fun z => ?_) (fun z => ?_))
        · rw [cf_bit0 _ (by omega)] at z
          refine nm_r (nI_1 i) (rec _ ?_)
          show 1 = cf_bi (b0 && (cf_all _ i && (!bt (nI s) i || _)))
          rw [← Bool.and_assoc, e, z]; rfl
        · rw [cf_bit0 _ (by omega)] at z
          have z' : bt (nI s) i = true := by cases y : bt (nI s) i; exact absurd y z; rfl
          have hx := cf_ix (x := cf_out (nI s) i) hf (fun j hj => by
            rw [cf_bout _ hi, Bool.and_eq_true] at hj
            exact cf_nb7 hs hj.1)
          refine ⟨hx.1, ?_⟩
          refine br_c (fun y => ?_) (fun y => ?_)
          · have y' := cf_biz.mp (hx.2.symm.trans y)
            refine nm_r (nI_1 i) (rec _ ?_)
            show 0 = cf_bi (b0 && (cf_all _ i && (!bt (nI s) i || F (cf_out (nI s) i))))
            rw [← Bool.and_assoc, e, z', y']; rfl
          · have y' : F (cf_out (nI s) i) = true := by
              cases w : F (cf_out (nI s) i)
              · exact absurd (hx.2.trans (cf_biz.mpr w)) y
              · rfl
            refine nm_r (nI_1 i) (rec _ ?_)
            show 1 = cf_bi (b0 && (cf_all _ i && (!bt (nI s) i || F (cf_out (nI s) i))))
            rw [← Bool.and_assoc, e, y', Bool.or_true]; rfl
  refine br_c (fun z => ⟨vp_in_nI hs (by decide), ?_⟩) (fun z => ?_)
  · rw [cf_cl hs, hf s hs]
    have zt : cf_sub (nI s) p = true := decide_eq_true z
    refine br_c (fun y => ?_) (fun y => ?_)
    · exact L true (by rw [zt, cf_biz.mp y]; rfl)
    · have y' : F (nI s) = true := by
        cases w : F (nI s)
        · exact absurd (cf_biz.mpr w) y
        · rfl
      exact L false (by rw [zt, y']; rfl)
  · have zf : cf_sub (nI s) p = false := decide_eq_false z
    exact L false (by rw [zf]; rfl)
theorem cf_yrep {post : Int32 → Prop} {p : Int32} {s : Nat} {F : Int32 → Bool} {th ye no fi : Nat → Int32} (hp : ∀ i, bt p i = (decide (i < 7) && !decide (th i = 0))) (hf : ∀ j, j < 128 → fi j = cf_bi (F (nI j))) (hF : ∀ S T : Int32, (∀ k, bt S k = true → bt T k = true) → F T = true → F S = true) (hs : s < 128) (h : post (cf_bi (cf_rep F p (nI s)))) : wpY_isRepair post (th, ye, no, fi) (nI s) := by
  rw [← cf_repeq hs hF] at h
  unfold wpY_isRepair
  dsimp only
  refine cf_yclauses hp ?_
  have hd : ∀ S : Int32, vp_in (p &&& (S ^^^ (-1))) 128 ∧ fi (p &&& (S ^^^ (-1))).toNatClampNeg = cf_bi (F (p &&& (S ^^^ (-1)))) := fun S =>
    cf_ix hf (fun i hi => by
      rw [cf_bdiff, hp i, Bool.and_eq_true, Bool.and_eq_true] at hi
      exact of_decide_eq_true hi.1.1)
  have L : ∀ b0 : Bool, b0 = (cf_sub (nI s) p && F (p &&& (nI s ^^^ (-1)))) → ∃ n35, wY_isRepair_35 post (nI s) p th ye no fi n35 (cf_bi b0) 0 := by
    intro b0 hb
    refine loop_0 (fun n i a => wY_isRepair_35 post (nI s) p th ye no fi n a (nI i)) (fun i a => a = cf_bi (b0 && cf_all (fun t => !cf_sub (nI t) (nI s) || !F (p &&& (nI t ^^^ (-1)))) i)) s (cf_bi b0) ?_ ?_ ?_
    · show cf_bi b0 = cf_bi (b0 && true)
      rw [Bool.and_true]
    · rintro n a rfl
      refine br_t (nI_le (Nat.le_refl _) (by omega)) ⟨cf_bin _, ?_⟩
      rw [hb]; exact h
    · rintro n i a hi rfl rec
      refine br_f (nI_ge hi (by omega)) ?_
      cases e : (b0 && cf_all (fun t => !cf_sub (nI t) (nI s) || !F (p &&& (nI t ^^^ (-1)))) i)
      · refine br_t rfl (nm_r (nI_1 i) (rec _ ?_))
        show 0 = cf_bi (b0 && (cf_all _ i && _))
        rw [← Bool.and_assoc, e]; rfl
      · refine br_f (by decide) (br_c (fun z => ⟨(hd _).1, ?_⟩) (fun z => ?_))
        · have zt : cf_sub (nI i) (nI s) = true := decide_eq_true z
          refine br_c (fun y => ?_) (fun y => ?_)
          · have y' := cf_biz.mp ((hd _).2.symm.trans y)
            refine nm_r (nI_1 i) (rec _ ?_)
            show 1 = cf_bi (b0 && (cf_all _ i && (!cf_sub (nI i) (nI s) || !F (p &&& (nI i ^^^ (-1))))))
            rw [← Bool.and_assoc, e, y', zt]; rfl
          · have y' : F (p &&& (nI i ^^^ (-1))) = true := by
              cases w : F (p &&& (nI i ^^^ (-1)))
              · exact absurd ((hd _).2.trans (cf_biz.mpr w)) y
              · rfl
            refine nm_r (nI_1 i) (rec _ ?_)
            show 0 = cf_bi (b0 && (cf_all _ i && (!cf_sub (nI i) (nI s) || !F (p &&& (nI i ^^^ (-1))))))
            rw [← Bool.and_assoc, e, y', zt]; rfl
        · have zf : cf_sub (nI i) (nI s) = false := decide_eq_false z
          refine nm_r (nI_1 i) (rec _ ?_)
          show 1 = cf_bi (b0 && (cf_all _ i && (!cf_sub (nI i) (nI s) || _)))
          rw [← Bool.and_assoc, e, zf]; rfl
  refine br_c (fun z => ⟨(hd _).1, ?_⟩) (fun z => ?_)
  · have zt : cf_sub (nI s) p = true := decide_eq_true z
    refine br_c (fun y => ?_) (fun y => ?_)
    · exact L false (by rw [zt, cf_biz.mp ((hd _).2.symm.trans y)]; rfl)
    · have y' : F (p &&& (nI s ^^^ (-1))) = true := by
        cases w : F (p &&& (nI s ^^^ (-1)))
        · exact absurd ((hd _).2.trans (cf_biz.mpr w)) y
        · rfl
      exact L true (by rw [zt, y']; rfl)
  · have zf : cf_sub (nI s) p = false := decide_eq_false z
    exact L false (by rw [zf]; rfl)
theorem cf_yones {post : Int32 → Prop} {S : Int32} {th ye no fi : Nat → Int32} (h : post (cf_size S)) : wpY_ones post (th, ye, no, fi) S := by
  unfold wpY_ones
  dsimp only
  refine loop_0 (fun n i s => wY_ones_4 post S th ye no fi n s (nI i)) (fun i s => s = cf_it (fun k a => a + cf_bi (bt S k)) 0 i) 7 0 rfl ?_ ?_
  · rintro n s rfl
    exact br_t cf_7 h
  · rintro n i s hi rfl rec
    refine br_f (cf_ge7 hi) (nm_e (nm_r (nI_1 i) (rec _ ?_)))
    rw [cf_bit S (by omega)]
    rfl
end
section
/-! Y's public methods -/
theorem cf_yadd {post : Int32 → SY → Prop} {a b : Int32} {th ye no fi : Nat → Int32}
    (h1 : (cf_let a && cf_let b) = false → post (-1) (th, ye, no, fi))
    (h2 : (cf_let a && cf_let b) = true → (∀ j, j < 7 → ¬ th j = 0) → post (-2) (th, ye, no, fi))
    (h3 : (cf_let a && cf_let b) = true → ∀ k, k < 7 → th k = 0 → (∀ j, j < k → ¬ th j = 0) → post (nI k) (upd th k 1, upd ye k a, upd no k b, fi)) :
    wpY_add post (th, ye, no, fi) a b := by
  unfold wpY_add
  dsimp only
  refine cf_ylet ?_
  cases e : cf_let a
  · exact br_t rfl (h1 (by rw [e]; rfl))
  · refine br_f (by decide) (cf_ylet ?_)
    cases e2 : cf_let b
    · exact br_t rfl (h1 (by rw [e, e2]; rfl))
    · refine br_f (by decide) ?_
      have hl : (cf_let a && cf_let b) = true := by rw [e, e2]; rfl
      refine loop_0 (fun n i (_ : Unit) => wY_add_20 post a b th ye no fi n (nI i)) (fun i _ => ∀ j, j < i → ¬ th j = 0) 7 () lt_0 ?_ ?_
      · intro n s I
        exact br_t cf_7 (h2 hl I)
      · intro n i s hi I rec
        have hv : vp_in (nI i) 7 := vp_in_nI hi (by decide)
        refine br_f (cf_ge7 hi) ⟨hv, ?_⟩
        rw [nI_clamp (by omega)]
        refine br_c (fun z => ?_) (fun z => nm_r (nI_1 i) (rec () (lt_s I z)))
        exact ⟨hv, nm_r (e' := upd th i 1) rfl ⟨hv, nm_e ⟨hv, nm_e (h3 hl i hi z I)⟩⟩⟩
theorem cf_yfol {post : Int32 → Prop} {a b : Int32} {th ye no fi : Nat → Int32} (h : post (cf_bi (cf_fol th ye no a b))) : wpY_follows post (th, ye, no, fi) a b := by
  unfold wpY_follows
  dsimp only
  have L : ∀ b0 : Bool, b0 = (cf_let a && cf_let b) → ∃ n25, wY_follows_25 post a b th ye no fi n25 (cf_bi b0) 0 := by
    intro b0 hb
    refine loop_0 (fun n i s => wY_follows_25 post a b th ye no fi n s (nI i)) (fun i s => s = cf_bi (b0 && cf_all (fun v => !cf_ok th ye no 127 v || cf_hold a b v) i)) 16 (cf_bi b0) ?_ ?_ ?_
    · show cf_bi b0 = cf_bi (b0 && true)
      rw [Bool.and_true]
    · rintro n s rfl
      refine br_t cf_16 ⟨cf_bin _, ?_⟩
      rw [hb]; exact h
    · rintro n i s hi rfl rec
      refine br_f (cf_ge16 hi) ?_
      cases e : (b0 && cf_all (fun v => !cf_ok th ye no 127 v || cf_hold a b v) i)
      · refine br_t rfl (nm_r (nI_1 i) (rec _ ?_))
        show 0 = cf_bi (b0 && (cf_all _ i && _))
        rw [← Bool.and_assoc, e]; rfl
      · refine br_f (by decide) (cf_yall ?_)
        cases e2 : cf_ok th ye no 127 i
        · refine br_t rfl (nm_r (nI_1 i) (rec _ ?_))
          show 1 = cf_bi (b0 && (cf_all _ i && (!cf_ok th ye no 127 i || _)))
          rw [← Bool.and_assoc, e, e2]; rfl
        · refine br_f (by decide) (cf_yholds ?_)
          cases e3 : cf_hold a b i
          · refine br_t rfl (nm_r (nI_1 i) (rec _ ?_))
            show 0 = cf_bi (b0 && (cf_all _ i && (!cf_ok th ye no 127 i || cf_hold a b i)))
            rw [← Bool.and_assoc, e, e2, e3]; rfl
          · refine br_f (by decide) (nm_r (nI_1 i) (rec _ ?_))
            show 1 = cf_bi (b0 && (cf_all _ i && (!cf_ok th ye no 127 i || cf_hold a b i)))
            rw [← Bool.and_assoc, e, e2, e3]; rfl
  refine cf_ylet ?_
  cases e : cf_let a
  · exact br_t rfl (L false (by rw [e]; rfl))
  · refine br_f (by decide) (cf_ylet ?_)
    cases e2 : cf_let b
    · exact br_t rfl (L false (by rw [e, e2]; rfl))
    · exact br_f (by decide) (L true (by rw [e, e2]; rfl))
end
section
/-! Y's walks over the 128 sets -/
theorem cf_ycores {post : Int32 → SY → Prop} {p : Int32} {th ye no fi : Nat → Int32} (hp : ∀ i, bt p i = (decide (i < 7) && !decide (th i = 0))) (h : ∀ f, post (cf_it (cf_fc (fun i => cf_core (cf_F th ye no) p (nI i))) 0 128) (th, ye, no, f)) : wpY_cores post (th, ye, no, fi) := by
  unfold wpY_cores
  dsimp only
  refine cf_ywork (fun f hf => ?_)
  refine loop_0 (fun n i s => wY_cores_8 post th ye no f n s (nI i)) (fun i s => s = cf_it (cf_fc (fun i => cf_core (cf_F th ye no) p (nI i))) 0 i) 128 0 rfl ?_ ?_
  · rintro n s rfl
    exact br_t cf_128 (h f)
  · rintro n i s hi rfl rec
    refine br_f (cf_ge128 hi) (cf_ycore hp hf hi ?_)
    cases e : cf_core (cf_F th ye no) p (nI i)
    · exact br_t rfl (nm_r (nI_1 i) (rec _ (cf_its (cf_fc0 e))))
    · exact br_f (by decide) (nm_e (nm_r (nI_1 i) (rec _ (cf_its (cf_fc1 e)))))
theorem cf_yrepairs {post : Int32 → SY → Prop} {p : Int32} {th ye no fi : Nat → Int32} (hp : ∀ i, bt p i = (decide (i < 7) && !decide (th i = 0))) (h : ∀ f, post (cf_it (cf_fc (fun i => cf_rep (cf_F th ye no) p (nI i))) 0 128) (th, ye, no, f)) : wpY_repairs post (th, ye, no, fi) := by
  unfold wpY_repairs
  dsimp only
  refine cf_ywork (fun f hf => ?_)
  refine loop_0 (fun n i s => wY_repairs_8 post th ye no f n s (nI i)) (fun i s => s = cf_it (cf_fc (fun i => cf_rep (cf_F th ye no) p (nI i))) 0 i) 128 0 rfl ?_ ?_
  · rintro n s rfl
    exact br_t cf_128 (h f)
  · rintro n i s hi rfl rec
    refine br_f (cf_ge128 hi) (cf_yrep hp hf (fun _ _ => cf_Fmono) hi ?_)
    cases e : cf_rep (cf_F th ye no) p (nI i)
    · exact br_t rfl (nm_r (nI_1 i) (rec _ (cf_its (cf_fc0 e))))
    · exact br_f (by decide) (nm_e (nm_r (nI_1 i) (rec _ (cf_its (cf_fc1 e)))))
theorem cf_yguilty {post : Int32 → SY → Prop} {p : Int32} {th ye no fi : Nat → Int32} (hp : ∀ i, bt p i = (decide (i < 7) && !decide (th i = 0))) (h : ∀ f, post (cf_it (cf_fo (fun i => cf_core (cf_F th ye no) p (nI i))) 0 128) (th, ye, no, f)) : wpY_guilty post (th, ye, no, fi) := by
  unfold wpY_guilty
  dsimp only
  refine cf_ywork (fun f hf => ?_)
  refine loop_0 (fun n i s => wY_guilty_8 post th ye no f n s (nI i)) (fun i s => s = cf_it (cf_fo (fun i => cf_core (cf_F th ye no) p (nI i))) 0 i) 128 0 rfl ?_ ?_
  · rintro n s rfl
    exact br_t cf_128 (h f)
  · rintro n i s hi rfl rec
    refine br_f (cf_ge128 hi) (cf_ycore hp hf hi ?_)
    cases e : cf_core (cf_F th ye no) p (nI i)
    · exact br_t rfl (nm_r (nI_1 i) (rec _ (cf_its (cf_fo0 e))))
    · exact br_f (by decide) (nm_e (nm_r (nI_1 i) (rec _ (cf_its (cf_fo1 e)))))
theorem cf_ycentral {post : Int32 → SY → Prop} {p : Int32} {th ye no fi : Nat → Int32} (hp : ∀ i, bt p i = (decide (i < 7) && !decide (th i = 0))) (h : ∀ f, post (cf_it (cf_fa (fun i => cf_core (cf_F th ye no) p (nI i))) p 128) (th, ye, no, f)) : wpY_central post (th, ye, no, fi) := by
  unfold wpY_central
  dsimp only
  refine cf_ywork (fun f hf => ?_)
  refine cf_yclauses hp ?_
  refine loop_0 (fun n i s => wY_central_11 post th ye no f n s (nI i)) (fun i s => s = cf_it (cf_fa (fun i => cf_core (cf_F th ye no) p (nI i))) p i) 128 p rfl ?_ ?_
  · rintro n s rfl
    exact br_t cf_128 (h f)
  · rintro n i s hi rfl rec
    refine br_f (cf_ge128 hi) (cf_ycore hp hf hi ?_)
    cases e : cf_core (cf_F th ye no) p (nI i)
    · exact br_t rfl (nm_r (nI_1 i) (rec _ (cf_its (cf_fa0 e))))
    · exact br_f (by decide) (nm_e (nm_r (nI_1 i) (rec _ (cf_its (cf_fa1 e)))))
theorem cf_ycoreN {post : Int32 → SY → Prop} {p k : Int32} {th ye no fi : Nat → Int32} (hp : ∀ i, bt p i = (decide (i < 7) && !decide (th i = 0))) (h : ∀ r f, cf_first (cf_nth (fun i => cf_core (cf_F th ye no) p (nI i)) k) 128 r → post r (th, ye, no, f)) : wpY_core post (th, ye, no, fi) k := by
  unfold wpY_core
  dsimp only
  refine cf_ywork (fun f hf => ?_)
  refine loop_0 (fun n i s => wY_core_8 post k th ye no f n s (nI i)) (fun i s => s = cf_it (cf_fc (fun i => cf_core (cf_F th ye no) p (nI i))) 0 i ∧ ∀ j, j < i → cf_nth (fun i => cf_core (cf_F th ye no) p (nI i)) k j = false) 128 0 ⟨rfl, lt_0⟩ ?_ ?_
  · rintro n s ⟨rfl, I⟩
    exact br_t cf_128 (h _ f (Or.inr ⟨I, rfl⟩))
  · rintro n i s hi ⟨rfl, I⟩ rec
    refine br_f (cf_ge128 hi) (cf_ycore hp hf hi ?_)
    cases e : cf_core (cf_F th ye no) p (nI i)
    · exact br_t rfl (nm_r (nI_1 i) (rec _ ⟨cf_its (cf_fc0 e), lt_s I (cf_nth0 e)⟩))
    · refine br_f (by decide) (br_c (fun z => ?_) (fun z => ?_))
      · exact h _ f (Or.inl ⟨i, hi, cf_nth1 e z, I, rfl⟩)
      · exact nm_e (nm_r (nI_1 i) (rec _ ⟨cf_its (cf_fc1 e), lt_s I (cf_nth2 z)⟩))
theorem cf_yrepairN {post : Int32 → SY → Prop} {p k : Int32} {th ye no fi : Nat → Int32} (hp : ∀ i, bt p i = (decide (i < 7) && !decide (th i = 0))) (h : ∀ r f, cf_first (cf_nth (fun i => cf_rep (cf_F th ye no) p (nI i)) k) 128 r → post r (th, ye, no, f)) : wpY_repair post (th, ye, no, fi) k := by
  unfold wpY_repair
  dsimp only
  refine cf_ywork (fun f hf => ?_)
  refine loop_0 (fun n i s => wY_repair_8 post k th ye no f n s (nI i)) (fun i s => s = cf_it (cf_fc (fun i => cf_rep (cf_F th ye no) p (nI i))) 0 i ∧ ∀ j, j < i → cf_nth (fun i => cf_rep (cf_F th ye no) p (nI i)) k j = false) 128 0 ⟨rfl, lt_0⟩ ?_ ?_
  · rintro n s ⟨rfl, I⟩
    exact br_t cf_128 (h _ f (Or.inr ⟨I, rfl⟩))
  · rintro n i s hi ⟨rfl, I⟩ rec
    refine br_f (cf_ge128 hi) (cf_yrep hp hf (fun _ _ => cf_Fmono) hi ?_)
    cases e : cf_rep (cf_F th ye no) p (nI i)
    · exact br_t rfl (nm_r (nI_1 i) (rec _ ⟨cf_its (cf_fc0 e), lt_s I (cf_nth0 e)⟩))
    · refine br_f (by decide) (br_c (fun z => ?_) (fun z => ?_))
      · exact h _ f (Or.inl ⟨i, hi, cf_nth1 e z, I, rfl⟩)
      · exact nm_e (nm_r (nI_1 i) (rec _ ⟨cf_its (cf_fc1 e), lt_s I (cf_nth2 z)⟩))
theorem cf_ysmall {post : Int32 → SY → Prop} {p : Int32} {th ye no fi : Nat → Int32} (hp : ∀ i, bt p i = (decide (i < 7) && !decide (th i = 0))) (h : ∀ f, post (cf_it (cf_fs (fun i => cf_core (cf_F th ye no) p (nI i))) (-1) 128) (th, ye, no, f)) : wpY_smallestCore post (th, ye, no, fi) := by
  unfold wpY_smallestCore
  dsimp only
  refine cf_ywork (fun f hf => ?_)
  refine loop_0 (fun n i s => wY_smallestCore_8 post th ye no f n s (nI i)) (fun i s => s = cf_it (cf_fs (fun i => cf_core (cf_F th ye no) p (nI i))) (-1) i) 128 (-1) rfl ?_ ?_
  · rintro n s rfl
    exact br_t cf_128 (h f)
  · rintro n i s hi rfl rec
    refine br_f (cf_ge128 hi) (cf_yones (cf_ycore hp hf hi ?_))
    cases e : cf_core (cf_F th ye no) p (nI i)
    · exact br_t rfl (nm_r (nI_1 i) (rec _ (cf_its (cf_fs0 e))))
    · refine br_f (by decide) (br_c (fun z => ?_) (fun z => br_c (fun y => ?_) (fun y => ?_)))
      · exact nm_r (nI_1 i) (rec _ (cf_its (cf_fs1 e z)))
      · exact nm_r (nI_1 i) (rec _ (cf_its (cf_fs2 e z y)))
      · exact nm_r (nI_1 i) (rec _ (cf_its (cf_fs3 e z y)))
theorem cf_ymost {post : Int32 → SY → Prop} {p : Int32} {th ye no fi : Nat → Int32} (hp : ∀ i, bt p i = (decide (i < 7) && !decide (th i = 0))) (h : ∀ f, post (cf_it (cf_fm (fun i => cf_sub (nI i) p && cf_F th ye no (nI i))) 0 128) (th, ye, no, f)) : wpY_mostTogether post (th, ye, no, fi) := by
  unfold wpY_mostTogether
  dsimp only
  refine cf_ywork (fun f hf => ?_)
  refine loop_0 (fun n i s => wY_mostTogether_8 post th ye no f n s (nI i)) (fun i s => s = cf_it (cf_fm (fun i => cf_sub (nI i) p && cf_F th ye no (nI i))) 0 i) 128 0 rfl ?_ ?_
  · rintro n s rfl
    exact br_t cf_128 (h f)
  · rintro n i s hi rfl rec
    refine br_f (cf_ge128 hi) (cf_yones (cf_yclauses hp ?_))
    refine br_c (fun z => ⟨vp_in_nI hi (by decide), ?_⟩) (fun z => ?_)
    · have zt : cf_sub (nI i) p = true := decide_eq_true z
      rw [cf_cl hi, hf i hi]
      cases e : cf_F th ye no (nI i)
      · exact br_t rfl (nm_r (nI_1 i) (rec _ (cf_its (cf_fm0 (by rw [zt, e]; rfl)))))
      · refine br_f (by decide) (br_c (fun y => ?_) (fun y => ?_))
        · exact nm_r (nI_1 i) (rec _ (cf_its (cf_fm1 (by rw [zt, e]; rfl) y)))
        · exact nm_r (nI_1 i) (rec _ (cf_its (cf_fm2 (by rw [zt, e]; rfl) y)))
    · have zf : cf_sub (nI i) p = false := decide_eq_false z
      exact nm_r (nI_1 i) (rec _ (cf_its (cf_fm0 (by rw [zf]; rfl))))
end
section
/-! what is owed -/
/-- bit k of present says that clause k is there; the values kept for it are those at which the clause holds -/
def i_Rel (_ : Nat) (u : SX) (v : SY) : Prop := cf_R u.1 u.2 v.1 v.2.1 v.2.2.1
theorem i_up {k : Nat} {u : SX} {v : SY} (h : i_Rel k u v) : i_Rel (k + 3) u v := h
theorem i_vc0 : wpX_init (fun u => wpY_init (fun v => i_Rel 0 u v)) :=
  ⟨fun i => by show bt 0 i = (decide (i < 7) && !decide ((0 : Int32) = 0)); rw [b_0, decide_eq_true rfl]; exact (Bool.and_false _).symm, fun _ _ z => absurd rfl z⟩
theorem i_vc_add {k : Nat} {u : SX} {v : SY} (I : i_Rel k u v) (hk : k + 3 ≤ 1536) (v1 : Int32) (v2 : Int32) : wpX_add (fun r u' => wpY_add (fun r' v' => r' = r ∧ i_Rel (k + 3) u' v') v v1 v2) u v1 v2 := by
  obtain ⟨p, va⟩ := u
  obtain ⟨th, ye, no, fi⟩ := v
  have R : cf_R p va th ye no := I
  refine cf_xadd (fun hl => ?_) (fun hl hx => ?_) (fun hl j hj hf hx w hw => ?_)
  · refine cf_yadd (fun _ => ⟨rfl, R⟩) (fun hl2 _ => ?_) (fun hl2 _ _ _ _ => ?_)
    · rw [hl] at hl2; exact absurd hl2 (by decide)
    · rw [hl] at hl2; exact absurd hl2 (by decide)
  · refine cf_yadd (fun hl2 => ?_) (fun _ _ => ⟨rfl, R⟩) (fun _ m hm hz _ => ?_)
    · rw [hl] at hl2; exact absurd hl2 (by decide)
    · have := hx m hm
      rw [cf_Rt R hm, decide_eq_true hz] at this
      exact absurd this (by decide)
  · have hz : th j = 0 := by
      rw [cf_Rt R hj] at hf
      simpa using hf
    refine cf_yadd (fun hl2 => ?_) (fun _ hy => absurd hz (hy j hj)) (fun _ m hm hmz hy => ?_)
    · rw [hl] at hl2; exact absurd hl2 (by decide)
    · have e : m = j := by
        rcases Nat.lt_trichotomy m j with g | g | g
        · have := hx m g
          rw [cf_Rt R hm, decide_eq_true hmz] at this
          exact absurd this (by decide)
        · exact g
        · exact absurd hz (hy j g)
      subst e
      refine ⟨rfl, ?_, ?_⟩
      · intro i
        show bt (cf_in p m) i = (decide (i < 7) && !decide (upd th m 1 i = 0))
        rw [cf_bin' p hm]
        by_cases g : i = m
        · subst g
          rw [pk_us, decide_eq_true rfl, decide_eq_true hm, Bool.or_true]; rfl
        · rw [pk_un g, decide_eq_false g, Bool.or_false]
          exact R.1 i
      · intro i hi hn x hx16
        show bt (upd va m w i) x = cf_hold (upd ye m v1 i) (upd no m v2 i) x
        by_cases g : i = m
        · subst g
          rw [pk_us, pk_us, pk_us, hw x, decide_eq_true hx16, Bool.true_and]
        · rw [pk_un g, pk_un g, pk_un g]
          have hn' : ¬ upd th m 1 i = 0 := hn
          rw [pk_un g] at hn'
          exact R.2 i hi hn' x hx16
theorem i_vc_remove {k : Nat} {u : SX} {v : SY} (I : i_Rel k u v) (hk : k + 3 ≤ 1536) (v1 : Int32) : wpX_remove (fun r u' => wpY_remove (fun r' v' => r' = r ∧ i_Rel (k + 3) u' v') v v1) u v1 := by
  obtain ⟨p, va⟩ := u
  obtain ⟨th, ye, no, fi⟩ := v
  have R : cf_R p va th ye no := I
  unfold wpX_remove wpY_remove
  dsimp only
  by_cases h0 : v1 < 0
  · exact br_t h0 (br_t h0 ⟨rfl, R⟩)
  · by_cases h7 : 7 ≤ v1
    · exact br_f h0 (br_t h7 (br_f h0 (br_t ((cf_67 v1).mpr h7) ⟨rfl, R⟩)))
    · have h6 : ¬ 6 < v1 := fun z => h7 ((cf_67 v1).mp z)
      obtain ⟨j, hj, rfl⟩ := nI_of h0
      have hj7 : j < 7 := by
        rcases Nat.lt_or_ge j 7 with g | g
        · exact g
        · exact absurd (nI_le (a := 7) g hj) h7
      have hv : vp_in (nI j) 7 := vp_in_nI hj7 (by decide)
      refine br_f h0 (br_f h7 (cf_xhas (by omega) ?_))
      rw [nI_clamp hj]
      by_cases z : th j = 0
      · have e : bt p j = false := by rw [cf_Rt R hj7, decide_eq_true z]; rfl
        rw [e]
        exact br_t rfl (br_f h0 (br_f h6 ⟨hv, br_t z ⟨rfl, R⟩⟩))
      · have e : bt p j = true := by rw [cf_Rt R hj7, decide_eq_false z]; rfl
        rw [e]
        refine br_f (by decide) (cf_xwithout (br_f h0 (br_f h6 ⟨hv, br_f z ⟨hv, nm_r (e' := upd th j 0) rfl ⟨rfl, ?_, ?_⟩⟩⟩)))
        · intro i
          show bt (cf_out p j) i = (decide (i < 7) && !decide (upd th j 0 i = 0))
          rw [cf_bout p hj7]
          by_cases g : i = j
          · subst g
            rw [pk_us, decide_eq_true rfl, decide_eq_true rfl]; simp
          · rw [pk_un g, decide_eq_false g, R.1 i]; simp
        · intro i hi hn x hx
          by_cases g : i = j
          · subst g
            exact absurd pk_us hn
          · have hn' : ¬ upd th j 0 i = 0 := hn
            rw [pk_un g] at hn'
            exact R.2 i hi hn' x hx
theorem i_vc_clauses {k : Nat} {u : SX} {v : SY} (I : i_Rel k u v) (hk : k + 3 ≤ 1536) : wpX_clauses (fun r => wpY_clauses (fun r' => r' = r ∧ i_Rel (k + 3) u v) v) u := by
  obtain ⟨p, va⟩ := u
  obtain ⟨th, ye, no, fi⟩ := v
  have R : cf_R p va th ye no := I
  unfold wpX_clauses
  dsimp only
  exact cf_yclauses R.1 ⟨rfl, R⟩
theorem i_vc_consistent {k : Nat} {u : SX} {v : SY} (I : i_Rel k u v) (hk : k + 3 ≤ 1536) (v1 : Int32) : wpX_consistent (fun r => wpY_consistent (fun r' => r' = r ∧ i_Rel (k + 3) u v) v v1) u v1 := by
  obtain ⟨p, va⟩ := u
  obtain ⟨th, ye, no, fi⟩ := v
  have R : cf_R p va th ye no := I
  exact cf_xcons R (cf_ycons ⟨rfl, R⟩)
theorem i_vc_witness {k : Nat} {u : SX} {v : SY} (I : i_Rel k u v) (hk : k + 3 ≤ 1536) (v1 : Int32) : wpX_witness (fun r => wpY_witness (fun r' => r' = r ∧ i_Rel (k + 3) u v) v v1) u v1 := by
  obtain ⟨p, va⟩ := u
  obtain ⟨th, ye, no, fi⟩ := v
  have R : cf_R p va th ye no := I
  exact cf_xwit R (fun r hr => cf_ywit (fun r' hr' => ⟨cf_firstu (fun _ _ => rfl) hr hr', R⟩))
theorem i_vc_cores {k : Nat} {u : SX} {v : SY} (I : i_Rel k u v) (hk : k + 3 ≤ 1536) : wpX_cores (fun r => wpY_cores (fun r' v' => r' = r ∧ i_Rel (k + 3) u v') v) u := by
  obtain ⟨p, va⟩ := u
  obtain ⟨th, ye, no, fi⟩ := v
  have R : cf_R p va th ye no := I
  exact cf_xcores R (cf_ycores R.1 (fun _ => ⟨rfl, R⟩))
theorem i_vc_core {k : Nat} {u : SX} {v : SY} (I : i_Rel k u v) (hk : k + 3 ≤ 1536) (v1 : Int32) : wpX_core (fun r => wpY_core (fun r' v' => r' = r ∧ i_Rel (k + 3) u v') v v1) u v1 := by
  obtain ⟨p, va⟩ := u
  obtain ⟨th, ye, no, fi⟩ := v
  have R : cf_R p va th ye no := I
  exact cf_xcoreN R (fun r hr => cf_ycoreN R.1 (fun r' _ hr' => ⟨cf_firstu (fun _ _ => rfl) hr hr', R⟩))
theorem i_vc_repairs {k : Nat} {u : SX} {v : SY} (I : i_Rel k u v) (hk : k + 3 ≤ 1536) : wpX_repairs (fun r => wpY_repairs (fun r' v' => r' = r ∧ i_Rel (k + 3) u v') v) u := by
  obtain ⟨p, va⟩ := u
  obtain ⟨th, ye, no, fi⟩ := v
  have R : cf_R p va th ye no := I
  exact cf_xrepairs R (cf_yrepairs R.1 (fun _ => ⟨rfl, R⟩))
theorem i_vc_repair {k : Nat} {u : SX} {v : SY} (I : i_Rel k u v) (hk : k + 3 ≤ 1536) (v1 : Int32) : wpX_repair (fun r => wpY_repair (fun r' v' => r' = r ∧ i_Rel (k + 3) u v') v v1) u v1 := by
  obtain ⟨p, va⟩ := u
  obtain ⟨th, ye, no, fi⟩ := v
  have R : cf_R p va th ye no := I
  exact cf_xrepairN R (fun r hr => cf_yrepairN R.1 (fun r' _ hr' => ⟨cf_firstu (fun _ _ => rfl) hr hr', R⟩))
theorem i_vc_guilty {k : Nat} {u : SX} {v : SY} (I : i_Rel k u v) (hk : k + 3 ≤ 1536) : wpX_guilty (fun r => wpY_guilty (fun r' v' => r' = r ∧ i_Rel (k + 3) u v') v) u := by
  obtain ⟨p, va⟩ := u
  obtain ⟨th, ye, no, fi⟩ := v
  have R : cf_R p va th ye no := I
  exact cf_xguilty R (cf_yguilty R.1 (fun _ => ⟨rfl, R⟩))
theorem i_vc_central {k : Nat} {u : SX} {v : SY} (I : i_Rel k u v) (hk : k + 3 ≤ 1536) : wpX_central (fun r => wpY_central (fun r' v' => r' = r ∧ i_Rel (k + 3) u v') v) u := by
  obtain ⟨p, va⟩ := u
  obtain ⟨th, ye, no, fi⟩ := v
  have R : cf_R p va th ye no := I
  exact cf_xcentral R (cf_ycentral R.1 (fun _ => ⟨rfl, R⟩))
theorem i_vc_smallestCore {k : Nat} {u : SX} {v : SY} (I : i_Rel k u v) (hk : k + 3 ≤ 1536) : wpX_smallestCore (fun r => wpY_smallestCore (fun r' v' => r' = r ∧ i_Rel (k + 3) u v') v) u := by
  obtain ⟨p, va⟩ := u
  obtain ⟨th, ye, no, fi⟩ := v
  have R : cf_R p va th ye no := I
  exact cf_xsmall R (cf_ysmall R.1 (fun _ => ⟨rfl, R⟩))
theorem i_vc_mostTogether {k : Nat} {u : SX} {v : SY} (I : i_Rel k u v) (hk : k + 3 ≤ 1536) : wpX_mostTogether (fun r => wpY_mostTogether (fun r' v' => r' = r ∧ i_Rel (k + 3) u v') v) u := by
  obtain ⟨p, va⟩ := u
  obtain ⟨th, ye, no, fi⟩ := v
  have R : cf_R p va th ye no := I
  exact cf_xmost R (cf_ymost R.1 (fun _ => ⟨rfl, R⟩))
theorem i_vc_follows {k : Nat} {u : SX} {v : SY} (I : i_Rel k u v) (hk : k + 3 ≤ 1536) (v1 : Int32) (v2 : Int32) : wpX_follows (fun r => wpY_follows (fun r' => r' = r ∧ i_Rel (k + 3) u v) v v1 v2) u v1 v2 := by
  obtain ⟨p, va⟩ := u
  obtain ⟨th, ye, no, fi⟩ := v
  have R : cf_R p va th ye no := I
  exact cf_xfol R (cf_yfol ⟨rfl, R⟩)
end
