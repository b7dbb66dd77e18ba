/-! the picture: what both sides answer -/
/-- a clause (pos, neg) holds at the values v -/
def cf_hold (p n : Int32) (v : Nat) : Bool := decide (¬ ((p &&& nI v) ||| (n &&& (nI v ^^^ (-1)))) = 0)
/-- all clauses of the set S that are there hold at v -/
def cf_ok (th ye no : Nat → Int32) (S : Int32) (v : Nat) : Bool := cf_all (fun k => !bt S k || (decide (th k = 0) || cf_hold (ye k) (no k) v)) 7
/-- the set S is consistent -/
def cf_F (th ye no : Nat → Int32) (S : Int32) : Bool := !cf_all (fun v => !cf_ok th ye no S v) 16
/-- the numbers' sets -/
def cf_out (S : Int32) (k : Nat) : Int32 := S &&& (((1 : Int32) <<< (nI k &&& 31)) ^^^ (-1))
def cf_in (S : Int32) (k : Nat) : Int32 := S ||| ((1 : Int32) <<< (nI k &&& 31))
def cf_sub (S p : Int32) : Bool := decide ((S &&& (p ^^^ (-1))) = 0)
def cf_core (F : Int32 → Bool) (p S : Int32) : Bool := cf_sub S p && !F S && cf_all (fun k => !bt S k || F (cf_out S k)) 7
def cf_rep (F : Int32 → Bool) (p S : Int32) : Bool := cf_sub S p && F (p &&& (S ^^^ (-1))) && cf_all (fun k => !bt S k || !F (cf_in (p &&& (S ^^^ (-1))) k)) 7
/-- the relation -/
def cf_R (p : Int32) (va th ye no : Nat → Int32) : Prop :=
  (∀ i, bt p i = (decide (i < 7) && !decide (th i = 0))) ∧ (∀ i, i < 7 → ¬ th i = 0 → ∀ w, w < 16 → bt (va i) w = cf_hold (ye i) (no i) w)
theorem cf_R7 {p : Int32} {va th ye no : Nat → Int32} (h : cf_R p va th ye no) {i : Nat} (g : bt p i = true) : i < 7 := by
  rw [h.1 i, Bool.and_eq_true] at g
  exact of_decide_eq_true g.1
theorem cf_Rt {p : Int32} {va th ye no : Nat → Int32} (h : cf_R p va th ye no) {i : Nat} (hi : i < 7) : bt p i = !decide (th i = 0) := by
  rw [h.1 i, decide_eq_true hi, Bool.true_and]
theorem cf_bout (S : Int32) {k : Nat} (hk : k < 7) (i : Nat) : bt (cf_out S k) i = (bt S i && !decide (i = k)) := by
  unfold cf_out
  rcases Nat.lt_or_ge i 32 with hi | hi
  · rw [b_and, cf_not _ hi, cf_one (by omega)]
  · rw [b_big hi, b_big hi, Bool.false_and]
theorem cf_bin' (S : Int32) {k : Nat} (hk : k < 7) (i : Nat) : bt (cf_in S k) i = (bt S i || decide (i = k)) := by
  unfold cf_in
  rw [b_or, cf_one (by omega)]
/-- less clauses hold more easily -/
theorem cf_okmono {th ye no : Nat → Int32} {S T : Int32} {v : Nat} (h : ∀ k, k < 7 → bt S k = true → ¬ th k = 0 → bt T k = true) (g : cf_ok th ye no T v = true) : cf_ok th ye no S v = true := by
  unfold cf_ok at g ⊢
  rw [cf_alli] at g ⊢
  intro k hk
  have := g k hk
  cases hs : bt S k
  · rfl
  · by_cases z : th k = 0
    · rw [decide_eq_true z]; rfl
    · rw [h k hk hs z] at this
      simpa using this
theorem cf_okc {th ye no : Nat → Int32} {S T : Int32} {v : Nat} (h : ∀ k, k < 7 → ¬ th k = 0 → bt S k = bt T k) : cf_ok th ye no S v = cf_ok th ye no T v := by
  apply Bool.eq_iff_iff.mpr
  exact ⟨cf_okmono (fun k hk a z => by rw [h k hk z]; exact a), cf_okmono (fun k hk a z => by rw [← h k hk z]; exact a)⟩
theorem cf_Fi {th ye no : Nat → Int32} {S : Int32} : cf_F th ye no S = true ↔ ∃ v, v < 16 ∧ cf_ok th ye no S v = true := by
  unfold cf_F
  constructor
  · intro h
    apply Classical.byContradiction
    intro z
    have : cf_all (fun v => !cf_ok th ye no S v) 16 = true := cf_alli.mpr (fun v hv => by
      cases e : cf_ok th ye no S v
      · rfl
      · exact absurd ⟨v, hv, e⟩ z)
    rw [this] at h
    exact absurd h (by decide)
  · rintro ⟨v, hv, e⟩
    rw [cf_allF hv (by show (!cf_ok th ye no S v) = false; rw [e]; rfl)]
    rfl
theorem cf_Fmono {th ye no : Nat → Int32} {S T : Int32} (h : ∀ k, bt S k = true → bt T k = true) (g : cf_F th ye no T = true) : cf_F th ye no S = true := by
  rw [cf_Fi] at g ⊢
  obtain ⟨v, hv, e⟩ := g
  exact ⟨v, hv, cf_okmono (fun k _ a _ => h k a) e⟩
theorem cf_Fc {th ye no : Nat → Int32} {S T : Int32} (h : ∀ k, k < 7 → ¬ th k = 0 → bt S k = bt T k) : cf_F th ye no S = cf_F th ye no T := by
  unfold cf_F
  rw [cf_allc (fun v _ => by rw [cf_okc h])]
/-! the first that is so; what a count says on its way -/
def cf_first (g : Nat → Bool) (N : Nat) (r : Int32) : Prop :=
  (∃ v, v < N ∧ g v = true ∧ (∀ j, j < v → g j = false) ∧ r = nI v) ∨ ((∀ j, j < N → g j = false) ∧ r = -1)
theorem cf_firstu {g g' : Nat → Bool} {N : Nat} {r r' : Int32} (h : ∀ v, v < N → g v = g' v) (a : cf_first g N r) (b : cf_first g' N r') : r' = r := by
  rcases a with ⟨v, hv, gv, lv, rfl⟩ | ⟨nv, rfl⟩
  · rcases b with ⟨w, hw, gw, lw, rfl⟩ | ⟨nw, rfl⟩
    · rcases Nat.lt_trichotomy v w with z | z | z
      · have := lw v z; rw [← h v hv, gv] at this; exact absurd this (by decide)
      · rw [z]
      · have := lv w z; rw [h w hw, gw] at this; exact absurd this (by decide)
    · have := nw v hv; rw [← h v hv, gv] at this; exact absurd this (by decide)
  · rcases b with ⟨w, hw, gw, lw, rfl⟩ | ⟨nw, rfl⟩
    · have := nv w hw; rw [h w hw, gw] at this; exact absurd this (by decide)
    · rfl
def cf_it (f : Nat → Int32 → Int32) (a : Int32) : Nat → Int32
  | 0 => a
  | n + 1 => f n (cf_it f a n)
/-! Y's repair is X's: to put one clause back is enough -/
def cf_repY (F : Int32 → Bool) (p : Int32) (s : Nat) : Bool := cf_sub (nI s) p && F (p &&& (nI s ^^^ (-1))) && cf_all (fun t => !cf_sub (nI t) (nI s) || !F (p &&& (nI t ^^^ (-1)))) s
theorem cf_subi {a b : Int32} : cf_sub a b = true ↔ ∀ i, bt a i = true → bt b i = true := by
  unfold cf_sub
  rw [decide_eq_true_iff]
  exact cf_subz a b
theorem cf_bdiff (p S : Int32) (i : Nat) : bt (p &&& (S ^^^ (-1))) i = (bt p i && !bt S i) := by
  rcases Nat.lt_or_ge i 32 with hi | hi
  · rw [b_and, cf_not _ hi]
  · rw [b_big hi, b_big hi, Bool.false_and]
theorem cf_nlt {s t : Nat} (hs : s < 128) (ht : t < 128) (h : ∀ i, bt (nI t) i = true → bt (nI s) i = true) : t ≤ s := by
  have e : t = t &&& s := by
    apply Nat.eq_of_testBit_eq
    intro i
    rw [Nat.testBit_and]
    rcases Nat.lt_or_ge i 32 with hi | hi
    · have := h i
      rw [cf_nb t hi, cf_nb s hi] at this
      cases z : t.testBit i
      · rfl
      · rw [this z]; rfl
    · rw [Nat.testBit_lt_two_pow (Nat.lt_of_lt_of_le (show t < 2 ^ 7 from ht) (Nat.pow_le_pow_right (by decide) (by omega)))]
      rfl
  rw [e]
  exact Nat.and_le_right
theorem cf_repeq {F : Int32 → Bool} {p : Int32} {s : Nat} (hs : s < 128) (hF : ∀ S T : Int32, (∀ k, bt S k = true → bt T k = true) → F T = true → F S = true) : cf_repY F p s = cf_rep F p (nI s) := by
  unfold cf_repY cf_rep
  cases hsub : cf_sub (nI s) p
  · rfl
  cases hk : F (p &&& (nI s ^^^ (-1)))
  · rfl
  rw [Bool.true_and, Bool.true_and, Bool.true_and]
  have hsp := cf_subi.mp hsub
  apply Bool.eq_iff_iff.mpr
  rw [cf_alli, cf_alli]
  constructor
  · intro h k hk7
    cases hb : bt (nI s) k
    · rfl
    · -- the set without k
      have hsm : ∀ i, bt (cf_out (nI s) k) i = true → i < 7 := by
        intro i hi
        rw [cf_bout _ hk7, Bool.and_eq_true] at hi
        exact cf_nb7 hs hi.1
      obtain ⟨t, ht, et⟩ := cf_small hsm
      have hts : ∀ i, bt (nI t) i = true → bt (nI s) i = true := by
        intro i hi
        rw [← et, cf_bout _ hk7, Bool.and_eq_true] at hi
        exact hi.1
      have hle := cf_nlt hs ht hts
      have hne : t ≠ s := by
        intro z
        have : bt (nI t) k = false := by
          rw [← et, cf_bout _ hk7, decide_eq_true rfl]
          cases bt (nI s) k <;> rfl
        rw [z, hb] at this
        exact absurd this (by decide)
      have := h t (by omega)
      rw [cf_subi.mpr hts] at this
      have e : cf_in (p &&& (nI s ^^^ (-1))) k = p &&& (nI t ^^^ (-1)) := by
        apply b_ext
        intro i _
        rw [cf_bin' _ hk7, cf_bdiff, cf_bdiff, ← et, cf_bout _ hk7]
        by_cases z : i = k
        · subst z
          rw [decide_eq_true rfl, hsp i hb]; cases bt (nI s) i <;> rfl
        · rw [decide_eq_false z]; cases bt (nI s) i <;> cases bt p i <;> rfl
      rw [e]
      simpa using this
  · intro h t hts
    cases hsub2 : cf_sub (nI t) (nI s)
    · rfl
    · have hb := cf_subi.mp hsub2
      -- some k lies in s and not in t
      have hex : ∃ k, bt (nI s) k = true ∧ bt (nI t) k = false := by
        apply Classical.byContradiction
        intro z
        have := cf_nlt (s := t) (t := s) (by omega) hs (fun i hi => by
          cases e : bt (nI t) i
          · exact absurd ⟨i, hi, e⟩ z
          · rfl)
        omega
      obtain ⟨k, hk1, hk2⟩ := hex
      have hk7 := cf_nb7 hs hk1
      have hx := h k hk7
      rw [hk1] at hx
      cases e : F (p &&& (nI t ^^^ (-1)))
      · rfl
      · have : F (cf_in (p &&& (nI s ^^^ (-1))) k) = true := by
          apply hF _ _ _ e
          intro i hi
          rw [cf_bin' _ hk7, cf_bdiff] at hi
          rw [cf_bdiff]
          by_cases z : i = k
          · subst z
            rw [hsp i hk1, hk2]; rfl
          · rw [decide_eq_false z, Bool.or_false, Bool.and_eq_true] at hi
            rw [hi.1]
            cases z2 : bt (nI t) i
            · rfl
            · rw [hb i z2] at hi; exact absurd hi.2 (by decide)
        rw [this] at hx
        exact absurd hx (by decide)
