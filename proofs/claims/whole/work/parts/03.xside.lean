/-! X: each private method at its value -/
theorem cf_xhas {post : Int32 → Prop} {S : Int32} {k : Nat} (hk : k < 32) (h : post (cf_bi (bt S k))) : wpX_has post S (nI k) := by
  unfold wpX_has
  cases e : bt S k
  · rw [e] at h
    exact br_f (fun z => by rw [cf_bit1 S hk, e] at z; exact absurd z (by decide)) h
  · rw [e] at h
    exact br_t ((cf_bit1 S hk).mpr e) h
theorem cf_xwith {post : Int32 → Prop} {S : Int32} {k : Nat} (h : post (cf_in S k)) : wpX_with post S (nI k) := h
theorem cf_xwithout {post : Int32 → Prop} {S : Int32} {k : Nat} (h : post (cf_out S k)) : wpX_without post S (nI k) := h
theorem cf_dlt (j i : Nat) : decide (j < i + 1) = (decide (j < i) || decide (j = i)) := by
  rw [← Bool.decide_or]
  exact decide_eq_decide.mpr (by omega)
theorem cf_xval {post : Int32 → Prop} {p q : Int32} (h : ∀ w, (∀ i, bt w i = (decide (i < 16) && cf_hold p q i)) → post w) : wpX_valuesFor post p q := by
  unfold wpX_valuesFor
  refine loop_0 (fun n i s => wX_valuesFor_4 post p q n s (nI i)) (fun i s => ∀ j, bt s j = (decide (j < i) && cf_hold p q j)) 16 0 ?_ ?_ ?_
  · intro j
    rw [b_0, decide_eq_false (by omega), Bool.false_and]
  · intro n s I
    exact br_t cf_16 (h s I)
  · intro n i s hi I rec
    refine br_f (cf_ge16 hi) (br_c (fun z => nm_r (nI_1 i) (rec s ?_)) (fun z => cf_xwith (nm_r (nI_1 i) (rec _ ?_))))
    · intro j
      rw [I j, cf_dlt]
      by_cases e : j = i
      · subst e
        rw [show cf_hold p q j = false from decide_eq_false (fun c => c z), Bool.and_false, Bool.and_false]
      · rw [decide_eq_false e, Bool.or_false]
    · intro j
      unfold cf_in
      rw [b_or, I j, cf_dlt, cf_one (by omega)]
      by_cases e : j = i
      · subst e
        rw [show cf_hold p q j = true from decide_eq_true z, decide_eq_true rfl]
        cases decide (j < j) <;> rfl
      · rw [decide_eq_false e, Bool.or_false, Bool.or_false]
theorem cf_xcommon {post : Int32 → Prop} {p S : Int32} {va : Nat → Int32} (h : ∀ c, (∀ i, bt c i = (decide (i < 16) && cf_all (fun k => !bt S k || bt (va k) i) 7)) → post c) : wpX_commonValues post (p, va) S := by
  unfold wpX_commonValues
  dsimp only
  refine loop_0 (fun n i s => wX_commonValues_5 post S p va n s (nI i)) (fun i s => ∀ j, bt s j = (decide (j < 16) && cf_all (fun k => !bt S k || bt (va k) j) i)) 7 65535 ?_ ?_ ?_
  · intro j
    rw [b_65535]
    show _ = (decide (j < 16) && true)
    rw [Bool.and_true]
  · intro n s I
    exact br_t cf_7 (h s I)
  · intro n i s hi I rec
    refine br_f (cf_ge7 hi) (cf_xhas (by omega) ?_)
    cases e : bt S i
    · refine br_t rfl (nm_r (nI_1 i) (rec s ?_))
      intro j
      rw [I j]
      show _ = (decide (j < 16) && (cf_all _ i && (!bt S i || bt (va i) j)))
      rw [e]
      simp
    · refine br_f (by decide) ⟨vp_in_nI hi (by decide), nm_e (nm_r (nI_1 i) (rec _ ?_))⟩
      intro j
      rw [b_and, I j, nI_clamp (by omega)]
      show _ = (decide (j < 16) && (cf_all _ i && (!bt S i || bt (va i) j)))
      rw [e]
      simp [Bool.and_assoc]
theorem cf_xcom {post : Int32 → Prop} {p S : Int32} {va th ye no : Nat → Int32} (R : cf_R p va th ye no) (hS : ∀ i, bt S i = true → bt p i = true) (h : ∀ c, (∀ i, bt c i = (decide (i < 16) && cf_ok th ye no S i)) → post c) : wpX_commonValues post (p, va) S := by
  refine cf_xcommon (fun c hc => h c (fun i => ?_))
  rw [hc i]
  rcases Nat.lt_or_ge i 16 with hi | hi
  · congr 1
    unfold cf_ok
    apply cf_allc
    intro k hk
    cases e : bt S k
    · rfl
    · have hp := hS k e
      rw [cf_Rt R hk] at hp
      have z : ¬ th k = 0 := by intro z; rw [decide_eq_true z] at hp; exact absurd hp (by decide)
      rw [R.2 k hk z i hi, decide_eq_false z]
      rfl
  · rw [decide_eq_false (by omega), Bool.false_and, Bool.false_and]
theorem cf_comz {th ye no : Nat → Int32} {S c : Int32} (hc : ∀ i, bt c i = (decide (i < 16) && cf_ok th ye no S i)) : c = 0 ↔ cf_F th ye no S = false := by
  constructor
  · intro z
    cases e : cf_F th ye no S
    · rfl
    · obtain ⟨v, hv, g⟩ := cf_Fi.mp e
      have := hc v
      rw [z, b_0, g, decide_eq_true hv] at this
      exact absurd this (by decide)
  · intro e
    apply (cf_z c).mpr
    intro i _
    rw [hc i]
    rcases Nat.lt_or_ge i 16 with hi | hi
    · cases g : cf_ok th ye no S i
      · rw [Bool.and_false]
      · rw [cf_Fi.mpr ⟨i, hi, g⟩] at e; exact absurd e (by decide)
    · rw [decide_eq_false (by omega), Bool.false_and]
theorem cf_xcan {post : Int32 → Prop} {p S : Int32} {va th ye no : Nat → Int32} (R : cf_R p va th ye no) (hS : ∀ i, bt S i = true → bt p i = true) (h : post (cf_bi (cf_F th ye no S))) : wpX_canHold post (p, va) S := by
  unfold wpX_canHold
  dsimp only
  refine cf_xcom R hS (fun c hc => br_c (fun z => ?_) (fun z => ?_))
  · rw [(cf_comz hc).mp z] at h; exact h
  · cases e : cf_F th ye no S
    · exact absurd ((cf_comz hc).mpr e) z
    · rw [e] at h; exact h
theorem cf_xpres {post : Int32 → Prop} {p S : Int32} {va : Nat → Int32} (h : post (cf_bi (cf_sub S p))) : wpX_isPresent post (p, va) S := by
  unfold wpX_isPresent
  dsimp only
  refine br_c (fun z => ?_) (fun z => ?_)
  · rw [show cf_sub S p = true from decide_eq_true z] at h; exact h
  · rw [show cf_sub S p = false from decide_eq_false z] at h; exact h
theorem cf_xcore {post : Int32 → Prop} {p S : Int32} {va th ye no : Nat → Int32} (R : cf_R p va th ye no) (h : post (cf_bi (cf_core (cf_F th ye no) p S))) : wpX_isCore post (p, va) S := by
  unfold wpX_isCore
  dsimp only
  refine cf_xpres ?_
  unfold cf_core at h
  cases e : cf_sub S p
  · rw [e] at h
    exact br_t rfl h
  · rw [e] at h
    have hsp := cf_subi.mp e
    refine br_f (by decide) (cf_xcan R hsp ?_)
    cases e2 : cf_F th ye no S
    · rw [e2] at h
      refine br_t rfl ?_
      refine loop_0 (fun n i (_ : Unit) => wX_isCore_20 post S p va n (nI i)) (fun i _ => cf_all (fun k => !bt S k || cf_F th ye no (cf_out S k)) i = true) 7 () rfl ?_ ?_
      · intro n s I
        rw [I] at h
        exact br_t cf_7 h
      · intro n i s hi I rec
        refine br_f (cf_ge7 hi) (cf_xhas (by omega) ?_)
        cases e3 : bt S i
        · refine br_t rfl (nm_r (nI_1 i) (rec () ?_))
          show (cf_all _ i && (!bt S i || _)) = true
          rw [I, e3]; rfl
        · refine br_f (by decide) (cf_xwithout (cf_xcan R ?_ ?_))
          · intro j hj
            rw [cf_bout S hi, Bool.and_eq_true] at hj
            exact hsp j hj.1
          · cases e4 : cf_F th ye no (cf_out S i)
            · refine br_t rfl ?_
              rw [cf_allF hi (by show (!bt S i || cf_F th ye no (cf_out S i)) = false; rw [e3, e4]; rfl)] at h
              exact h
            · refine br_f (by decide) (nm_r (nI_1 i) (rec () ?_))
              show (cf_all _ i && (!bt S i || cf_F th ye no (cf_out S i))) = true
              rw [I, e4, Bool.or_true]; rfl
    · rw [e2] at h
      exact br_f (by decide) h
theorem cf_xrep {post : Int32 → Prop} {p S : Int32} {va th ye no : Nat → Int32} (R : cf_R p va th ye no) (h : post (cf_bi (cf_rep (cf_F th ye no) p S))) : wpX_isRepair post (p, va) S := by
  unfold wpX_isRepair
  dsimp only
  refine cf_xpres ?_
  unfold cf_rep at h
  cases e : cf_sub S p
  · rw [e] at h
    exact br_t rfl h
  · rw [e] at h
    have hsp := cf_subi.mp e
    have hd : ∀ i, bt (p &&& (S ^^^ (-1))) i = true → bt p i = true := fun i hi => by
      rw [cf_bdiff, Bool.and_eq_true] at hi; exact hi.1
    refine br_f (by decide) (cf_xcan R hd ?_)
    cases e2 : cf_F th ye no (p &&& (S ^^^ (-1)))
    · rw [e2] at h
      exact br_t rfl h
    · rw [e2] at h
      refine br_f (by decide) ?_
      refine loop_0 (fun n i (_ : Unit) => wX_isRepair_27 post S p va n (nI i)) (fun i _ => cf_all (fun k => !bt S k || !cf_F th ye no (cf_in (p &&& (S ^^^ (-1))) k)) i = true) 7 () rfl ?_ ?_
      · intro n s I
        rw [I] at h
        exact br_t cf_7 h
      · intro n i s hi I rec
        refine br_f (cf_ge7 hi) (cf_xhas (by omega) ?_)
        cases e3 : bt S i
        · refine br_t rfl (nm_r (nI_1 i) (rec () ?_))
          show (cf_all _ i && (!bt S i || _)) = true
          rw [I, e3]; rfl
        · refine br_f (by decide) (cf_xwith (cf_xcan R ?_ ?_))
          · intro j hj
            rw [cf_bin' _ hi] at hj
            by_cases z : j = i
            · rw [z]; exact hsp i e3
            · rw [decide_eq_false z, Bool.or_false] at hj
              exact hd j hj
          · cases e4 : cf_F th ye no (cf_in (p &&& (S ^^^ (-1))) i)
            · refine br_t rfl (nm_r (nI_1 i) (rec () ?_))
              show (cf_all _ i && (!bt S i || !cf_F th ye no (cf_in (p &&& (S ^^^ (-1))) i))) = true
              rw [I, e4]; cases bt S i <;> rfl
            · refine br_f (by decide) ?_
              rw [cf_allF hi (by show (!bt S i || !cf_F th ye no (cf_in (p &&& (S ^^^ (-1))) i)) = false; rw [e3, e4]; rfl)] at h
              exact h
def cf_size (S : Int32) : Int32 := cf_it (fun k a => a + cf_bi (bt S k)) 0 7
theorem cf_xsize {post : Int32 → Prop} {S : Int32} (h : post (cf_size S)) : wpX_sizeOf post S := by
  unfold wpX_sizeOf
  refine loop_0 (fun n i s => wX_sizeOf_4 post S n s (nI i)) (fun i s => s = cf_it (fun k a => a + cf_bi (bt S k)) 0 i) 7 0 rfl ?_ ?_
  · rintro n s rfl
    exact br_t cf_7 h
  · rintro n i s hi rfl rec
    refine br_f (cf_ge7 hi) (cf_xhas (by omega) ?_)
    cases e : bt S i
    · refine br_t rfl (nm_r (nI_1 i) (rec _ ?_))
      show _ = _ + cf_bi (bt S i)
      rw [e, cf_bi0, Int32.add_zero]
    · refine br_f (by decide) (nm_e (nm_r (nI_1 i) (rec _ ?_)))
      show _ = _ + cf_bi (bt S i)
      rw [e, cf_bi1]
theorem cf_it_nn (S : Int32) : ∀ n, n ≤ 7 → ∃ m, m ≤ n ∧ cf_it (fun k a => a + cf_bi (bt S k)) 0 n = nI m
  | 0, _ => ⟨0, Nat.le_refl _, rfl⟩
  | n + 1, hn => by
    obtain ⟨m, hm, e⟩ := cf_it_nn S n (by omega)
    show ∃ m, m ≤ n + 1 ∧ cf_it _ 0 n + cf_bi (bt S n) = nI m
    rw [e]
    cases bt S n
    · exact ⟨m, by omega, by rw [cf_bi0, Int32.add_zero]⟩
    · exact ⟨m + 1, by omega, by rw [cf_bi1, nI_1]⟩
theorem cf_size_nn (S : Int32) : ¬ cf_size S < 0 ∧ ¬ cf_size S = -1 := by
  obtain ⟨m, hm, e⟩ := cf_it_nn S 7 (by omega)
  unfold cf_size
  rw [e]
  exact (by decide : ∀ m, m ≤ 7 → ¬ nI m < 0 ∧ ¬ nI m = -1) m hm
