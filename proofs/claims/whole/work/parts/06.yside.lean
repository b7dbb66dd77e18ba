/-! Y: each private method at its value -/
theorem cf_1516 (x : Int32) : 15 < x ↔ 16 ≤ x := by
  rw [Int32.lt_iff_toInt_lt, Int32.le_iff_toInt_le, show (15 : Int32).toInt = 15 from by decide, show (16 : Int32).toInt = 16 from by decide]
  omega
theorem cf_67 (x : Int32) : 6 < x ↔ 7 ≤ x := by
  rw [Int32.lt_iff_toInt_lt, Int32.le_iff_toInt_le, show (6 : Int32).toInt = 6 from by decide, show (7 : Int32).toInt = 7 from by decide]
  omega
theorem cf_ylet {post : Int32 → Prop} {x : Int32} {th ye no fi : Nat → Int32} (h : post (cf_bi (cf_let x))) : wpY_letters post (th, ye, no, fi) x := by
  unfold wpY_letters
  dsimp only
  unfold cf_let at h
  refine br_c (fun z => ?_) (fun z => br_c (fun y => ?_) (fun y => ?_))
  · rw [decide_eq_true z] at h; exact h
  · rw [cf_1516] at y
    rw [decide_eq_false z, decide_eq_true y] at h; exact h
  · rw [cf_1516] at y
    rw [decide_eq_false z, decide_eq_false y] at h; exact h
theorem cf_yclauses {post : Int32 → Prop} {p : Int32} {th ye no fi : Nat → Int32} (hp : ∀ i, bt p i = (decide (i < 7) && !decide (th i = 0))) (h : post p) : wpY_clauses post (th, ye, no, fi) := by
  unfold wpY_clauses
  dsimp only
  refine loop_0 (fun n i s => wY_clauses_4 post th ye no fi n s (nI i)) (fun i s => ∀ j, bt s j = (decide (j < i) && !decide (th j = 0))) 7 0 ?_ ?_ ?_
  · intro j
    rw [b_0, decide_eq_false (by omega), Bool.false_and]
  · intro n s I
    have e : s = p := b_ext (fun i _ => by rw [I i, hp i])
    rw [e]
    exact br_t cf_7 h
  · intro n i s hi I rec
    refine br_f (cf_ge7 hi) ⟨vp_in_nI hi (by decide), ?_⟩
    rw [nI_clamp (by omega)]
    refine br_c (fun z => nm_r (nI_1 i) (rec s ?_)) (fun z => nm_e (nm_r (nI_1 i) (rec _ ?_)))
    · intro j
      rw [I j, cf_dlt]
      by_cases e : j = i
      · subst e
        rw [decide_eq_true z]; simp
      · rw [decide_eq_false e, Bool.or_false]
    · intro j
      rw [b_or, I j, cf_dlt, cf_one (by omega)]
      by_cases e : j = i
      · subst e
        rw [decide_eq_false z]; simp
      · rw [decide_eq_false e, Bool.or_false, Bool.or_false]
theorem cf_yholds {post : Int32 → Prop} {a b : Int32} {v : Nat} {th ye no fi : Nat → Int32} (h : post (cf_bi (cf_hold a b v))) : wpY_holds post (th, ye, no, fi) a b (nI v) := by
  unfold wpY_holds
  dsimp only
  refine br_c (fun z => br_c (fun y => ?_) (fun y => ?_)) (fun z => ?_)
  · rw [show cf_hold a b v = false from decide_eq_false (fun c => c ((cf_orz _ _).mpr ⟨z, y⟩))] at h; exact h
  · rw [show cf_hold a b v = true from decide_eq_true (fun c => y ((cf_orz _ _).mp c).2)] at h; exact h
  · rw [show cf_hold a b v = true from decide_eq_true (fun c => z ((cf_orz _ _).mp c).1)] at h; exact h
theorem cf_yall {post : Int32 → Prop} {S : Int32} {v : Nat} {th ye no fi : Nat → Int32} (h : post (cf_bi (cf_ok th ye no S v))) : wpY_allHold post (th, ye, no, fi) S (nI v) := by
  unfold wpY_allHold
  dsimp only
  refine loop_0 (fun n i s => wY_allHold_5 post S (nI v) th ye no fi n s (nI i)) (fun i s => s = cf_bi (cf_all (fun k => !bt S k || (decide (th k = 0) || cf_hold (ye k) (no k) v)) i)) 7 1 rfl ?_ ?_
  · rintro n s rfl
    exact br_t cf_7 ⟨cf_bin _, h⟩
  · rintro n i s hi rfl rec
    refine br_f (cf_ge7 hi) ?_
    cases e : cf_all (fun k => !bt S k || (decide (th k = 0) || cf_hold (ye k) (no k) v)) i
    · refine br_t rfl (nm_r (nI_1 i) (rec _ ?_))
      show 0 = cf_bi (cf_all _ i && _)
      rw [e]; rfl
    · refine br_f (by decide) (br_c (fun z => ?_) (fun z => ?_))
      · rw [cf_bit0 S (by omega)] at z
        refine nm_r (nI_1 i) (rec _ ?_)
        show 1 = cf_bi (cf_all _ i && (!bt S i || _))
        rw [e, z]; rfl
      · rw [cf_bit0 S (by omega)] at z
        have z' : bt S i = true := by cases y : bt S i; exact absurd y z; rfl
        refine ⟨vp_in_nI hi (by decide), ?_⟩
        rw [nI_clamp (by omega)]
        refine br_c (fun y => ?_) (fun y => ?_)
        · refine nm_r (nI_1 i) (rec _ ?_)
          show 1 = cf_bi (cf_all _ i && (!bt S i || (decide (th i = 0) || _)))
          rw [e, z', decide_eq_true y]; rfl
        · refine ⟨vp_in_nI hi (by decide), vp_in_nI hi (by decide), cf_yholds ?_⟩
          cases e2 : cf_hold (ye i) (no i) v
          · refine br_t rfl (nm_r (nI_1 i) (rec _ ?_))
            show 0 = cf_bi (cf_all _ i && (!bt S i || (decide (th i = 0) || cf_hold (ye i) (no i) v)))
            rw [e, z', decide_eq_false y, e2]; rfl
          · refine br_f (by decide) (nm_r (nI_1 i) (rec _ ?_))
            show 1 = cf_bi (cf_all _ i && (!bt S i || (decide (th i = 0) || cf_hold (ye i) (no i) v)))
            rw [e, z', e2, decide_eq_false y]; rfl
theorem cf_ywit {post : Int32 → Prop} {S : Int32} {th ye no fi : Nat → Int32} (h : ∀ r, cf_first (fun v => cf_ok th ye no S v) 16 r → post r) : wpY_witness post (th, ye, no, fi) S := by
  unfold wpY_witness
  dsimp only
  refine loop_0 (fun n i (_ : Unit) => wY_witness_2 post S th ye no fi n (nI i)) (fun i _ => ∀ j, j < i → cf_ok th ye no S j = false) 16 () lt_0 ?_ ?_
  · intro n s I
    exact br_t cf_16 (h _ (Or.inr ⟨I, rfl⟩))
  · intro n i s hi I rec
    refine br_f (cf_ge16 hi) (cf_yall ?_)
    cases e : cf_ok th ye no S i
    · exact br_t rfl (nm_r (nI_1 i) (rec () (lt_s I e)))
    · exact br_f (by decide) (h _ (Or.inl ⟨i, hi, e, I, rfl⟩))
theorem cf_ycons {post : Int32 → Prop} {S : Int32} {th ye no fi : Nat → Int32} (h : post (cf_bi (cf_F th ye no S))) : wpY_consistent post (th, ye, no, fi) S := by
  unfold wpY_consistent
  dsimp only
  refine cf_ywit (fun r hr => ?_)
  rcases hr with ⟨v, hv, g, _, rfl⟩ | ⟨nv, rfl⟩
  · rw [cf_Fi.mpr ⟨v, hv, g⟩] at h
    exact br_f (nI_pos (by omega)) h
  · have : cf_F th ye no S = false := by
      cases e : cf_F th ye no S
      · rfl
      · obtain ⟨v, hv, g⟩ := cf_Fi.mp e
        have := nv v hv
        dsimp only at this
        rw [g] at this; exact absurd this (by decide)
    rw [this] at h
    exact br_t (by decide) h
theorem cf_ywork {post : SY → Prop} {th ye no fi : Nat → Int32} (h : ∀ f, (∀ j, j < 128 → f j = cf_bi (cf_F th ye no (nI j))) → post (th, ye, no, f)) : wpY_work post (th, ye, no, fi) := by
  unfold wpY_work
  dsimp only
  refine loop_0 (fun n i s => wY_work_2 post n (nI i) th ye no s) (fun i s => ∀ j, j < i → s j = cf_bi (cf_F th ye no (nI j))) 128 fi lt_0 ?_ ?_
  · intro n s I
    exact br_t cf_128 (h s I)
  · intro n i s hi I rec
    refine br_f (cf_ge128 hi) (cf_ycons ⟨vp_in_nI hi (by decide), ?_⟩)
    rw [nI_clamp (by omega), cf_biv]
    refine nm_e (nm_r (nI_1 i) (rec _ ?_))
    intro j hj
    by_cases e : j = i
    · rw [e, pk_us]
    · rw [pk_un e]; exact I j (by omega)
/-- a set below 128 as an index -/
theorem cf_ix {x : Int32} {F : Int32 → Bool} {fi : Nat → Int32} (hf : ∀ j, j < 128 → fi j = cf_bi (F (nI j))) (hx : ∀ i, bt x i = true → i < 7) : vp_in x 128 ∧ fi x.toNatClampNeg = cf_bi (F x) := by
  obtain ⟨j, hj, rfl⟩ := cf_small hx
  exact ⟨vp_in_nI hj (by decide), by rw [cf_cl hj]; exact hf j hj⟩
theorem cf_ycore {post : Int32 → Prop} {p : Int32} {s : Nat} {F : Int32 → Bool} {th ye no fi : Nat → Int32} (hp : ∀ i, bt p i = (decide (i < 7) && !decide (th i = 0))) (hf : ∀ j, j < 128 → fi j = cf_bi (F (nI j))) (hs : s < 128) (h : post (cf_bi (cf_core F p (nI s)))) : wpY_isCore post (th, ye, no, fi) (nI s) := by
  unfold wpY_isCore
  dsimp only
  refine cf_yclauses hp ?_
  have L : ∀ b0 : Bool, b0 = (cf_sub (nI s) p && !F (nI s)) → ∃ n28, wY_isCore_28 post (nI s) th ye no fi n28 (cf_bi b0) 0 := by
    intro b0 hb
    refine loop_0 (fun n i a => wY_isCore_28 post (nI s) th ye no fi n a (nI i)) (fun i a => a = cf_bi (b0 && cf_all (fun k => !bt (nI s) k || F (cf_out (nI s) k)) i)) 7 (cf_bi b0) ?_ ?_ ?_
    · show cf_bi b0 = cf_bi (b0 && true)
      rw [Bool.and_true]
    · rintro n a rfl
      refine br_t cf_7 ⟨cf_bin _, ?_⟩
      rw [hb]; exact h
    · rintro n i a hi rfl rec
      refine br_f (cf_ge7 hi) ?_
      cases e : (b0 && cf_all (fun k => !bt (nI s) k || F (cf_out (nI s) k)) i)
      · refine br_t rfl (nm_r (nI_1 i) (rec _ ?_))
        show 0 = cf_bi (b0 && (cf_all _ i && _))
        rw [← Bool.and_assoc, e]; rfl
      · refine br_f (by decide) (br_c (fun z => ?_) (fun z => ?_))
        · rw [cf_bit0 _ (by omega)] at z
          refine nm_r (nI_1 i) (rec _ ?_)
          show 1 = cf_bi (b0 && (cf_all _ i && (!bt (nI s) i || _)))
          rw [← Bool.and_assoc, e, z]; rfl
        · rw [cf_bit0 _ (by omega)] at z
          have z' : bt (nI s) i = true := by cases y : bt (nI s) i; exact absurd y z; rfl
          have hx := cf_ix (x := cf_out (nI s) i) hf (fun j hj => by
            rw [cf_bout _ hi, Bool.and_eq_true] at hj
            exact cf_nb7 hs hj.1)
          refine ⟨hx.1, ?_⟩
          refine br_c (fun y => ?_) (fun y => ?_)
          · have y' := cf_biz.mp (hx.2.symm.trans y)
            refine nm_r (nI_1 i) (rec _ ?_)
            show 0 = cf_bi (b0 && (cf_all _ i && (!bt (nI s) i || F (cf_out (nI s) i))))
            rw [← Bool.and_assoc, e, z', y']; rfl
          · have y' : F (cf_out (nI s) i) = true := by
              cases w : F (cf_out (nI s) i)
              · exact absurd (hx.2.trans (cf_biz.mpr w)) y
              · rfl
            refine nm_r (nI_1 i) (rec _ ?_)
            show 1 = cf_bi (b0 && (cf_all _ i && (!bt (nI s) i || F (cf_out (nI s) i))))
            rw [← Bool.and_assoc, e, y', Bool.or_true]; rfl
  refine br_c (fun z => ⟨vp_in_nI hs (by decide), ?_⟩) (fun z => ?_)
  · rw [cf_cl hs, hf s hs]
    have zt : cf_sub (nI s) p = true := decide_eq_true z
    refine br_c (fun y => ?_) (fun y => ?_)
    · exact L true (by rw [zt, cf_biz.mp y]; rfl)
    · have y' : F (nI s) = true := by
        cases w : F (nI s)
        · exact absurd (cf_biz.mpr w) y
        · rfl
      exact L false (by rw [zt, y']; rfl)
  · have zf : cf_sub (nI s) p = false := decide_eq_false z
    exact L false (by rw [zf]; rfl)
theorem cf_yrep {post : Int32 → Prop} {p : Int32} {s : Nat} {F : Int32 → Bool} {th ye no fi : Nat → Int32} (hp : ∀ i, bt p i = (decide (i < 7) && !decide (th i = 0))) (hf : ∀ j, j < 128 → fi j = cf_bi (F (nI j))) (hF : ∀ S T : Int32, (∀ k, bt S k = true → bt T k = true) → F T = true → F S = true) (hs : s < 128) (h : post (cf_bi (cf_rep F p (nI s)))) : wpY_isRepair post (th, ye, no, fi) (nI s) := by
  rw [← cf_repeq hs hF] at h
  unfold wpY_isRepair
  dsimp only
  refine cf_yclauses hp ?_
  have hd : ∀ S : Int32, vp_in (p &&& (S ^^^ (-1))) 128 ∧ fi (p &&& (S ^^^ (-1))).toNatClampNeg = cf_bi (F (p &&& (S ^^^ (-1)))) := fun S =>
    cf_ix hf (fun i hi => by
      rw [cf_bdiff, hp i, Bool.and_eq_true, Bool.and_eq_true] at hi
      exact of_decide_eq_true hi.1.1)
  have L : ∀ b0 : Bool, b0 = (cf_sub (nI s) p && F (p &&& (nI s ^^^ (-1)))) → ∃ n35, wY_isRepair_35 post (nI s) p th ye no fi n35 (cf_bi b0) 0 := by
    intro b0 hb
    refine loop_0 (fun n i a => wY_isRepair_35 post (nI s) p th ye no fi n a (nI i)) (fun i a => a = cf_bi (b0 && cf_all (fun t => !cf_sub (nI t) (nI s) || !F (p &&& (nI t ^^^ (-1)))) i)) s (cf_bi b0) ?_ ?_ ?_
    · show cf_bi b0 = cf_bi (b0 && true)
      rw [Bool.and_true]
    · rintro n a rfl
      refine br_t (nI_le (Nat.le_refl _) (by omega)) ⟨cf_bin _, ?_⟩
      rw [hb]; exact h
    · rintro n i a hi rfl rec
      refine br_f (nI_ge hi (by omega)) ?_
      cases e : (b0 && cf_all (fun t => !cf_sub (nI t) (nI s) || !F (p &&& (nI t ^^^ (-1)))) i)
      · refine br_t rfl (nm_r (nI_1 i) (rec _ ?_))
        show 0 = cf_bi (b0 && (cf_all _ i && _))
        rw [← Bool.and_assoc, e]; rfl
      · refine br_f (by decide) (br_c (fun z => ⟨(hd _).1, ?_⟩) (fun z => ?_))
        · have zt : cf_sub (nI i) (nI s) = true := decide_eq_true z
          refine br_c (fun y => ?_) (fun y => ?_)
          · have y' := cf_biz.mp ((hd _).2.symm.trans y)
            refine nm_r (nI_1 i) (rec _ ?_)
            show 1 = cf_bi (b0 && (cf_all _ i && (!cf_sub (nI i) (nI s) || !F (p &&& (nI i ^^^ (-1))))))
            rw [← Bool.and_assoc, e, y', zt]; rfl
          · have y' : F (p &&& (nI i ^^^ (-1))) = true := by
              cases w : F (p &&& (nI i ^^^ (-1)))
              · exact absurd ((hd _).2.trans (cf_biz.mpr w)) y
              · rfl
            refine nm_r (nI_1 i) (rec _ ?_)
            show 0 = cf_bi (b0 && (cf_all _ i && (!cf_sub (nI i) (nI s) || !F (p &&& (nI i ^^^ (-1))))))
            rw [← Bool.and_assoc, e, y', zt]; rfl
        · have zf : cf_sub (nI i) (nI s) = false := decide_eq_false z
          refine nm_r (nI_1 i) (rec _ ?_)
          show 1 = cf_bi (b0 && (cf_all _ i && (!cf_sub (nI i) (nI s) || _)))
          rw [← Bool.and_assoc, e, zf]; rfl
  refine br_c (fun z => ⟨(hd _).1, ?_⟩) (fun z => ?_)
  · have zt : cf_sub (nI s) p = true := decide_eq_true z
    refine br_c (fun y => ?_) (fun y => ?_)
    · exact L false (by rw [zt, cf_biz.mp ((hd _).2.symm.trans y)]; rfl)
    · have y' : F (p &&& (nI s ^^^ (-1))) = true := by
        cases w : F (p &&& (nI s ^^^ (-1)))
        · exact absurd ((hd _).2.trans (cf_biz.mpr w)) y
        · rfl
      exact L true (by rw [zt, y']; rfl)
  · have zf : cf_sub (nI s) p = false := decide_eq_false z
    exact L false (by rw [zf]; rfl)
theorem cf_yones {post : Int32 → Prop} {S : Int32} {th ye no fi : Nat → Int32} (h : post (cf_size S)) : wpY_ones post (th, ye, no, fi) S := by
  unfold wpY_ones
  dsimp only
  refine loop_0 (fun n i s => wY_ones_4 post S th ye no fi n s (nI i)) (fun i s => s = cf_it (fun k a => a + cf_bi (bt S k)) 0 i) 7 0 rfl ?_ ?_
  · rintro n s rfl
    exact br_t cf_7 h
  · rintro n i s hi rfl rec
    refine br_f (cf_ge7 hi) (nm_e (nm_r (nI_1 i) (rec _ ?_)))
    rw [cf_bit S (by omega)]
    rfl
