/-! X's walks over the 128 sets -/
theorem cf_xcores {post : Int32 → Prop} {p : Int32} {va th ye no : Nat → Int32} (R : cf_R p va th ye no) (h : post (cf_it (cf_fc (fun i => cf_core (cf_F th ye no) p (nI i))) 0 128)) : wpX_cores post (p, va) := by
  unfold wpX_cores
  dsimp only
  refine loop_0 (fun n i s => wX_cores_4 post p va n s (nI i)) (fun i s => s = cf_it (cf_fc (fun i => cf_core (cf_F th ye no) p (nI i))) 0 i) 128 0 rfl ?_ ?_
  · rintro n s rfl
    exact br_t cf_128 h
  · rintro n i s hi rfl rec
    refine br_f (cf_ge128 hi) (cf_xcore R ?_)
    cases e : cf_core (cf_F th ye no) p (nI i)
    · exact br_t rfl (nm_r (nI_1 i) (rec _ (cf_its (cf_fc0 e))))
    · exact br_f (by decide) (nm_e (nm_r (nI_1 i) (rec _ (cf_its (cf_fc1 e)))))
theorem cf_xrepairs {post : Int32 → Prop} {p : Int32} {va th ye no : Nat → Int32} (R : cf_R p va th ye no) (h : post (cf_it (cf_fc (fun i => cf_rep (cf_F th ye no) p (nI i))) 0 128)) : wpX_repairs post (p, va) := by
  unfold wpX_repairs
  dsimp only
  refine loop_0 (fun n i s => wX_repairs_4 post p va n s (nI i)) (fun i s => s = cf_it (cf_fc (fun i => cf_rep (cf_F th ye no) p (nI i))) 0 i) 128 0 rfl ?_ ?_
  · rintro n s rfl
    exact br_t cf_128 h
  · rintro n i s hi rfl rec
    refine br_f (cf_ge128 hi) (cf_xrep R ?_)
    cases e : cf_rep (cf_F th ye no) p (nI i)
    · exact br_t rfl (nm_r (nI_1 i) (rec _ (cf_its (cf_fc0 e))))
    · exact br_f (by decide) (nm_e (nm_r (nI_1 i) (rec _ (cf_its (cf_fc1 e)))))
theorem cf_xguilty {post : Int32 → Prop} {p : Int32} {va th ye no : Nat → Int32} (R : cf_R p va th ye no) (h : post (cf_it (cf_fo (fun i => cf_core (cf_F th ye no) p (nI i))) 0 128)) : wpX_guilty post (p, va) := by
  unfold wpX_guilty
  dsimp only
  refine loop_0 (fun n i s => wX_guilty_4 post p va n s (nI i)) (fun i s => s = cf_it (cf_fo (fun i => cf_core (cf_F th ye no) p (nI i))) 0 i) 128 0 rfl ?_ ?_
  · rintro n s rfl
    exact br_t cf_128 h
  · rintro n i s hi rfl rec
    refine br_f (cf_ge128 hi) (cf_xcore R ?_)
    cases e : cf_core (cf_F th ye no) p (nI i)
    · exact br_t rfl (nm_r (nI_1 i) (rec _ (cf_its (cf_fo0 e))))
    · exact br_f (by decide) (nm_e (nm_r (nI_1 i) (rec _ (cf_its (cf_fo1 e)))))
theorem cf_xcentral {post : Int32 → Prop} {p : Int32} {va th ye no : Nat → Int32} (R : cf_R p va th ye no) (h : post (cf_it (cf_fa (fun i => cf_core (cf_F th ye no) p (nI i))) p 128)) : wpX_central post (p, va) := by
  unfold wpX_central
  dsimp only
  refine loop_0 (fun n i s => wX_central_7 post p va n s (nI i)) (fun i s => s = cf_it (cf_fa (fun i => cf_core (cf_F th ye no) p (nI i))) p i) 128 p rfl ?_ ?_
  · rintro n s rfl
    exact br_t cf_128 h
  · rintro n i s hi rfl rec
    refine br_f (cf_ge128 hi) (cf_xcore R ?_)
    cases e : cf_core (cf_F th ye no) p (nI i)
    · exact br_t rfl (nm_r (nI_1 i) (rec _ (cf_its (cf_fa0 e))))
    · exact br_f (by decide) (nm_e (nm_r (nI_1 i) (rec _ (cf_its (cf_fa1 e)))))
theorem cf_xcoreN {post : Int32 → Prop} {p k : Int32} {va th ye no : Nat → Int32} (R : cf_R p va th ye no) (h : ∀ r, cf_first (cf_nth (fun i => cf_core (cf_F th ye no) p (nI i)) k) 128 r → post r) : wpX_core post (p, va) k := by
  unfold wpX_core
  dsimp only
  refine loop_0 (fun n i s => wX_core_4 post k p va n s (nI i)) (fun i s => s = cf_it (cf_fc (fun i => cf_core (cf_F th ye no) p (nI i))) 0 i ∧ ∀ j, j < i → cf_nth (fun i => cf_core (cf_F th ye no) p (nI i)) k j = false) 128 0 ⟨rfl, lt_0⟩ ?_ ?_
  · rintro n s ⟨rfl, I⟩
    exact br_t cf_128 (h _ (Or.inr ⟨I, rfl⟩))
  · rintro n i s hi ⟨rfl, I⟩ rec
    refine br_f (cf_ge128 hi) (cf_xcore R ?_)
    cases e : cf_core (cf_F th ye no) p (nI i)
    · exact br_t rfl (nm_r (nI_1 i) (rec _ ⟨cf_its (cf_fc0 e), lt_s I (cf_nth0 e)⟩))
    · refine br_f (by decide) (br_c (fun z => ?_) (fun z => ?_))
      · exact h _ (Or.inl ⟨i, hi, cf_nth1 e z, I, rfl⟩)
      · exact nm_e (nm_r (nI_1 i) (rec _ ⟨cf_its (cf_fc1 e), lt_s I (cf_nth2 z)⟩))
theorem cf_xrepairN {post : Int32 → Prop} {p k : Int32} {va th ye no : Nat → Int32} (R : cf_R p va th ye no) (h : ∀ r, cf_first (cf_nth (fun i => cf_rep (cf_F th ye no) p (nI i)) k) 128 r → post r) : wpX_repair post (p, va) k := by
  unfold wpX_repair
  dsimp only
  refine loop_0 (fun n i s => wX_repair_4 post k p va n s (nI i)) (fun i s => s = cf_it (cf_fc (fun i => cf_rep (cf_F th ye no) p (nI i))) 0 i ∧ ∀ j, j < i → cf_nth (fun i => cf_rep (cf_F th ye no) p (nI i)) k j = false) 128 0 ⟨rfl, lt_0⟩ ?_ ?_
  · rintro n s ⟨rfl, I⟩
    exact br_t cf_128 (h _ (Or.inr ⟨I, rfl⟩))
  · rintro n i s hi ⟨rfl, I⟩ rec
    refine br_f (cf_ge128 hi) (cf_xrep R ?_)
    cases e : cf_rep (cf_F th ye no) p (nI i)
    · exact br_t rfl (nm_r (nI_1 i) (rec _ ⟨cf_its (cf_fc0 e), lt_s I (cf_nth0 e)⟩))
    · refine br_f (by decide) (br_c (fun z => ?_) (fun z => ?_))
      · exact h _ (Or.inl ⟨i, hi, cf_nth1 e z, I, rfl⟩)
      · exact nm_e (nm_r (nI_1 i) (rec _ ⟨cf_its (cf_fc1 e), lt_s I (cf_nth2 z)⟩))
/-- the least size so far is -1 or no less than 0 -/
theorem cf_fsI (g : Nat → Bool) : ∀ n, cf_it (cf_fs g) (-1) n = -1 ∨ ¬ cf_it (cf_fs g) (-1) n < 0
  | 0 => Or.inl rfl
  | n + 1 => by
    show cf_fs g n (cf_it (cf_fs g) (-1) n) = -1 ∨ ¬ cf_fs g n (cf_it (cf_fs g) (-1) n) < 0
    have ih := cf_fsI g n
    cases e : g n
    · rw [cf_fs0 e]; exact ih
    · by_cases z : cf_it (cf_fs g) (-1) n < 0
      · rw [cf_fs1 e z]; exact Or.inr (cf_size_nn _).1
      · by_cases y : cf_it (cf_fs g) (-1) n ≤ cf_size (nI n)
        · rw [cf_fs2 e z y]; exact Or.inr z
        · rw [cf_fs3 e z y]; exact Or.inr (cf_size_nn _).1
theorem cf_xsmall {post : Int32 → Prop} {p : Int32} {va th ye no : Nat → Int32} (R : cf_R p va th ye no) (h : post (cf_it (cf_fs (fun i => cf_core (cf_F th ye no) p (nI i))) (-1) 128)) : wpX_smallestCore post (p, va) := by
  unfold wpX_smallestCore
  dsimp only
  refine loop_0 (fun n i s => wX_smallestCore_4 post p va n s (nI i)) (fun i s => s = cf_it (cf_fs (fun i => cf_core (cf_F th ye no) p (nI i))) (-1) i) 128 (-1) rfl ?_ ?_
  · rintro n s rfl
    exact br_t cf_128 h
  · rintro n i s hi rfl rec
    refine br_f (cf_ge128 hi) (cf_xcore R ?_)
    cases e : cf_core (cf_F th ye no) p (nI i)
    · exact br_t rfl (nm_r (nI_1 i) (rec _ (cf_its (cf_fs0 e))))
    · refine br_f (by decide) (cf_xsize ?_)
      have I := cf_fsI (fun i => cf_core (cf_F th ye no) p (nI i)) i
      refine br_c (fun z => ?_) (fun z => ?_)
      · exact nm_r (nI_1 i) (rec _ (cf_its (cf_fs1 e (by rw [z]; decide))))
      · have z' := I.resolve_left z
        refine br_c (fun y => ?_) (fun y => ?_)
        · exact nm_r (nI_1 i) (rec _ (cf_its (cf_fs2 e z' y)))
        · exact nm_r (nI_1 i) (rec _ (cf_its (cf_fs3 e z' y)))
theorem cf_xmost {post : Int32 → Prop} {p : Int32} {va th ye no : Nat → Int32} (R : cf_R p va th ye no) (h : post (cf_it (cf_fm (fun i => cf_sub (nI i) p && cf_F th ye no (nI i))) 0 128)) : wpX_mostTogether post (p, va) := by
  unfold wpX_mostTogether
  dsimp only
  refine loop_0 (fun n i s => wX_mostTogether_4 post p va n s (nI i)) (fun i s => s = cf_it (cf_fm (fun i => cf_sub (nI i) p && cf_F th ye no (nI i))) 0 i) 128 0 rfl ?_ ?_
  · rintro n s rfl
    exact br_t cf_128 h
  · rintro n i s hi rfl rec
    refine br_f (cf_ge128 hi) (cf_xpres ?_)
    cases e : cf_sub (nI i) p
    · exact br_t rfl (nm_r (nI_1 i) (rec _ (cf_its (cf_fm0 (by rw [e]; rfl)))))
    · refine br_f (by decide) (cf_xcan R (cf_subi.mp e) ?_)
      cases e2 : cf_F th ye no (nI i)
      · exact br_t rfl (nm_r (nI_1 i) (rec _ (cf_its (cf_fm0 (by rw [e, e2]; rfl)))))
      · refine br_f (by decide) (cf_xsize ?_)
        refine br_c (fun y => ?_) (fun y => ?_)
        · exact nm_r (nI_1 i) (rec _ (cf_its (cf_fm1 (by rw [e, e2]; rfl) y)))
        · exact nm_r (nI_1 i) (rec _ (cf_its (cf_fm2 (by rw [e, e2]; rfl) y)))
