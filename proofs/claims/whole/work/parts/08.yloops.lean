/-! Y's walks over the 128 sets -/
theorem cf_ycores {post : Int32 → SY → Prop} {p : Int32} {th ye no fi : Nat → Int32} (hp : ∀ i, bt p i = (decide (i < 7) && !decide (th i = 0))) (h : ∀ f, post (cf_it (cf_fc (fun i => cf_core (cf_F th ye no) p (nI i))) 0 128) (th, ye, no, f)) : wpY_cores post (th, ye, no, fi) := by
  unfold wpY_cores
  dsimp only
  refine cf_ywork (fun f hf => ?_)
  refine loop_0 (fun n i s => wY_cores_8 post th ye no f n s (nI i)) (fun i s => s = cf_it (cf_fc (fun i => cf_core (cf_F th ye no) p (nI i))) 0 i) 128 0 rfl ?_ ?_
  · rintro n s rfl
    exact br_t cf_128 (h f)
  · rintro n i s hi rfl rec
    refine br_f (cf_ge128 hi) (cf_ycore hp hf hi ?_)
    cases e : cf_core (cf_F th ye no) p (nI i)
    · exact br_t rfl (nm_r (nI_1 i) (rec _ (cf_its (cf_fc0 e))))
    · exact br_f (by decide) (nm_e (nm_r (nI_1 i) (rec _ (cf_its (cf_fc1 e)))))
theorem cf_yrepairs {post : Int32 → SY → Prop} {p : Int32} {th ye no fi : Nat → Int32} (hp : ∀ i, bt p i = (decide (i < 7) && !decide (th i = 0))) (h : ∀ f, post (cf_it (cf_fc (fun i => cf_rep (cf_F th ye no) p (nI i))) 0 128) (th, ye, no, f)) : wpY_repairs post (th, ye, no, fi) := by
  unfold wpY_repairs
  dsimp only
  refine cf_ywork (fun f hf => ?_)
  refine loop_0 (fun n i s => wY_repairs_8 post th ye no f n s (nI i)) (fun i s => s = cf_it (cf_fc (fun i => cf_rep (cf_F th ye no) p (nI i))) 0 i) 128 0 rfl ?_ ?_
  · rintro n s rfl
    exact br_t cf_128 (h f)
  · rintro n i s hi rfl rec
    refine br_f (cf_ge128 hi) (cf_yrep hp hf (fun _ _ => cf_Fmono) hi ?_)
    cases e : cf_rep (cf_F th ye no) p (nI i)
    · exact br_t rfl (nm_r (nI_1 i) (rec _ (cf_its (cf_fc0 e))))
    · exact br_f (by decide) (nm_e (nm_r (nI_1 i) (rec _ (cf_its (cf_fc1 e)))))
theorem cf_yguilty {post : Int32 → SY → Prop} {p : Int32} {th ye no fi : Nat → Int32} (hp : ∀ i, bt p i = (decide (i < 7) && !decide (th i = 0))) (h : ∀ f, post (cf_it (cf_fo (fun i => cf_core (cf_F th ye no) p (nI i))) 0 128) (th, ye, no, f)) : wpY_guilty post (th, ye, no, fi) := by
  unfold wpY_guilty
  dsimp only
  refine cf_ywork (fun f hf => ?_)
  refine loop_0 (fun n i s => wY_guilty_8 post th ye no f n s (nI i)) (fun i s => s = cf_it (cf_fo (fun i => cf_core (cf_F th ye no) p (nI i))) 0 i) 128 0 rfl ?_ ?_
  · rintro n s rfl
    exact br_t cf_128 (h f)
  · rintro n i s hi rfl rec
    refine br_f (cf_ge128 hi) (cf_ycore hp hf hi ?_)
    cases e : cf_core (cf_F th ye no) p (nI i)
    · exact br_t rfl (nm_r (nI_1 i) (rec _ (cf_its (cf_fo0 e))))
    · exact br_f (by decide) (nm_e (nm_r (nI_1 i) (rec _ (cf_its (cf_fo1 e)))))
theorem cf_ycentral {post : Int32 → SY → Prop} {p : Int32} {th ye no fi : Nat → Int32} (hp : ∀ i, bt p i = (decide (i < 7) && !decide (th i = 0))) (h : ∀ f, post (cf_it (cf_fa (fun i => cf_core (cf_F th ye no) p (nI i))) p 128) (th, ye, no, f)) : wpY_central post (th, ye, no, fi) := by
  unfold wpY_central
  dsimp only
  refine cf_ywork (fun f hf => ?_)
  refine cf_yclauses hp ?_
  refine loop_0 (fun n i s => wY_central_11 post th ye no f n s (nI i)) (fun i s => s = cf_it (cf_fa (fun i => cf_core (cf_F th ye no) p (nI i))) p i) 128 p rfl ?_ ?_
  · rintro n s rfl
    exact br_t cf_128 (h f)
  · rintro n i s hi rfl rec
    refine br_f (cf_ge128 hi) (cf_ycore hp hf hi ?_)
    cases e : cf_core (cf_F th ye no) p (nI i)
    · exact br_t rfl (nm_r (nI_1 i) (rec _ (cf_its (cf_fa0 e))))
    · exact br_f (by decide) (nm_e (nm_r (nI_1 i) (rec _ (cf_its (cf_fa1 e)))))
theorem cf_ycoreN {post : Int32 → SY → Prop} {p k : Int32} {th ye no fi : Nat → Int32} (hp : ∀ i, bt p i = (decide (i < 7) && !decide (th i = 0))) (h : ∀ r f, cf_first (cf_nth (fun i => cf_core (cf_F th ye no) p (nI i)) k) 128 r → post r (th, ye, no, f)) : wpY_core post (th, ye, no, fi) k := by
  unfold wpY_core
  dsimp only
  refine cf_ywork (fun f hf => ?_)
  refine loop_0 (fun n i s => wY_core_8 post k th ye no f n s (nI i)) (fun i s => s = cf_it (cf_fc (fun i => cf_core (cf_F th ye no) p (nI i))) 0 i ∧ ∀ j, j < i → cf_nth (fun i => cf_core (cf_F th ye no) p (nI i)) k j = false) 128 0 ⟨rfl, lt_0⟩ ?_ ?_
  · rintro n s ⟨rfl, I⟩
    exact br_t cf_128 (h _ f (Or.inr ⟨I, rfl⟩))
  · rintro n i s hi ⟨rfl, I⟩ rec
    refine br_f (cf_ge128 hi) (cf_ycore hp hf hi ?_)
    cases e : cf_core (cf_F th ye no) p (nI i)
    · exact br_t rfl (nm_r (nI_1 i) (rec _ ⟨cf_its (cf_fc0 e), lt_s I (cf_nth0 e)⟩))
    · refine br_f (by decide) (br_c (fun z => ?_) (fun z => ?_))
      · exact h _ f (Or.inl ⟨i, hi, cf_nth1 e z, I, rfl⟩)
      · exact nm_e (nm_r (nI_1 i) (rec _ ⟨cf_its (cf_fc1 e), lt_s I (cf_nth2 z)⟩))
theorem cf_yrepairN {post : Int32 → SY → Prop} {p k : Int32} {th ye no fi : Nat → Int32} (hp : ∀ i, bt p i = (decide (i < 7) && !decide (th i = 0))) (h : ∀ r f, cf_first (cf_nth (fun i => cf_rep (cf_F th ye no) p (nI i)) k) 128 r → post r (th, ye, no, f)) : wpY_repair post (th, ye, no, fi) k := by
  unfold wpY_repair
  dsimp only
  refine cf_ywork (fun f hf => ?_)
  refine loop_0 (fun n i s => wY_repair_8 post k th ye no f n s (nI i)) (fun i s => s = cf_it (cf_fc (fun i => cf_rep (cf_F th ye no) p (nI i))) 0 i ∧ ∀ j, j < i → cf_nth (fun i => cf_rep (cf_F th ye no) p (nI i)) k j = false) 128 0 ⟨rfl, lt_0⟩ ?_ ?_
  · rintro n s ⟨rfl, I⟩
    exact br_t cf_128 (h _ f (Or.inr ⟨I, rfl⟩))
  · rintro n i s hi ⟨rfl, I⟩ rec
    refine br_f (cf_ge128 hi) (cf_yrep hp hf (fun _ _ => cf_Fmono) hi ?_)
    cases e : cf_rep (cf_F th ye no) p (nI i)
    · exact br_t rfl (nm_r (nI_1 i) (rec _ ⟨cf_its (cf_fc0 e), lt_s I (cf_nth0 e)⟩))
    · refine br_f (by decide) (br_c (fun z => ?_) (fun z => ?_))
      · exact h _ f (Or.inl ⟨i, hi, cf_nth1 e z, I, rfl⟩)
      · exact nm_e (nm_r (nI_1 i) (rec _ ⟨cf_its (cf_fc1 e), lt_s I (cf_nth2 z)⟩))
theorem cf_ysmall {post : Int32 → SY → Prop} {p : Int32} {th ye no fi : Nat → Int32} (hp : ∀ i, bt p i = (decide (i < 7) && !decide (th i = 0))) (h : ∀ f, post (cf_it (cf_fs (fun i => cf_core (cf_F th ye no) p (nI i))) (-1) 128) (th, ye, no, f)) : wpY_smallestCore post (th, ye, no, fi) := by
  unfold wpY_smallestCore
  dsimp only
  refine cf_ywork (fun f hf => ?_)
  refine loop_0 (fun n i s => wY_smallestCore_8 post th ye no f n s (nI i)) (fun i s => s = cf_it (cf_fs (fun i => cf_core (cf_F th ye no) p (nI i))) (-1) i) 128 (-1) rfl ?_ ?_
  · rintro n s rfl
    exact br_t cf_128 (h f)
  · rintro n i s hi rfl rec
    refine br_f (cf_ge128 hi) (cf_yones (cf_ycore hp hf hi ?_))
    cases e : cf_core (cf_F th ye no) p (nI i)
    · exact br_t rfl (nm_r (nI_1 i) (rec _ (cf_its (cf_fs0 e))))
    · refine br_f (by decide) (br_c (fun z => ?_) (fun z => br_c (fun y => ?_) (fun y => ?_)))
      · exact nm_r (nI_1 i) (rec _ (cf_its (cf_fs1 e z)))
      · exact nm_r (nI_1 i) (rec _ (cf_its (cf_fs2 e z y)))
      · exact nm_r (nI_1 i) (rec _ (cf_its (cf_fs3 e z y)))
theorem cf_ymost {post : Int32 → SY → Prop} {p : Int32} {th ye no fi : Nat → Int32} (hp : ∀ i, bt p i = (decide (i < 7) && !decide (th i = 0))) (h : ∀ f, post (cf_it (cf_fm (fun i => cf_sub (nI i) p && cf_F th ye no (nI i))) 0 128) (th, ye, no, f)) : wpY_mostTogether post (th, ye, no, fi) := by
  unfold wpY_mostTogether
  dsimp only
  refine cf_ywork (fun f hf => ?_)
  refine loop_0 (fun n i s => wY_mostTogether_8 post th ye no f n s (nI i)) (fun i s => s = cf_it (cf_fm (fun i => cf_sub (nI i) p && cf_F th ye no (nI i))) 0 i) 128 0 rfl ?_ ?_
  · rintro n s rfl
    exact br_t cf_128 (h f)
  · rintro n i s hi rfl rec
    refine br_f (cf_ge128 hi) (cf_yones (cf_yclauses hp ?_))
    refine br_c (fun z => ⟨vp_in_nI hi (by decide), ?_⟩) (fun z => ?_)
    · have zt : cf_sub (nI i) p = true := decide_eq_true z
      rw [cf_cl hi, hf i hi]
      cases e : cf_F th ye no (nI i)
      · exact br_t rfl (nm_r (nI_1 i) (rec _ (cf_its (cf_fm0 (by rw [zt, e]; rfl)))))
      · refine br_f (by decide) (br_c (fun y => ?_) (fun y => ?_))
        · exact nm_r (nI_1 i) (rec _ (cf_its (cf_fm1 (by rw [zt, e]; rfl) y)))
        · exact nm_r (nI_1 i) (rec _ (cf_its (cf_fm2 (by rw [zt, e]; rfl) y)))
    · have zf : cf_sub (nI i) p = false := decide_eq_false z
      exact nm_r (nI_1 i) (rec _ (cf_its (cf_fm0 (by rw [zf]; rfl))))
