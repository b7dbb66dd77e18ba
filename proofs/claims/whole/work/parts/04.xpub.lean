/-! the folds that both sides walk, and X's public methods -/
def cf_fc (g : Nat → Bool) : Nat → Int32 → Int32 := fun i a => if g i = true then a + 1 else a
def cf_fo (g : Nat → Bool) : Nat → Int32 → Int32 := fun i a => if g i = true then a ||| nI i else a
def cf_fa (g : Nat → Bool) : Nat → Int32 → Int32 := fun i a => if g i = true then a &&& nI i else a
def cf_fs (g : Nat → Bool) : Nat → Int32 → Int32 := fun i a => if g i = true then (if a < 0 then cf_size (nI i) else if a ≤ cf_size (nI i) then a else cf_size (nI i)) else a
def cf_fm (g : Nat → Bool) : Nat → Int32 → Int32 := fun i a => if g i = true then (if cf_size (nI i) ≤ a then a else cf_size (nI i)) else a
theorem cf_its {f : Nat → Int32 → Int32} {a x : Int32} {i : Nat} (h : f i (cf_it f a i) = x) : x = cf_it f a (i + 1) := h.symm
theorem cf_fc0 {g : Nat → Bool} {i : Nat} {a : Int32} (h : g i = false) : cf_fc g i a = a := by unfold cf_fc; rw [h]; rfl
theorem cf_fc1 {g : Nat → Bool} {i : Nat} {a : Int32} (h : g i = true) : cf_fc g i a = a + 1 := by unfold cf_fc; rw [h]; rfl
theorem cf_fo0 {g : Nat → Bool} {i : Nat} {a : Int32} (h : g i = false) : cf_fo g i a = a := by unfold cf_fo; rw [h]; rfl
theorem cf_fo1 {g : Nat → Bool} {i : Nat} {a : Int32} (h : g i = true) : cf_fo g i a = a ||| nI i := by unfold cf_fo; rw [h]; rfl
theorem cf_fa0 {g : Nat → Bool} {i : Nat} {a : Int32} (h : g i = false) : cf_fa g i a = a := by unfold cf_fa; rw [h]; rfl
theorem cf_fa1 {g : Nat → Bool} {i : Nat} {a : Int32} (h : g i = true) : cf_fa g i a = a &&& nI i := by unfold cf_fa; rw [h]; rfl
theorem cf_fs0 {g : Nat → Bool} {i : Nat} {a : Int32} (h : g i = false) : cf_fs g i a = a := by unfold cf_fs; rw [h]; rfl
theorem cf_fs1 {g : Nat → Bool} {i : Nat} {a : Int32} (h : g i = true) (z : a < 0) : cf_fs g i a = cf_size (nI i) := by unfold cf_fs; rw [h, if_pos rfl, if_pos z]
theorem cf_fs2 {g : Nat → Bool} {i : Nat} {a : Int32} (h : g i = true) (z : ¬ a < 0) (y : a ≤ cf_size (nI i)) : cf_fs g i a = a := by unfold cf_fs; rw [h, if_pos rfl, if_neg z, if_pos y]
theorem cf_fs3 {g : Nat → Bool} {i : Nat} {a : Int32} (h : g i = true) (z : ¬ a < 0) (y : ¬ a ≤ cf_size (nI i)) : cf_fs g i a = cf_size (nI i) := by unfold cf_fs; rw [h, if_pos rfl, if_neg z, if_neg y]
theorem cf_fm0 {g : Nat → Bool} {i : Nat} {a : Int32} (h : g i = false) : cf_fm g i a = a := by unfold cf_fm; rw [h]; rfl
theorem cf_fm1 {g : Nat → Bool} {i : Nat} {a : Int32} (h : g i = true) (y : cf_size (nI i) ≤ a) : cf_fm g i a = a := by unfold cf_fm; rw [h, if_pos rfl, if_pos y]
theorem cf_fm2 {g : Nat → Bool} {i : Nat} {a : Int32} (h : g i = true) (y : ¬ cf_size (nI i) ≤ a) : cf_fm g i a = cf_size (nI i) := by unfold cf_fm; rw [h, if_pos rfl, if_neg y]
/-- the k-th: the first that is so and has k lesser ones -/
def cf_nth (g : Nat → Bool) (k : Int32) : Nat → Bool := fun i => g i && decide (cf_it (cf_fc g) 0 i = k)
theorem cf_nth0 {g : Nat → Bool} {k : Int32} {i : Nat} (h : g i = false) : cf_nth g k i = false := by unfold cf_nth; rw [h]; rfl
theorem cf_nth1 {g : Nat → Bool} {k : Int32} {i : Nat} (h : g i = true) (z : cf_it (cf_fc g) 0 i = k) : cf_nth g k i = true := by unfold cf_nth; rw [h, decide_eq_true z]; rfl
theorem cf_nth2 {g : Nat → Bool} {k : Int32} {i : Nat} (z : ¬ cf_it (cf_fc g) 0 i = k) : cf_nth g k i = false := by unfold cf_nth; rw [decide_eq_false z, Bool.and_false]
def cf_let (x : Int32) : Bool := !decide (x < 0) && !decide (16 ≤ x)
theorem cf_xlet {post : Int32 → Prop} {x : Int32} (h : post (cf_bi (cf_let x))) : wpX_areLetters post x := by
  unfold wpX_areLetters
  unfold cf_let at h
  refine br_c (fun z => ?_) (fun z => br_c (fun y => ?_) (fun y => ?_))
  · rw [decide_eq_true z] at h; exact h
  · rw [decide_eq_false z, decide_eq_true y] at h; exact h
  · rw [decide_eq_false z, decide_eq_false y] at h; exact h
theorem cf_xadd {post : Int32 → SX → Prop} {p a b : Int32} {va : Nat → Int32}
    (h1 : (cf_let a && cf_let b) = false → post (-1) (p, va))
    (h2 : (cf_let a && cf_let b) = true → (∀ j, j < 7 → bt p j = true) → post (-2) (p, va))
    (h3 : (cf_let a && cf_let b) = true → ∀ k, k < 7 → bt p k = false → (∀ j, j < k → bt p j = true) → ∀ w, (∀ i, bt w i = (decide (i < 16) && cf_hold a b i)) → post (nI k) (cf_in p k, upd va k w)) :
    wpX_add post (p, va) a b := by
  unfold wpX_add
  dsimp only
  refine cf_xlet ?_
  cases e : cf_let a
  · exact br_t rfl (h1 (by rw [e]; rfl))
  · refine br_f (by decide) (cf_xlet ?_)
    cases e2 : cf_let b
    · exact br_t rfl (h1 (by rw [e, e2]; rfl))
    · refine br_f (by decide) ?_
      have hl : (cf_let a && cf_let b) = true := by rw [e, e2]; rfl
      refine loop_0 (fun n i (_ : Unit) => wX_add_18 post a b p va n (nI i)) (fun i _ => ∀ j, j < i → bt p j = true) 7 () lt_0 ?_ ?_
      · intro n s I
        exact br_t cf_7 (h2 hl I)
      · intro n i s hi I rec
        refine br_f (cf_ge7 hi) (cf_xhas (by omega) ?_)
        cases e3 : bt p i
        · refine br_t rfl (cf_xval (fun w hw => ⟨vp_in_nI hi (by decide), ?_⟩))
          rw [nI_clamp (by omega)]
          exact nm_e (cf_xwith (h3 hl i hi e3 I w hw))
        · exact br_f (by decide) (nm_r (nI_1 i) (rec () (lt_s I e3)))
theorem cf_okp {p S : Int32} {va th ye no : Nat → Int32} (R : cf_R p va th ye no) (v : Nat) : cf_ok th ye no (S &&& p) v = cf_ok th ye no S v :=
  cf_okc (fun k hk z => by rw [b_and, cf_Rt R hk, decide_eq_false z]; exact Bool.and_true _)
theorem cf_Fp {p S : Int32} {va th ye no : Nat → Int32} (R : cf_R p va th ye no) : cf_F th ye no (S &&& p) = cf_F th ye no S :=
  cf_Fc (fun k hk z => by rw [b_and, cf_Rt R hk, decide_eq_false z]; exact Bool.and_true _)
theorem cf_andp {S p : Int32} : ∀ i, bt (S &&& p) i = true → bt p i = true := fun i h => by
  rw [b_and, Bool.and_eq_true] at h; exact h.2
theorem cf_xcons {post : Int32 → Prop} {p S : Int32} {va th ye no : Nat → Int32} (R : cf_R p va th ye no) (h : post (cf_bi (cf_F th ye no S))) : wpX_consistent post (p, va) S := by
  unfold wpX_consistent
  dsimp only
  refine cf_xcan R cf_andp ⟨cf_bin _, ?_⟩
  rw [cf_Fp R]
  exact h
theorem cf_xwit {post : Int32 → Prop} {p S : Int32} {va th ye no : Nat → Int32} (R : cf_R p va th ye no) (h : ∀ r, cf_first (fun v => cf_ok th ye no S v) 16 r → post r) : wpX_witness post (p, va) S := by
  unfold wpX_witness
  dsimp only
  refine cf_xcom R cf_andp (fun c hc => ?_)
  have hb : ∀ v, v < 16 → bt c v = cf_ok th ye no S v := fun v hv => by
    rw [hc v, decide_eq_true hv, Bool.true_and, cf_okp R]
  refine loop_0 (fun n i (_ : Unit) => wX_witness_13 post c p va n (nI i)) (fun i _ => ∀ j, j < i → cf_ok th ye no S j = false) 16 () lt_0 ?_ ?_
  · intro n s I
    exact br_t cf_16 (h _ (Or.inr ⟨I, rfl⟩))
  · intro n i s hi I rec
    refine br_f (cf_ge16 hi) (cf_xhas (by omega) ?_)
    rw [hb i hi]
    cases e : cf_ok th ye no S i
    · exact br_t rfl (nm_r (nI_1 i) (rec () (lt_s I e)))
    · exact br_f (by decide) (h _ (Or.inl ⟨i, hi, e, I, rfl⟩))
theorem cf_ok127 {p : Int32} {va th ye no : Nat → Int32} (R : cf_R p va th ye no) (v : Nat) : cf_ok th ye no p v = cf_ok th ye no 127 v :=
  cf_okc (fun k hk z => by rw [cf_b127, decide_eq_true hk, cf_Rt R hk, decide_eq_false z]; rfl)
def cf_fol (th ye no : Nat → Int32) (a b : Int32) : Bool := (cf_let a && cf_let b) && cf_all (fun v => !cf_ok th ye no 127 v || cf_hold a b v) 16
theorem cf_xfol {post : Int32 → Prop} {p a b : Int32} {va th ye no : Nat → Int32} (R : cf_R p va th ye no) (h : post (cf_bi (cf_fol th ye no a b))) : wpX_follows post (p, va) a b := by
  unfold wpX_follows
  dsimp only
  unfold cf_fol at h
  refine cf_xlet ?_
  cases e : cf_let a
  · rw [e] at h
    exact br_t rfl h
  · refine br_f (by decide) (cf_xlet ?_)
    cases e2 : cf_let b
    · rw [e, e2] at h
      exact br_t rfl h
    · rw [e, e2] at h
      refine br_f (by decide) (cf_xcom R (fun _ x => x) (fun c hc => cf_xval (fun w hw => ?_)))
      refine br_c (fun z => ?_) (fun z => ?_)
      · have hs := (cf_subz c w).mp z
        have : cf_all (fun v => !cf_ok th ye no 127 v || cf_hold a b v) 16 = true := cf_alli.mpr (fun v hv => by
          cases g : cf_ok th ye no 127 v
          · rfl
          · have hcv : bt c v = true := by rw [hc v, decide_eq_true hv, cf_ok127 R, g]; rfl
            have hwv := hs v hcv
            rw [hw v, decide_eq_true hv, Bool.true_and] at hwv
            rw [hwv]; rfl)
        rw [this] at h
        exact h
      · have : cf_all (fun v => !cf_ok th ye no 127 v || cf_hold a b v) 16 = false := by
          cases g : cf_all (fun v => !cf_ok th ye no 127 v || cf_hold a b v) 16
          · rfl
          · exfalso
            apply z
            apply (cf_subz c w).mpr
            intro i hi
            rw [hc i, Bool.and_eq_true, cf_ok127 R] at hi
            have hi16 : i < 16 := of_decide_eq_true hi.1
            have := cf_alli.mp g i hi16
            rw [hi.2] at this
            rw [hw i, decide_eq_true hi16, Bool.true_and]
            simpa using this
        rw [this] at h
        exact h
