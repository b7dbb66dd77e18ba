/-! Y's public methods -/
theorem cf_yadd {post : Int32 → SY → Prop} {a b : Int32} {th ye no fi : Nat → Int32}
    (h1 : (cf_let a && cf_let b) = false → post (-1) (th, ye, no, fi))
    (h2 : (cf_let a && cf_let b) = true → (∀ j, j < 7 → ¬ th j = 0) → post (-2) (th, ye, no, fi))
    (h3 : (cf_let a && cf_let b) = true → ∀ k, k < 7 → th k = 0 → (∀ j, j < k → ¬ th j = 0) → post (nI k) (upd th k 1, upd ye k a, upd no k b, fi)) :
    wpY_add post (th, ye, no, fi) a b := by
  unfold wpY_add
  dsimp only
  refine cf_ylet ?_
  cases e : cf_let a
  · exact br_t rfl (h1 (by rw [e]; rfl))
  · refine br_f (by decide) (cf_ylet ?_)
    cases e2 : cf_let b
    · exact br_t rfl (h1 (by rw [e, e2]; rfl))
    · refine br_f (by decide) ?_
      have hl : (cf_let a && cf_let b) = true := by rw [e, e2]; rfl
      refine loop_0 (fun n i (_ : Unit) => wY_add_20 post a b th ye no fi n (nI i)) (fun i _ => ∀ j, j < i → ¬ th j = 0) 7 () lt_0 ?_ ?_
      · intro n s I
        exact br_t cf_7 (h2 hl I)
      · intro n i s hi I rec
        have hv : vp_in (nI i) 7 := vp_in_nI hi (by decide)
        refine br_f (cf_ge7 hi) ⟨hv, ?_⟩
        rw [nI_clamp (by omega)]
        refine br_c (fun z => ?_) (fun z => nm_r (nI_1 i) (rec () (lt_s I z)))
        exact ⟨hv, nm_r (e' := upd th i 1) rfl ⟨hv, nm_e ⟨hv, nm_e (h3 hl i hi z I)⟩⟩⟩
theorem cf_yfol {post : Int32 → Prop} {a b : Int32} {th ye no fi : Nat → Int32} (h : post (cf_bi (cf_fol th ye no a b))) : wpY_follows post (th, ye, no, fi) a b := by
  unfold wpY_follows
  dsimp only
  have L : ∀ b0 : Bool, b0 = (cf_let a && cf_let b) → ∃ n25, wY_follows_25 post a b th ye no fi n25 (cf_bi b0) 0 := by
    intro b0 hb
    refine loop_0 (fun n i s => wY_follows_25 post a b th ye no fi n s (nI i)) (fun i s => s = cf_bi (b0 && cf_all (fun v => !cf_ok th ye no 127 v || cf_hold a b v) i)) 16 (cf_bi b0) ?_ ?_ ?_
    · show cf_bi b0 = cf_bi (b0 && true)
      rw [Bool.and_true]
    · rintro n s rfl
      refine br_t cf_16 ⟨cf_bin _, ?_⟩
      rw [hb]; exact h
    · rintro n i s hi rfl rec
      refine br_f (cf_ge16 hi) ?_
      cases e : (b0 && cf_all (fun v => !cf_ok th ye no 127 v || cf_hold a b v) i)
      · refine br_t rfl (nm_r (nI_1 i) (rec _ ?_))
        show 0 = cf_bi (b0 && (cf_all _ i && _))
        rw [← Bool.and_assoc, e]; rfl
      · refine br_f (by decide) (cf_yall ?_)
        cases e2 : cf_ok th ye no 127 i
        · refine br_t rfl (nm_r (nI_1 i) (rec _ ?_))
          show 1 = cf_bi (b0 && (cf_all _ i && (!cf_ok th ye no 127 i || _)))
          rw [← Bool.and_assoc, e, e2]; rfl
        · refine br_f (by decide) (cf_yholds ?_)
          cases e3 : cf_hold a b i
          · refine br_t rfl (nm_r (nI_1 i) (rec _ ?_))
            show 0 = cf_bi (b0 && (cf_all _ i && (!cf_ok th ye no 127 i || cf_hold a b i)))
            rw [← Bool.and_assoc, e, e2, e3]; rfl
          · refine br_f (by decide) (nm_r (nI_1 i) (rec _ ?_))
            show 1 = cf_bi (b0 && (cf_all _ i && (!cf_ok th ye no 127 i || cf_hold a b i)))
            rw [← Bool.and_assoc, e, e2, e3]; rfl
  refine cf_ylet ?_
  cases e : cf_let a
  · exact br_t rfl (L false (by rw [e]; rfl))
  · refine br_f (by decide) (cf_ylet ?_)
    cases e2 : cf_let b
    · exact br_t rfl (L false (by rw [e, e2]; rfl))
    · exact br_f (by decide) (L true (by rw [e, e2]; rfl))
