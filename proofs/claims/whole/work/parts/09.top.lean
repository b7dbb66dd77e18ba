/-! what is owed -/
/-- bit k of present says that clause k is there; the values kept for it are those at which the clause holds -/
def i_Rel (_ : Nat) (u : SX) (v : SY) : Prop := cf_R u.1 u.2 v.1 v.2.1 v.2.2.1
theorem i_up {k : Nat} {u : SX} {v : SY} (h : i_Rel k u v) : i_Rel (k + 3) u v := h
theorem i_vc0 : wpX_init (fun u => wpY_init (fun v => i_Rel 0 u v)) :=
  ⟨fun i => by show bt 0 i = (decide (i < 7) && !decide ((0 : Int32) = 0)); rw [b_0, decide_eq_true rfl]; exact (Bool.and_false _).symm, fun _ _ z => absurd rfl z⟩
theorem i_vc_add {k : Nat} {u : SX} {v : SY} (I : i_Rel k u v) (hk : k + 3 ≤ 1536) (v1 : Int32) (v2 : Int32) : wpX_add (fun r u' => wpY_add (fun r' v' => r' = r ∧ i_Rel (k + 3) u' v') v v1 v2) u v1 v2 := by
  obtain ⟨p, va⟩ := u
  obtain ⟨th, ye, no, fi⟩ := v
  have R : cf_R p va th ye no := I
  refine cf_xadd (fun hl => ?_) (fun hl hx => ?_) (fun hl j hj hf hx w hw => ?_)
  · refine cf_yadd (fun _ => ⟨rfl, R⟩) (fun hl2 _ => ?_) (fun hl2 _ _ _ _ => ?_)
    · rw [hl] at hl2; exact absurd hl2 (by decide)
    · rw [hl] at hl2; exact absurd hl2 (by decide)
  · refine cf_yadd (fun hl2 => ?_) (fun _ _ => ⟨rfl, R⟩) (fun _ m hm hz _ => ?_)
    · rw [hl] at hl2; exact absurd hl2 (by decide)
    · have := hx m hm
      rw [cf_Rt R hm, decide_eq_true hz] at this
      exact absurd this (by decide)
  · have hz : th j = 0 := by
      rw [cf_Rt R hj] at hf
      simpa using hf
    refine cf_yadd (fun hl2 => ?_) (fun _ hy => absurd hz (hy j hj)) (fun _ m hm hmz hy => ?_)
    · rw [hl] at hl2; exact absurd hl2 (by decide)
    · have e : m = j := by
        rcases Nat.lt_trichotomy m j with g | g | g
        · have := hx m g
          rw [cf_Rt R hm, decide_eq_true hmz] at this
          exact absurd this (by decide)
        · exact g
        · exact absurd hz (hy j g)
      subst e
      refine ⟨rfl, ?_, ?_⟩
      · intro i
        show bt (cf_in p m) i = (decide (i < 7) && !decide (upd th m 1 i = 0))
        rw [cf_bin' p hm]
        by_cases g : i = m
        · subst g
          rw [pk_us, decide_eq_true rfl, decide_eq_true hm, Bool.or_true]; rfl
        · rw [pk_un g, decide_eq_false g, Bool.or_false]
          exact R.1 i
      · intro i hi hn x hx16
        show bt (upd va m w i) x = cf_hold (upd ye m v1 i) (upd no m v2 i) x
        by_cases g : i = m
        · subst g
          rw [pk_us, pk_us, pk_us, hw x, decide_eq_true hx16, Bool.true_and]
        · rw [pk_un g, pk_un g, pk_un g]
          have hn' : ¬ upd th m 1 i = 0 := hn
          rw [pk_un g] at hn'
          exact R.2 i hi hn' x hx16
theorem i_vc_remove {k : Nat} {u : SX} {v : SY} (I : i_Rel k u v) (hk : k + 3 ≤ 1536) (v1 : Int32) : wpX_remove (fun r u' => wpY_remove (fun r' v' => r' = r ∧ i_Rel (k + 3) u' v') v v1) u v1 := by
  obtain ⟨p, va⟩ := u
  obtain ⟨th, ye, no, fi⟩ := v
  have R : cf_R p va th ye no := I
  unfold wpX_remove wpY_remove
  dsimp only
  by_cases h0 : v1 < 0
  · exact br_t h0 (br_t h0 ⟨rfl, R⟩)
  · by_cases h7 : 7 ≤ v1
    · exact br_f h0 (br_t h7 (br_f h0 (br_t ((cf_67 v1).mpr h7) ⟨rfl, R⟩)))
    · have h6 : ¬ 6 < v1 := fun z => h7 ((cf_67 v1).mp z)
      obtain ⟨j, hj, rfl⟩ := nI_of h0
      have hj7 : j < 7 := by
        rcases Nat.lt_or_ge j 7 with g | g
        · exact g
        · exact absurd (nI_le (a := 7) g hj) h7
      have hv : vp_in (nI j) 7 := vp_in_nI hj7 (by decide)
      refine br_f h0 (br_f h7 (cf_xhas (by omega) ?_))
      rw [nI_clamp hj]
      by_cases z : th j = 0
      · have e : bt p j = false := by rw [cf_Rt R hj7, decide_eq_true z]; rfl
        rw [e]
        exact br_t rfl (br_f h0 (br_f h6 ⟨hv, br_t z ⟨rfl, R⟩⟩))
      · have e : bt p j = true := by rw [cf_Rt R hj7, decide_eq_false z]; rfl
        rw [e]
        refine br_f (by decide) (cf_xwithout (br_f h0 (br_f h6 ⟨hv, br_f z ⟨hv, nm_r (e' := upd th j 0) rfl ⟨rfl, ?_, ?_⟩⟩⟩)))
        · intro i
          show bt (cf_out p j) i = (decide (i < 7) && !decide (upd th j 0 i = 0))
          rw [cf_bout p hj7]
          by_cases g : i = j
          · subst g
            rw [pk_us, decide_eq_true rfl, decide_eq_true rfl]; simp
          · rw [pk_un g, decide_eq_false g, R.1 i]; simp
        · intro i hi hn x hx
          by_cases g : i = j
          · subst g
            exact absurd pk_us hn
          · have hn' : ¬ upd th j 0 i = 0 := hn
            rw [pk_un g] at hn'
            exact R.2 i hi hn' x hx
theorem i_vc_clauses {k : Nat} {u : SX} {v : SY} (I : i_Rel k u v) (hk : k + 3 ≤ 1536) : wpX_clauses (fun r => wpY_clauses (fun r' => r' = r ∧ i_Rel (k + 3) u v) v) u := by
  obtain ⟨p, va⟩ := u
  obtain ⟨th, ye, no, fi⟩ := v
  have R : cf_R p va th ye no := I
  unfold wpX_clauses
  dsimp only
  exact cf_yclauses R.1 ⟨rfl, R⟩
theorem i_vc_consistent {k : Nat} {u : SX} {v : SY} (I : i_Rel k u v) (hk : k + 3 ≤ 1536) (v1 : Int32) : wpX_consistent (fun r => wpY_consistent (fun r' => r' = r ∧ i_Rel (k + 3) u v) v v1) u v1 := by
  obtain ⟨p, va⟩ := u
  obtain ⟨th, ye, no, fi⟩ := v
  have R : cf_R p va th ye no := I
  exact cf_xcons R (cf_ycons ⟨rfl, R⟩)
theorem i_vc_witness {k : Nat} {u : SX} {v : SY} (I : i_Rel k u v) (hk : k + 3 ≤ 1536) (v1 : Int32) : wpX_witness (fun r => wpY_witness (fun r' => r' = r ∧ i_Rel (k + 3) u v) v v1) u v1 := by
  obtain ⟨p, va⟩ := u
  obtain ⟨th, ye, no, fi⟩ := v
  have R : cf_R p va th ye no := I
  exact cf_xwit R (fun r hr => cf_ywit (fun r' hr' => ⟨cf_firstu (fun _ _ => rfl) hr hr', R⟩))
theorem i_vc_cores {k : Nat} {u : SX} {v : SY} (I : i_Rel k u v) (hk : k + 3 ≤ 1536) : wpX_cores (fun r => wpY_cores (fun r' v' => r' = r ∧ i_Rel (k + 3) u v') v) u := by
  obtain ⟨p, va⟩ := u
  obtain ⟨th, ye, no, fi⟩ := v
  have R : cf_R p va th ye no := I
  exact cf_xcores R (cf_ycores R.1 (fun _ => ⟨rfl, R⟩))
theorem i_vc_core {k : Nat} {u : SX} {v : SY} (I : i_Rel k u v) (hk : k + 3 ≤ 1536) (v1 : Int32) : wpX_core (fun r => wpY_core (fun r' v' => r' = r ∧ i_Rel (k + 3) u v') v v1) u v1 := by
  obtain ⟨p, va⟩ := u
  obtain ⟨th, ye, no, fi⟩ := v
  have R : cf_R p va th ye no := I
  exact cf_xcoreN R (fun r hr => cf_ycoreN R.1 (fun r' _ hr' => ⟨cf_firstu (fun _ _ => rfl) hr hr', R⟩))
theorem i_vc_repairs {k : Nat} {u : SX} {v : SY} (I : i_Rel k u v) (hk : k + 3 ≤ 1536) : wpX_repairs (fun r => wpY_repairs (fun r' v' => r' = r ∧ i_Rel (k + 3) u v') v) u := by
  obtain ⟨p, va⟩ := u
  obtain ⟨th, ye, no, fi⟩ := v
  have R : cf_R p va th ye no := I
  exact cf_xrepairs R (cf_yrepairs R.1 (fun _ => ⟨rfl, R⟩))
theorem i_vc_repair {k : Nat} {u : SX} {v : SY} (I : i_Rel k u v) (hk : k + 3 ≤ 1536) (v1 : Int32) : wpX_repair (fun r => wpY_repair (fun r' v' => r' = r ∧ i_Rel (k + 3) u v') v v1) u v1 := by
  obtain ⟨p, va⟩ := u
  obtain ⟨th, ye, no, fi⟩ := v
  have R : cf_R p va th ye no := I
  exact cf_xrepairN R (fun r hr => cf_yrepairN R.1 (fun r' _ hr' => ⟨cf_firstu (fun _ _ => rfl) hr hr', R⟩))
theorem i_vc_guilty {k : Nat} {u : SX} {v : SY} (I : i_Rel k u v) (hk : k + 3 ≤ 1536) : wpX_guilty (fun r => wpY_guilty (fun r' v' => r' = r ∧ i_Rel (k + 3) u v') v) u := by
  obtain ⟨p, va⟩ := u
  obtain ⟨th, ye, no, fi⟩ := v
  have R : cf_R p va th ye no := I
  exact cf_xguilty R (cf_yguilty R.1 (fun _ => ⟨rfl, R⟩))
theorem i_vc_central {k : Nat} {u : SX} {v : SY} (I : i_Rel k u v) (hk : k + 3 ≤ 1536) : wpX_central (fun r => wpY_central (fun r' v' => r' = r ∧ i_Rel (k + 3) u v') v) u := by
  obtain ⟨p, va⟩ := u
  obtain ⟨th, ye, no, fi⟩ := v
  have R : cf_R p va th ye no := I
  exact cf_xcentral R (cf_ycentral R.1 (fun _ => ⟨rfl, R⟩))
theorem i_vc_smallestCore {k : Nat} {u : SX} {v : SY} (I : i_Rel k u v) (hk : k + 3 ≤ 1536) : wpX_smallestCore (fun r => wpY_smallestCore (fun r' v' => r' = r ∧ i_Rel (k + 3) u v') v) u := by
  obtain ⟨p, va⟩ := u
  obtain ⟨th, ye, no, fi⟩ := v
  have R : cf_R p va th ye no := I
  exact cf_xsmall R (cf_ysmall R.1 (fun _ => ⟨rfl, R⟩))
theorem i_vc_mostTogether {k : Nat} {u : SX} {v : SY} (I : i_Rel k u v) (hk : k + 3 ≤ 1536) : wpX_mostTogether (fun r => wpY_mostTogether (fun r' v' => r' = r ∧ i_Rel (k + 3) u v') v) u := by
  obtain ⟨p, va⟩ := u
  obtain ⟨th, ye, no, fi⟩ := v
  have R : cf_R p va th ye no := I
  exact cf_xmost R (cf_ymost R.1 (fun _ => ⟨rfl, R⟩))
theorem i_vc_follows {k : Nat} {u : SX} {v : SY} (I : i_Rel k u v) (hk : k + 3 ≤ 1536) (v1 : Int32) (v2 : Int32) : wpX_follows (fun r => wpY_follows (fun r' => r' = r ∧ i_Rel (k + 3) u v) v v1 v2) u v1 v2 := by
  obtain ⟨p, va⟩ := u
  obtain ⟨th, ye, no, fi⟩ := v
  have R : cf_R p va th ye no := I
  exact cf_xfol R (cf_yfol ⟨rfl, R⟩)
