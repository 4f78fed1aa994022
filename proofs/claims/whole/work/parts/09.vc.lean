theorem i_vc_unknowns {k : Nat} {u : SX} {v : SY} (I : i_Rel k u v) (hk : k + 3 ≤ 1538) : wpX_unknowns (fun r => wpY_unknowns (fun r' => r' = r ∧ i_Rel (k + 3) u v) v) u := by
  obtain ⟨nv, nb, dl, co, rs, sz, cf, rt, sn, hs, rfl, rfl, R⟩ := I
  exact ⟨rfl, cb_i R⟩
theorem i_vc_modulus {k : Nat} {u : SX} {v : SY} (I : i_Rel k u v) (hk : k + 3 ≤ 1538) : wpX_modulus (fun r => wpY_modulus (fun r' => r' = r ∧ i_Rel (k + 3) u v) v) u := by
  obtain ⟨nv, nb, dl, co, rs, sz, cf, rt, sn, hs, rfl, rfl, R⟩ := I
  refine ⟨?_, cb_i R⟩
  have := cb_pM0 (nb := nb)
  rw [nI_1]
  exact congrArg nI (by omega)
theorem i_vc_draft {k : Nat} {u : SX} {v : SY} (I : i_Rel k u v) (hk : k + 3 ≤ 1538) (v1 : Int32) (v2 : Int32) : wpX_draft (fun r u' => wpY_draft (fun r' v' => r' = r ∧ i_Rel (k + 3) u' v') v v1 v2) u v1 v2 := by
  obtain ⟨nv, nb, dl, co, rs, sz, cf, rt, sn, hs, rfl, rfl, R⟩ := I
  unfold wpX_draft wpY_draft
  dsimp only
  rcases cb_unkc R.1 v1 with ⟨v, hv, rfl⟩ | hb
  · have h4 := R.1.2.1
    have c : (nI v).toNatClampNeg = v := nI_clamp (by omega)
    rw [c]
    refine cb_xu R.1 hv ?_
    refine br_f (by decide) ?_
    refine ⟨pk_in v 4 (by omega), nm_e ⟨pk_in v 4 (by omega), ?_⟩⟩
    refine cb_yu R.1 hv ?_
    refine br_t rfl ?_
    refine cb_yr ?_
    exact ⟨pk_in v 4 (by omega), nm_e ⟨pk_in v 4 (by omega), rfl, cb_i R⟩⟩
  · refine cb_xu0 hb ?_
    refine br_t rfl ?_
    refine cb_yu1 hb ?_
    exact br_f (by decide) ⟨rfl, cb_i R⟩
theorem i_vc_drafted {k : Nat} {u : SX} {v : SY} (I : i_Rel k u v) (hk : k + 3 ≤ 1538) (v1 : Int32) : wpX_drafted (fun r => wpY_drafted (fun r' => r' = r ∧ i_Rel (k + 3) u v) v v1) u v1 := by
  obtain ⟨nv, nb, dl, co, rs, sz, cf, rt, sn, hs, rfl, rfl, R⟩ := I
  unfold wpX_drafted wpY_drafted
  dsimp only
  rcases cb_unkc R.1 v1 with ⟨v, hv, rfl⟩ | hb
  · have h4 := R.1.2.1
    refine cb_xu R.1 hv ?_
    refine br_f (by decide) ⟨pk_in v 4 (by omega), ?_⟩
    refine cb_yu R.1 hv ?_
    exact br_t rfl ⟨pk_in v 4 (by omega), rfl, cb_i R⟩
  · refine cb_xu0 hb ?_
    refine br_t rfl ?_
    refine cb_yu1 hb ?_
    exact br_f (by decide) ⟨rfl, cb_i R⟩
theorem i_vc_add {k : Nat} {u : SX} {v : SY} (I : i_Rel k u v) (hk : k + 3 ≤ 1538) (v1 : Int32) (v2 : Int32) : wpX_add (fun r u' => wpY_add (fun r' v' => r' = r ∧ i_Rel (k + 3) u' v') v v1 v2) u v1 v2 := by
  obtain ⟨nv, nb, dl, co, rs, sz, cf, rt, sn, hs, rfl, rfl, R⟩ := I
  unfold wpX_add wpY_add
  dsimp only
  rcases cb_sysc v1 with ⟨s, h2, rfl⟩ | hb
  · have c := cb_szc R.2.1 h2
    obtain ⟨hz, h10⟩ := R.2.1 s h2
    rw [c]
    refine cb_xy h2 ?_
    refine br_f (by decide) ⟨pk_in s 2 h2, ?_⟩
    by_cases hf : hs s < 10
    · refine br_t (nI_lt (b := 10) hf (by decide)) ⟨pk_in s 2 h2, cb_ro ?_⟩
      refine cb_xaddE h2 hf hz ?_
      refine cb_yy h2 ?_
      refine br_t rfl ⟨pk_in s 2 h2, nm_e ?_⟩
      refine br_t (nI_lt (b := 10) hf (by decide)) ?_
      exact cb_yaddE h2 hf ⟨rfl, cb_i (cb_Radd R h2 hf rfl)⟩
    · refine br_f (nI_nlt (b := 10) (by omega) (by omega)) ?_
      refine cb_yy h2 ?_
      refine br_t rfl ⟨pk_in s 2 h2, nm_e ?_⟩
      exact br_f (nI_nlt (b := 10) (by omega) (by omega)) ⟨rfl, cb_i R⟩
  · refine cb_xn hb ?_
    refine br_t rfl ?_
    refine cb_ybad hb ?_
    exact br_f (by decide) ⟨rfl, cb_i R⟩
theorem i_vc_drop {k : Nat} {u : SX} {v : SY} (I : i_Rel k u v) (hk : k + 3 ≤ 1538) (v1 : Int32) (v2 : Int32) : wpX_drop (fun r u' => wpY_drop (fun r' v' => r' = r ∧ i_Rel (k + 3) u' v') v v1 v2) u v1 v2 := by
  obtain ⟨nv, nb, dl, co, rs, sz, cf, rt, sn, hs, rfl, rfl, R⟩ := I
  unfold wpX_drop wpY_drop wpX_isPosition
  dsimp only
  rcases cb_sysc v1 with ⟨s, h2, rfl⟩ | hb
  · have c := cb_szc R.2.1 h2
    obtain ⟨hz, h10⟩ := R.2.1 s h2
    rw [c]
    refine cb_xy h2 ?_
    refine br_f (by decide) ?_
    by_cases h0 : v2 < 0
    · refine br_t h0 ?_
      refine br_t rfl ?_
      refine cb_yy h2 ?_
      refine br_t rfl ?_
      exact br_t h0 ⟨rfl, cb_i R⟩
    · refine br_f h0 ⟨pk_in s 2 h2, ?_⟩
      obtain ⟨j, hj, rfl⟩ := nI_of h0
      by_cases hh : j < hs s
      · refine br_f (nI_ge hh (by omega)) ?_
        refine br_f (by decide) ⟨pk_in s 2 h2, ?_⟩
        rw [show nI (hs s) - 1 = nI (hs s - 1) from pk_sub (b := 1) (by omega)]
        refine cb_ro ?_
        refine cb_ro ?_
        refine cb_xdropE h2 h10 hh hz ?_
        refine cb_yy h2 ?_
        refine br_t rfl ?_
        refine br_f h0 ⟨pk_in s 2 h2, ?_⟩
        refine br_f (nI_ge hh (by omega)) ?_
        refine br_t (nI_lt (b := 10) (by omega) (by decide)) ?_
        exact cb_ydropE h2 h10 hh hz ⟨rfl, cb_i (cb_Rdrop R h2 hh rfl)⟩
      · refine br_t (nI_le (by omega) hj) ?_
        refine br_t rfl ?_
        refine cb_yy h2 ?_
        refine br_t rfl ?_
        refine br_f h0 ⟨pk_in s 2 h2, ?_⟩
        exact br_t (nI_le (by omega) hj) ⟨rfl, cb_i R⟩
  · refine cb_xn hb ?_
    refine br_t rfl ?_
    refine cb_ybad hb ?_
    exact br_f (by decide) ⟨rfl, cb_i R⟩
theorem i_vc_copy {k : Nat} {u : SX} {v : SY} (I : i_Rel k u v) (hk : k + 3 ≤ 1538) (v1 : Int32) : wpX_copy (fun r u' => wpY_copy (fun r' v' => r' = r ∧ i_Rel (k + 3) u' v') v v1) u v1 := by
  obtain ⟨nv, nb, dl, co, rs, sz, cf, rt, sn, hs, rfl, rfl, R⟩ := I
  unfold wpX_copy wpY_copy
  dsimp only
  rcases cb_sysc v1 with ⟨s, h2, rfl⟩ | hb
  · obtain ⟨hz, h10⟩ := R.2.1 s h2
    rw [cb_1s h2]
    refine cb_xy h2 ?_
    refine br_f (by decide) ?_
    refine cb_ro (i := 0) ?_
    refine cb_ro (i := 0) ?_
    refine cb_xcopyE h2 h10 hz ?_
    refine cb_yy h2 ?_
    refine br_t rfl (nm_e ?_)
    exact cb_ycopyE h2 hz ⟨rfl, cb_i (cb_Rcopy R h2 rfl)⟩
  · refine cb_xn hb ?_
    refine br_t rfl ?_
    refine cb_ybad hb ?_
    exact br_f (by decide) ⟨rfl, cb_i R⟩
theorem i_vc_size {k : Nat} {u : SX} {v : SY} (I : i_Rel k u v) (hk : k + 3 ≤ 1538) (v1 : Int32) : wpX_size (fun r => wpY_size (fun r' => r' = r ∧ i_Rel (k + 3) u v) v v1) u v1 := by
  obtain ⟨nv, nb, dl, co, rs, sz, cf, rt, sn, hs, rfl, rfl, R⟩ := I
  unfold wpX_size wpY_size
  dsimp only
  rcases cb_sysc v1 with ⟨s, h2, rfl⟩ | hb
  · refine cb_xy h2 ?_
    refine br_f (by decide) ⟨pk_in s 2 h2, ?_⟩
    refine cb_yy h2 ?_
    exact br_t rfl ⟨pk_in s 2 h2, rfl, cb_i R⟩
  · refine cb_xn hb ?_
    refine br_t rfl ?_
    refine cb_ybad hb ?_
    exact br_f (by decide) ⟨rfl, cb_i R⟩
theorem i_vc_solutions {k : Nat} {u : SX} {v : SY} (I : i_Rel k u v) (hk : k + 3 ≤ 1538) (v1 : Int32) : wpX_solutions (fun r => wpY_solutions (fun r' => r' = r ∧ i_Rel (k + 3) u v) v v1) u v1 := by
  obtain ⟨nv, nb, dl, co, rs, sz, cf, rt, sn, hs, rfl, rfl, R⟩ := I
  unfold wpX_solutions wpY_solutions wpX_below
  dsimp only
  rcases cb_sysc v1 with ⟨s, h2, rfl⟩ | hb
  · obtain ⟨r, hX, hY⟩ := cb_solL (dl := dl) (sn := sn) R h2 (2 ^ (nb * nv)) 0 0 (by omega)
    refine cb_xy h2 ?_
    refine br_f (by decide) ?_
    refine ⟨_, hX _ ?_⟩
    refine cb_yy h2 ?_
    exact br_t rfl ⟨_, hY _ ⟨rfl, cb_i R⟩⟩
  · refine cb_xn hb ?_
    refine br_t rfl ?_
    refine cb_ybad hb ?_
    exact br_f (by decide) ⟨rfl, cb_i R⟩
theorem i_vc_nth {k : Nat} {u : SX} {v : SY} (I : i_Rel k u v) (hk : k + 3 ≤ 1538) (v1 : Int32) (v2 : Int32) : wpX_nth (fun r => wpY_nth (fun r' => r' = r ∧ i_Rel (k + 3) u v) v v1 v2) u v1 v2 := by
  obtain ⟨nv, nb, dl, co, rs, sz, cf, rt, sn, hs, rfl, rfl, R⟩ := I
  unfold wpX_nth wpY_nth
  dsimp only
  rcases cb_sysc v1 with ⟨s, h2, rfl⟩ | hb
  · obtain ⟨r, hX, hY⟩ := cb_nthL (dl := dl) (sn := sn) R h2 v2 (2 ^ (nb * nv)) 0 0 (by omega)
    refine cb_xy h2 ?_
    refine br_f (by decide) ?_
    refine ⟨_, hX _ ?_⟩
    refine cb_yy h2 ?_
    exact br_t rfl ⟨_, hY _ ⟨rfl, cb_i R⟩⟩
  · refine cb_xn hb ?_
    refine br_t rfl ?_
    refine cb_ybad hb ?_
    exact br_f (by decide) ⟨rfl, cb_i R⟩
theorem i_vc_below {k : Nat} {u : SX} {v : SY} (I : i_Rel k u v) (hk : k + 3 ≤ 1538) (v1 : Int32) (v2 : Int32) : wpX_below (fun r => wpY_below (fun r' => r' = r ∧ i_Rel (k + 3) u v) v v1 v2) u v1 v2 := by
  obtain ⟨nv, nb, dl, co, rs, sz, cf, rt, sn, hs, rfl, rfl, R⟩ := I
  unfold wpX_below wpY_below
  dsimp only
  rcases cb_sysc v1 with ⟨s, h2, rfl⟩ | hb
  · obtain ⟨r, hX, hY⟩ := cb_belL (dl := dl) (sn := sn) R h2 v2 (2 ^ (nb * nv)) 0 0 (by omega)
    refine cb_xy h2 ?_
    refine br_f (by decide) ?_
    refine ⟨_, hX _ ?_⟩
    refine cb_yy h2 ?_
    exact br_t rfl ⟨_, hY _ ⟨rfl, cb_i R⟩⟩
  · refine cb_xn hb ?_
    refine br_t rfl ?_
    refine cb_ybad hb ?_
    exact br_f (by decide) ⟨rfl, cb_i R⟩
theorem i_vc_entails {k : Nat} {u : SX} {v : SY} (I : i_Rel k u v) (hk : k + 3 ≤ 1538) (v1 : Int32) (v2 : Int32) : wpX_entails (fun r => wpY_entails (fun r' => r' = r ∧ i_Rel (k + 3) u v) v v1 v2) u v1 v2 := by
  obtain ⟨nv, nb, dl, co, rs, sz, cf, rt, sn, hs, rfl, rfl, R⟩ := I
  unfold wpX_entails wpY_entails
  dsimp only
  rcases cb_sysc v1 with ⟨s, h2, rfl⟩ | hb
  · obtain ⟨r, hX, hY⟩ := cb_entL (dl := dl) (sn := sn) R h2 v2 (2 ^ (nb * nv)) 0 (by omega)
    refine cb_xy h2 ?_
    refine br_f (by decide) ?_
    refine ⟨_, hX _ ?_⟩
    refine cb_yy h2 ?_
    exact br_t rfl ⟨_, hY _ ⟨rfl, cb_i R⟩⟩
  · refine cb_xn hb ?_
    refine br_t rfl ?_
    refine cb_ybad hb ?_
    exact br_f (by decide) ⟨rfl, cb_i R⟩
theorem i_vc_countAt {k : Nat} {u : SX} {v : SY} (I : i_Rel k u v) (hk : k + 3 ≤ 1538) (v1 : Int32) (v2 : Int32) : wpX_countAt (fun r => wpY_countAt (fun r' => r' = r ∧ i_Rel (k + 3) u v) v v1 v2) u v1 v2 := by
  obtain ⟨nv, nb, dl, co, rs, sz, cf, rt, sn, hs, rfl, rfl, R⟩ := I
  unfold wpX_countAt wpY_countAt
  dsimp only
  rcases cb_sysc v1 with ⟨s, h2, rfl⟩ | hb
  · obtain ⟨r, _, _, _, hX, hY⟩ := cb_catL (dl := dl) (sn := sn) R h2 v2 (2 ^ (nb * nv)) 0 0 (by omega)
    refine cb_xy h2 ?_
    refine br_f (by decide) ?_
    refine ⟨_, hX _ ?_⟩
    refine cb_yy h2 ?_
    exact br_t rfl ⟨_, hY _ ⟨rfl, cb_i R⟩⟩
  · refine cb_xn hb ?_
    refine br_t rfl ?_
    refine cb_ybad hb ?_
    exact br_f (by decide) ⟨rfl, cb_i R⟩
theorem i_vc_values {k : Nat} {u : SX} {v : SY} (I : i_Rel k u v) (hk : k + 3 ≤ 1538) (v1 : Int32) : wpX_values (fun r => wpY_values (fun r' v' => r' = r ∧ i_Rel (k + 3) u v') v v1) u v1 := by
  obtain ⟨nv, nb, dl, co, rs, sz, cf, rt, sn, hs, rfl, rfl, R⟩ := I
  unfold wpX_values wpY_values
  dsimp only
  rcases cb_sysc v1 with ⟨s, h2, rfl⟩ | hb
  · obtain ⟨r, hX, hY⟩ := cb_valL (dl := dl) R h2 (2 ^ nb) 0 0 (by omega)
    refine cb_xy h2 ?_
    refine br_f (by decide) ?_
    refine ⟨_, hX _ ?_⟩
    refine cb_yy h2 ?_
    refine br_t rfl ?_
    refine cb_mark R h2 (fun sn' hm => ?_)
    exact ⟨_, hY sn' hm _ ⟨rfl, cb_i R⟩ 16 (by omega)⟩
  · refine cb_xn hb ?_
    refine br_t rfl ?_
    refine cb_ybad hb ?_
    exact br_f (by decide) ⟨rfl, cb_i R⟩
theorem i_vc_leastValue {k : Nat} {u : SX} {v : SY} (I : i_Rel k u v) (hk : k + 3 ≤ 1538) (v1 : Int32) : wpX_leastValue (fun r => wpY_leastValue (fun r' v' => r' = r ∧ i_Rel (k + 3) u v') v v1) u v1 := by
  obtain ⟨nv, nb, dl, co, rs, sz, cf, rt, sn, hs, rfl, rfl, R⟩ := I
  unfold wpX_leastValue wpY_leastValue
  dsimp only
  rcases cb_sysc v1 with ⟨s, h2, rfl⟩ | hb
  · obtain ⟨r, hX, hY⟩ := cb_lstL (dl := dl) R h2 (2 ^ nb) 0 (by omega)
    refine cb_xy h2 ?_
    refine br_f (by decide) ?_
    refine ⟨_, hX _ ?_⟩
    refine cb_yy h2 ?_
    refine br_t rfl ?_
    refine cb_mark R h2 (fun sn' hm => ?_)
    exact ⟨_, hY sn' hm _ ⟨rfl, cb_i R⟩ 16 (by omega)⟩
  · refine cb_xn hb ?_
    refine br_t rfl ?_
    refine cb_ybad hb ?_
    exact br_f (by decide) ⟨rfl, cb_i R⟩
theorem i_vc_within {k : Nat} {u : SX} {v : SY} (I : i_Rel k u v) (hk : k + 3 ≤ 1538) (v1 : Int32) : wpX_within (fun r => wpY_within (fun r' => r' = r ∧ i_Rel (k + 3) u v) v v1) u v1 := by
  obtain ⟨nv, nb, dl, co, rs, sz, cf, rt, sn, hs, rfl, rfl, R⟩ := I
  unfold wpX_within wpY_within
  dsimp only
  rcases cb_sysc v1 with ⟨s, h2, rfl⟩ | hb
  · obtain ⟨r, hX, hY⟩ := cb_witL (dl := dl) (sn := sn) R h2 (2 ^ (nb * nv)) 0 (by omega)
    refine cb_xy h2 ?_
    refine br_f (by decide) ?_
    refine ⟨_, hX _ ?_⟩
    refine cb_yy h2 ?_
    exact br_t rfl ⟨_, hY _ ⟨rfl, cb_i R⟩⟩
  · refine cb_xn hb ?_
    refine br_t rfl ?_
    refine cb_ybad hb ?_
    exact br_f (by decide) ⟨rfl, cb_i R⟩
theorem i_vc_common {k : Nat} {u : SX} {v : SY} (I : i_Rel k u v) (hk : k + 3 ≤ 1538) : wpX_common (fun r => wpY_common (fun r' => r' = r ∧ i_Rel (k + 3) u v) v) u := by
  obtain ⟨nv, nb, dl, co, rs, sz, cf, rt, sn, hs, rfl, rfl, R⟩ := I
  obtain ⟨r, hX, hY⟩ := cb_comL (dl := dl) (sn := sn) R (2 ^ (nb * nv)) 0 0 (by omega)
  exact ⟨_, hX _ ⟨_, hY _ ⟨rfl, cb_i R⟩⟩⟩
theorem i_vc_withoutUnknown {k : Nat} {u : SX} {v : SY} (I : i_Rel k u v) (hk : k + 3 ≤ 1538) (v1 : Int32) (v2 : Int32) : wpX_withoutUnknown (fun r => wpY_withoutUnknown (fun r' => r' = r ∧ i_Rel (k + 3) u v) v v1 v2) u v1 v2 := by
  obtain ⟨nv, nb, dl, co, rs, sz, cf, rt, sn, hs, rfl, rfl, R⟩ := I
  unfold wpX_withoutUnknown wpY_withoutUnknown
  dsimp only
  rcases cb_sysc v1 with ⟨s, h2, rfl⟩ | hb
  · refine cb_xy h2 ?_
    refine br_f (by decide) ?_
    rcases cb_unkc R.1 v2 with ⟨v, hv, rfl⟩ | hu
    · have h4 := R.1.2.1
      obtain ⟨r, hX, hY⟩ := cb_witoL (dl := dl) (sn := sn) R h2 (show v ≤ 4 by omega) (2 ^ (nb * nv)) 0 0 (by omega)
      refine cb_xu R.1 hv ?_
      refine br_f (by decide) ?_
      refine ⟨_, hX _ ?_⟩
      refine cb_yy h2 ?_
      refine br_t rfl ?_
      refine cb_yu R.1 hv ?_
      exact br_t rfl ⟨_, hY _ ⟨rfl, cb_i R⟩⟩
    · refine cb_xu0 hu ?_
      refine br_t rfl ?_
      refine cb_yy h2 ?_
      refine br_t rfl ?_
      refine cb_yu1 hu ?_
      exact br_f (by decide) ⟨rfl, cb_i R⟩
  · refine cb_xn hb ?_
    refine br_t rfl ?_
    refine cb_ybad hb ?_
    exact br_f (by decide) ⟨rfl, cb_i R⟩
theorem i_vc_settledBits {k : Nat} {u : SX} {v : SY} (I : i_Rel k u v) (hk : k + 3 ≤ 1538) (v1 : Int32) (v2 : Int32) : wpX_settledBits (fun r => wpY_settledBits (fun r' => r' = r ∧ i_Rel (k + 3) u v) v v1 v2) u v1 v2 := by
  obtain ⟨nv, nb, dl, co, rs, sz, cf, rt, sn, hs, rfl, rfl, R⟩ := I
  unfold wpX_settledBits wpY_settledBits wpX_nth wpY_nth wpX_differingBits
  dsimp only
  rcases cb_sysc v1 with ⟨s, h2, rfl⟩ | hb
  · refine cb_xy h2 ?_
    refine br_f (by decide) ?_
    rcases cb_unkc R.1 v2 with ⟨v, hv, rfl⟩ | hu
    · have h4 := R.1.2.1
      have hA := cb_pA R.1
      refine cb_xu R.1 hv ?_
      refine br_f (by decide) ?_
      refine cb_xy h2 ?_
      refine br_f (by decide) ?_
      rcases cb_nth0 (dl := dl) (sn := sn) R h2 (2 ^ (nb * nv)) 0 (by omega) with ⟨a, ha, hS, hlow, hX, hY⟩ | ⟨hX, hY⟩
      · have hf := cb_dg_lt (nb := nb) (num := a) (v := v)
        obtain ⟨D, hD, hbits, hDX⟩ := cb_dif16 (dl := dl) R h2 (show v ≤ 4 by omega) hf ((2 ^ (nb * nv)) - (a + 1)) (a + 1) 0 (by omega) (by decide)
        obtain ⟨J, hJ, hJ1, hJ2, hJX⟩ := cb_set46 (dl := dl) (co := co) (rs := rs) (sz := sz) R.1 hD nb 0 (by omega) (fun t ht => absurd ht (by omega))
        refine ⟨_, hX _ ?_⟩
        refine br_t (nI_pos' (by omega)) ?_
        refine cb_xd R.1 (by omega) (by omega) ?_
        refine nm_r (nI_1 a) ⟨_, hDX _ ?_⟩
        refine ⟨_, hJX _ ?_⟩
        refine cb_yy h2 ?_
        refine br_t rfl ?_
        refine cb_yu R.1 hv ?_
        refine br_t rfl ?_
        refine cb_yy h2 ?_
        refine br_t rfl ?_
        refine ⟨_, hY _ ?_⟩
        refine br_t (nI_pos' (by omega)) ?_
        refine cb_yd R.1 (by omega) (by omega) ?_
        refine ⟨_, cb_set49 (J := J) R h2 (by omega) hf ⟨rfl, cb_i R⟩ (fun b hb hSb => ?_) (fun j hj hjn => ?_) nb hJ (by omega)⟩
        · apply Nat.eq_of_testBit_eq
          intro t
          rw [Nat.testBit_mod_two_pow, Nat.testBit_mod_two_pow]
          by_cases ht : t < J
          · refine congrArg _ (Decidable.byContradiction fun hne => ?_)
            by_cases e : b = a
            · subst e
              exact hne rfl
            · by_cases hlt : b < a
              · rw [hlow b (by omega) hlt] at hSb
                exact absurd hSb (by decide)
              · have := (hbits t).mpr (Or.inr ⟨b, by omega, hb, hSb, hne⟩)
                rw [hJ1 t ht] at this
                exact absurd this (by decide)
          · rw [decide_eq_false ht, Bool.false_and, Bool.false_and]
        · rcases (hbits J).mp (hJ2 (by omega)) with z | ⟨b, h1, h3, h5, h6⟩
          · rw [Nat.zero_testBit] at z
            exact absurd z (by decide)
          · refine ⟨b, h3, h5, fun e => h6 ?_⟩
            have e2 := congrArg (fun x => x.testBit J) e
            rw [Nat.testBit_mod_two_pow, Nat.testBit_mod_two_pow, decide_eq_true hj, Bool.true_and, Bool.true_and] at e2
            exact e2
      · refine ⟨_, hX _ ?_⟩
        refine br_f (by decide) ?_
        refine cb_yy h2 ?_
        refine br_t rfl ?_
        refine cb_yu R.1 hv ?_
        refine br_t rfl ?_
        refine cb_yy h2 ?_
        refine br_t rfl ?_
        refine ⟨_, hY _ ?_⟩
        exact br_f (by decide) ⟨rfl, cb_i R⟩
    · refine cb_xu0 hu ?_
      refine br_t rfl ?_
      refine cb_yy h2 ?_
      refine br_t rfl ?_
      refine cb_yu1 hu ?_
      exact br_f (by decide) ⟨rfl, cb_i R⟩
  · refine cb_xn hb ?_
    refine br_t rfl ?_
    refine cb_ybad hb ?_
    exact br_f (by decide) ⟨rfl, cb_i R⟩
theorem i_vc_redundant {k : Nat} {u : SX} {v : SY} (I : i_Rel k u v) (hk : k + 3 ≤ 1538) (v1 : Int32) (v2 : Int32) : wpX_redundant (fun r => wpY_redundant (fun r' => r' = r ∧ i_Rel (k + 3) u v) v v1 v2) u v1 v2 := by
  obtain ⟨nv, nb, dl, co, rs, sz, cf, rt, sn, hs, rfl, rfl, R⟩ := I
  unfold wpX_redundant wpY_redundant wpX_isPosition
  dsimp only
  rcases cb_sysc v1 with ⟨s, h2, rfl⟩ | hb
  · have c := cb_szc R.2.1 h2
    obtain ⟨hz, h10⟩ := R.2.1 s h2
    rw [c]
    refine cb_xy h2 ?_
    refine br_f (by decide) ?_
    by_cases h0 : v2 < 0
    · refine br_t h0 ?_
      refine br_t rfl ?_
      refine cb_yy h2 ?_
      refine br_t rfl ?_
      exact br_t h0 ⟨rfl, cb_i R⟩
    · refine br_f h0 ⟨pk_in s 2 h2, ?_⟩
      obtain ⟨j, hj, rfl⟩ := nI_of h0
      by_cases hh : j < hs s
      · obtain ⟨r, hX, hY⟩ := cb_redL (dl := dl) (sn := sn) R h2 (nI j) (2 ^ (nb * nv)) 0 (by omega)
        refine br_f (nI_ge hh (by omega)) ?_
        refine br_f (by decide) ?_
        refine ⟨_, hX _ ?_⟩
        refine cb_yy h2 ?_
        refine br_t rfl ?_
        refine br_f h0 ⟨pk_in s 2 h2, ?_⟩
        exact br_t (nI_lt hh (by omega)) ⟨_, hY _ ⟨rfl, cb_i R⟩⟩
      · refine br_t (nI_le (by omega) hj) ?_
        refine br_t rfl ?_
        refine cb_yy h2 ?_
        refine br_t rfl ?_
        refine br_f h0 ⟨pk_in s 2 h2, ?_⟩
        exact br_f (nI_nlt (by omega) hj) ⟨rfl, cb_i R⟩
  · refine cb_xn hb ?_
    refine br_t rfl ?_
    refine cb_ybad hb ?_
    exact br_f (by decide) ⟨rfl, cb_i R⟩
