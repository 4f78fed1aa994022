section
variable {nv nb : Nat} {dl co rs sz cf rt sn : Nat → Int32} {hs : Nat → Nat}
theorem cb_or (a b : Nat) : nI a ||| nI b = nI (a ||| b) := by
  apply Int32.toBitVec_inj.1
  show BitVec.ofNat 32 a ||| BitVec.ofNat 32 b = BitVec.ofNat 32 (a ||| b)
  apply BitVec.eq_of_getLsbD_eq
  intro i hi
  simp [hi]
/-- the first solution, on both sides -/
theorem cb_nth0 (R : cb_R nv nb co rs sz cf rt hs) {s : Nat} (h2 : s < 2) : ∀ d i, i + d = 2 ^ (nb * nv) →
    (∃ a, a < 2 ^ (nb * nv) ∧ cb_S co rs hs nv nb s a (-1) = true ∧ (∀ b, i ≤ b → b < a → cb_S co rs hs nv nb s b (-1) = false) ∧
      (∀ post : Int32 → Prop, post (nI a) → wX_nth_14 post (nI s) 0 (nI nv) (nI nb) (nI (2 ^ nb - 1)) (nI (2 ^ (nb * nv))) dl co rs sz (d + 1) 0 (nI i)) ∧
      (∀ post : Int32 → Prop, post (nI a) → wY_nth_15 post (nI s) 0 (nI nv) (nI nb) (nI (2 ^ nb)) (nI (2 ^ (nb * nv))) dl sz cf rt sn (d + 1) 0 (nI i))) ∨
    ((∀ post : Int32 → Prop, post (-2) → wX_nth_14 post (nI s) 0 (nI nv) (nI nb) (nI (2 ^ nb - 1)) (nI (2 ^ (nb * nv))) dl co rs sz (d + 1) 0 (nI i)) ∧
      (∀ post : Int32 → Prop, post (-2) → wY_nth_15 post (nI s) 0 (nI nv) (nI nb) (nI (2 ^ nb)) (nI (2 ^ (nb * nv))) dl sz cf rt sn (d + 1) 0 (nI i))) := by
  have hA := cb_pA R.1
  intro d
  induction d with
  | zero =>
    intro i hi
    have h : nI (2 ^ (nb * nv)) ≤ nI i := nI_le (by omega) (by omega)
    exact Or.inr ⟨fun _ hp => br_t h hp, fun _ hp => br_t h hp⟩
  | succ d ih =>
    intro i hi
    have h : ¬ nI (2 ^ (nb * nv)) ≤ nI i := nI_ge (by omega) (by omega)
    cases hS : cb_S co rs hs nv nb s i (-1) with
    | true =>
      exact Or.inl ⟨i, by omega, hS, fun b h1 h3 => absurd h1 (by omega), fun post hp => br_f h (cb_xs1 R h2 (by omega) hS (br_f (by decide) (br_t rfl hp))),
          fun post hp => br_f h (cb_yn1 R h2 (by omega) hS (br_f (by decide) (br_t rfl hp)))⟩
    | false =>
      rcases ih (i + 1) (by omega) with ⟨a, h1, h3, h4, hX, hY⟩ | ⟨hX, hY⟩
      · refine Or.inl ⟨a, h1, h3, fun b hb hb2 => ?_, fun post hp => br_f h (cb_xs0 R h2 (by omega) hS (br_t rfl (nm_r (nI_1 i) (hX post hp)))),
          fun post hp => br_f h (cb_yn0 R h2 (by omega) hS (br_t rfl (nm_r (nI_1 i) (hY post hp))))⟩
        by_cases e : b = i
        · rw [e]
          exact hS
        · exact h4 b (by omega) hb2
      · exact Or.inr ⟨fun post hp => br_f h (cb_xs0 R h2 (by omega) hS (br_t rfl (nm_r (nI_1 i) (hX post hp)))),
          fun post hp => br_f h (cb_yn0 R h2 (by omega) hS (br_t rfl (nm_r (nI_1 i) (hY post hp))))⟩
theorem cb_dif16 (R : cb_R nv nb co rs sz cf rt hs) {s v fv : Nat} (h2 : s < 2) (hv : v ≤ 4) (hf : fv < 2 ^ nb) : ∀ d i D, i + d = 2 ^ (nb * nv) → D < 2 ^ 4 → ∃ E, E < 2 ^ 4 ∧
    (∀ j, E.testBit j = true ↔ (D.testBit j = true ∨ ∃ b, i ≤ b ∧ b < 2 ^ (nb * nv) ∧ cb_S co rs hs nv nb s b (-1) = true ∧ ¬ (cb_dg nb b v).testBit j = fv.testBit j)) ∧
    ∀ post : Int32 → Prop, post (nI E) → wX_differingBits_16 post (nI s) (nI v) (nI fv) (nI nv) (nI nb) (nI (2 ^ nb - 1)) (nI (2 ^ (nb * nv))) dl co rs sz (d + 1) (nI D) (nI i) := by
  have hA := cb_pA R.1
  have hM := cb_pM R.1
  intro d
  induction d with
  | zero =>
    intro i D hi hD
    exact ⟨D, hD, fun j => ⟨fun z => Or.inl z, fun z => z.elim id (fun ⟨b, h1, h3, _⟩ => absurd h1 (by omega))⟩, fun post hp => br_t (nI_le (by omega) (by omega)) hp⟩
  | succ d ih =>
    intro i D hi hD
    have h : ¬ nI (2 ^ (nb * nv)) ≤ nI i := nI_ge (by omega) (by omega)
    cases hS : cb_S co rs hs nv nb s i (-1) with
    | true =>
      have hx : cb_dg nb i v ^^^ fv < 2 ^ 4 := Nat.xor_lt_two_pow (by have := cb_dg_lt (nb := nb) (num := i) (v := v); omega) (by omega)
      obtain ⟨E, h1, h3, hX⟩ := ih (i + 1) (D ||| (cb_dg nb i v ^^^ fv)) (by omega) (Nat.or_lt_two_pow hD hx)
      refine ⟨E, h1, fun j => ?_, fun post hp => br_f h (cb_xs1 R h2 (by omega) hS (br_f (by decide) (cb_xd R.1 hv (by omega) (nm_r (by rw [nx_xor, cb_or]) (nm_r (nI_1 i) (hX post hp))))))⟩
      rw [h3 j, Nat.testBit_or, Nat.testBit_xor, Bool.or_eq_true, or_assoc]
      refine or_congr Iff.rfl ⟨fun z => ?_, fun ⟨b, h4, h5, h6, h7⟩ => ?_⟩
      · rcases z with z | ⟨b, h4, h5⟩
        · refine ⟨i, by omega, by omega, hS, fun e => ?_⟩
          rw [e, Bool.xor_self] at z
          exact absurd z (by decide)
        · exact ⟨b, by omega, h5⟩
      · by_cases e : b = i
        · subst e
          refine Or.inl ?_
          revert h7
          cases (cb_dg nb b v).testBit j <;> cases fv.testBit j <;> decide
        · exact Or.inr ⟨b, by omega, h5, h6, h7⟩
    | false =>
      obtain ⟨E, h1, h3, hX⟩ := ih (i + 1) D (by omega) hD
      refine ⟨E, h1, fun j => ?_, fun post hp => br_f h (cb_xs0 R h2 (by omega) hS (br_t rfl (nm_r (nI_1 i) (hX post hp))))⟩
      rw [h3 j]
      refine or_congr Iff.rfl ⟨fun ⟨b, h4, h5⟩ => ⟨b, by omega, h5⟩, fun ⟨b, h4, h5, h6, h7⟩ => ?_⟩
      by_cases e : b = i
      · subst e
        rw [hS] at h6
        exact absurd h6 (by decide)
      · exact ⟨b, by omega, h5, h6, h7⟩
theorem cb_bit {D j : Nat} (hD : D < 2 ^ 4) (hj : j < 32) : ((nI D >>> (nI j &&& 31)) &&& 1) = 0 ↔ D.testBit j = false := by
  have h : D / 2 ^ j ≤ D := Nat.div_le_self _ _
  rw [pk_shrN (by omega) _ j (s_l j hj)]
  show nI (D / 2 ^ j) &&& nI 1 = nI 0 ↔ _
  rw [nx_and, Nat.and_one_is_mod, nI_eq (by omega) (by omega), Nat.testBit_eq_decide_div_mod_eq, decide_eq_false_iff_not]
  generalize D / 2 ^ j = z
  omega
theorem cb_set46 (ok : cb_ok nv nb) {D : Nat} (hD : D < 2 ^ 4) : ∀ d j, j + d = nb → (∀ t, t < j → D.testBit t = false) → ∃ J, J ≤ nb ∧ (∀ t, t < J → D.testBit t = false) ∧
    (J < nb → D.testBit J = true) ∧ ∀ post : Int32 → Prop, post (nI J) → wX_settledBits_46 post (nI D) (nI nv) (nI nb) (nI (2 ^ nb - 1)) (nI (2 ^ (nb * nv))) dl co rs sz (d + 1) (nI j) := by
  have hb := ok.2.2.2.1
  intro d
  induction d with
  | zero =>
    intro j hj ht
    have e : j = nb := by omega
    subst e
    exact ⟨j, by omega, ht, fun z => absurd z (by omega), fun post hp => br_t (nI_le (by omega) (by omega)) hp⟩
  | succ d ih =>
    intro j hj ht
    have h : ¬ nI nb ≤ nI j := nI_ge (by omega) (by omega)
    cases hB : D.testBit j with
    | false =>
      obtain ⟨J, h1, h3, h4, hX⟩ := ih (j + 1) (by omega) (fun t h => by
        by_cases e : t = j
        · rw [e]; exact hB
        · exact ht t (by omega))
      exact ⟨J, h1, h3, h4, fun post hp => br_f h (br_t ((cb_bit hD (by omega)).mpr hB) (nm_r (nI_1 j) (hX post hp)))⟩
    | true =>
      exact ⟨j, by omega, ht, fun _ => hB, fun post hp => br_f h (br_f (fun z => by
        have := (cb_bit hD (by omega)).mp z
        rw [hB] at this
        exact absurd this (by decide)) hp)⟩
theorem cb_low {j : Nat} (hj : j ≤ 4) : ((1 : Int32) <<< (nI j &&& 31)) - 1 = nI (2 ^ j - 1) := by
  have : 2 ^ j ≤ 16 := Nat.pow_le_pow_right (n := 2) (by decide) hj
  show (nI 1 <<< (nI j &&& 31)) - nI 1 = _
  rw [pk_shlN _ j (s_l j (by omega)) (by omega), Nat.one_mul, pk_sub (Nat.two_pow_pos j)]
theorem cb_andj {x j : Nat} (hj : j ≤ 4) (hx : x < 16) : nI x &&& nI (2 ^ j - 1) = nI (x % 2 ^ j) := by
  rw [nx_and, Nat.and_two_pow_sub_one_eq_mod]
theorem cb_alkT (R : cb_R nv nb co rs sz cf rt hs) {s v fv j : Nat} (h2 : s < 2) (hv : v ≤ 4) (hf : fv < 2 ^ nb) (hj : j ≤ 4) {post : Int32 → Prop} (hp : post 1)
    (H : ∀ b, b < 2 ^ (nb * nv) → cb_S co rs hs nv nb s b (-1) = true → cb_dg nb b v % 2 ^ j = fv % 2 ^ j) : ∀ d i, i + d = 2 ^ (nb * nv) →
    wY_alike_10 post (nI s) (nI v) (nI fv) (nI (2 ^ j - 1)) (nI nv) (nI nb) (nI (2 ^ nb)) (nI (2 ^ (nb * nv))) dl sz cf rt sn (d + 1) (nI i) := by
  have hA := cb_pA R.1
  have hM := cb_pM R.1
  intro d
  induction d with
  | zero =>
    intro i hi
    exact br_t (nI_le (by omega) (by omega)) hp
  | succ d ih =>
    intro i hi
    refine br_f (nI_ge (by omega) (by omega)) ?_
    cases hS : cb_S co rs hs nv nb s i (-1) with
    | true =>
      refine cb_yn1 R h2 (by omega) hS (br_f (by decide) (cb_yd R.1 hv (by omega) (br_t ?_ (nm_r (nI_1 i) (ih (i + 1) (by omega))))))
      rw [cb_andj hj (by have := cb_dg_lt (nb := nb) (num := i) (v := v); omega), cb_andj hj (by omega), H i (by omega) hS]
    | false => exact cb_yn0 R h2 (by omega) hS (br_t rfl (nm_r (nI_1 i) (ih (i + 1) (by omega))))
theorem cb_alkF (R : cb_R nv nb co rs sz cf rt hs) {s v fv j : Nat} (h2 : s < 2) (hv : v ≤ 4) (hf : fv < 2 ^ nb) (hj : j ≤ 4) {post : Int32 → Prop} (hp : post 0) : ∀ d i, i + d = 2 ^ (nb * nv) →
    (∃ b, i ≤ b ∧ b < 2 ^ (nb * nv) ∧ cb_S co rs hs nv nb s b (-1) = true ∧ ¬ cb_dg nb b v % 2 ^ j = fv % 2 ^ j) →
    wY_alike_10 post (nI s) (nI v) (nI fv) (nI (2 ^ j - 1)) (nI nv) (nI nb) (nI (2 ^ nb)) (nI (2 ^ (nb * nv))) dl sz cf rt sn (d + 1) (nI i) := by
  have hA := cb_pA R.1
  have hM := cb_pM R.1
  intro d
  induction d with
  | zero =>
    intro i hi ⟨b, h1, h3, _⟩
    exact absurd h1 (by omega)
  | succ d ih =>
    intro i hi ⟨b, h1, h3, h4, h5⟩
    refine br_f (nI_ge (by omega) (by omega)) ?_
    cases hS : cb_S co rs hs nv nb s i (-1) with
    | true =>
      refine cb_yn1 R h2 (by omega) hS (br_f (by decide) (cb_yd R.1 hv (by omega) ?_))
      have := cb_dg_lt (nb := nb) (num := i) (v := v)
      have m1 : cb_dg nb i v % 2 ^ j ≤ cb_dg nb i v := Nat.mod_le _ _
      have m2 : fv % 2 ^ j ≤ fv := Nat.mod_le _ _
      rw [cb_andj hj (by omega), cb_andj hj (by omega)]
      by_cases e : cb_dg nb i v % 2 ^ j = fv % 2 ^ j
      · refine br_t (by rw [e]) (nm_r (nI_1 i) (ih (i + 1) (by omega) ⟨b, ?_, h3, h4, h5⟩))
        by_cases eb : b = i
        · subst eb
          exact absurd e h5
        · omega
      · exact br_f (fun z => e ((nI_eq (by omega) (by omega)).mp z)) hp
    | false =>
      refine cb_yn0 R h2 (by omega) hS (br_t rfl (nm_r (nI_1 i) (ih (i + 1) (by omega) ⟨b, ?_, h3, h4, h5⟩)))
      by_cases eb : b = i
      · subst eb
        rw [hS] at h4
        exact absurd h4 (by decide)
      · omega
theorem cb_set49 (R : cb_R nv nb co rs sz cf rt hs) {s v fv J : Nat} (h2 : s < 2) (hv : v ≤ 4) (hf : fv < 2 ^ nb) {post : Int32 → Prop} (hp : post (nI J))
    (HT : ∀ b, b < 2 ^ (nb * nv) → cb_S co rs hs nv nb s b (-1) = true → cb_dg nb b v % 2 ^ J = fv % 2 ^ J)
    (HF : ∀ j, J < j → j ≤ nb → ∃ b, b < 2 ^ (nb * nv) ∧ cb_S co rs hs nv nb s b (-1) = true ∧ ¬ cb_dg nb b v % 2 ^ j = fv % 2 ^ j) : ∀ j, J ≤ j → j ≤ nb →
    wY_settledBits_49 post (nI s) (nI v) (nI fv) (nI nv) (nI nb) (nI (2 ^ nb)) (nI (2 ^ (nb * nv))) dl sz cf rt sn (j + 1) (nI j) := by
  have hb := R.1.2.2.2.1
  intro j
  induction j with
  | zero =>
    intro h1 _
    have e : J = 0 := by omega
    subst e
    exact br_t (by decide) hp
  | succ j ih =>
    intro h1 h3
    refine br_f (nI_nle (by omega) (by omega)) ?_
    show ∀ x, x = ((1 : Int32) <<< (nI (j + 1) &&& 31)) - 1 → _
    rw [cb_low (by omega)]
    by_cases e : J = j + 1
    · subst e
      exact nm_e ⟨_, cb_alkT R h2 hv hf (by omega) (br_f (by decide) hp) HT (2 ^ (nb * nv)) 0 (by omega)⟩
    · obtain ⟨b, hb1, hb2⟩ := HF (j + 1) (by omega) h3
      exact nm_e ⟨_, cb_alkF R h2 hv hf (by omega) (br_t rfl (nm_r (pk_m1 j) (ih (by omega) (by omega)))) (2 ^ (nb * nv)) 0 (by omega) ⟨b, by omega, hb1, hb2⟩⟩
end
