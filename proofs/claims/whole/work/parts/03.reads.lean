section
variable {nv nb : Nat} {dl co rs sz cf rt sn : Nat → Int32} {hs : Nat → Nat}
/-! which system, which unknown -/
theorem cb_sysc (x : Int32) : (∃ s, s < 2 ∧ x = nI s) ∨ (x < 0 ∨ nI 2 ≤ x) := by
  rcases pk_ix x (n := 2) (by decide) with h | h | h
  · exact Or.inr (Or.inl h)
  · exact Or.inr (Or.inr h)
  · exact Or.inl h
theorem cb_xy {post : Int32 → Prop} {s : Nat} (h2 : s < 2) (hp : post 1) : wpX_isSystem post (nI s) := by
  rcases (by omega : s = 0 ∨ s = 1) with rfl | rfl
  · exact br_t rfl hp
  · exact br_f (by decide) (br_t rfl hp)
theorem cb_xn {post : Int32 → Prop} {x : Int32} (hb : x < 0 ∨ nI 2 ≤ x) (hp : post 0) : wpX_isSystem post x := by
  refine br_f (fun e => ?_) (br_f (fun e => ?_) hp)
  · subst e
    exact absurd hb (by decide)
  · subst e
    exact absurd hb (by decide)
theorem cb_yy {post : Int32 → Prop} {s : Nat} (h2 : s < 2) (hp : post 0) : wpY_badSystem post (cb_Y nv nb dl sz cf rt sn) (nI s) :=
  br_f (nI_pos (by omega)) (br_t (nI_le (b := 1) (by omega) (by decide)) hp)
theorem cb_ybad {post : Int32 → Prop} {x : Int32} (hb : x < 0 ∨ nI 2 ≤ x) (hp : post 1) : wpY_badSystem post (cb_Y nv nb dl sz cf rt sn) x := by
  by_cases h0 : x < 0
  · exact br_t h0 hp
  · refine br_f h0 (br_f (fun h1 => ?_) hp)
    rcases hb with hb | hb
    · exact h0 hb
    · exact absurd (Int32.le_trans hb h1) (by decide)
theorem cb_unkc (ok : cb_ok nv nb) (x : Int32) : (∃ v, v < nv ∧ x = nI v) ∨ (x < 0 ∨ (¬ x < 0 ∧ nI nv ≤ x)) := by
  by_cases h0 : x < 0
  · exact Or.inr (Or.inl h0)
  · rcases pk_ix x (n := nv) (by have := ok.2.1; omega) with h | h | h
    · exact Or.inr (Or.inl h)
    · exact Or.inr (Or.inr ⟨h0, h⟩)
    · exact Or.inl h
theorem cb_xu (ok : cb_ok nv nb) {post : Int32 → Prop} {v : Nat} (h : v < nv) (hp : post 1) : wpX_isUnknown post (cb_X nv nb dl co rs sz) (nI v) := by
  have := ok.2.1
  exact br_f (nI_pos (by omega)) (br_f (nI_ge h (by omega)) hp)
theorem cb_xu0 {post : Int32 → Prop} {x : Int32} (hb : x < 0 ∨ (¬ x < 0 ∧ nI nv ≤ x)) (hp : post 0) : wpX_isUnknown post (cb_X nv nb dl co rs sz) x := by
  rcases hb with h | ⟨h, h'⟩
  · exact br_t h hp
  · exact br_f h (br_t h' hp)
theorem cb_yu (ok : cb_ok nv nb) {post : Int32 → Prop} {v : Nat} (h : v < nv) (hp : post 0) : wpY_badUnknown post (cb_Y nv nb dl sz cf rt sn) (nI v) := by
  have := ok.2.1
  exact br_f (nI_pos (by omega)) (br_f (nI_ge h (by omega)) (br_t (nI_lt (b := 4) (by omega) (by decide)) hp))
theorem cb_yu1 {post : Int32 → Prop} {x : Int32} (hb : x < 0 ∨ (¬ x < 0 ∧ nI nv ≤ x)) (hp : post 1) : wpY_badUnknown post (cb_Y nv nb dl sz cf rt sn) x := by
  rcases hb with h | ⟨h, h'⟩
  · exact br_t h hp
  · exact br_f h (br_t h' hp)
theorem cb_yr {post : Int32 → Prop} {c : Int32} (hp : post (c &&& nI (2 ^ nb - 1))) : wpY_reduced post (cb_Y nv nb dl sz cf rt sn) c := by
  show post _
  rw [cb_mk]
  exact hp
theorem cb_1s {s : Nat} (h2 : s < 2) : (1 : Int32) - nI s = nI (1 - s) := pk_sub (a := 1) (by omega)
/-! counting and searching in lockstep -/
theorem cb_solL (R : cb_R nv nb co rs sz cf rt hs) {s : Nat} (h2 : s < 2) : ∀ d i (c : Int32), i + d = 2 ^ (nb * nv) → ∃ r : Int32,
    (∀ post : Int32 → Prop, post r → wX_below_14 post (nI s) (nI (2 ^ (nb * nv))) (nI nv) (nI nb) (nI (2 ^ nb - 1)) (nI (2 ^ (nb * nv))) dl co rs sz (d + 1) c (nI i)) ∧
    (∀ post : Int32 → Prop, post r → wY_solutions_14 post (nI s) (nI nv) (nI nb) (nI (2 ^ nb)) (nI (2 ^ (nb * nv))) dl sz cf rt sn (d + 1) c (nI i)) := by
  have hA := cb_pA R.1
  intro d
  induction d with
  | zero =>
    intro i c hi
    have h : nI (2 ^ (nb * nv)) ≤ nI i := nI_le (by omega) (by omega)
    exact ⟨c, fun _ hp => br_t h hp, fun _ hp => br_t h hp⟩
  | succ d ih =>
    intro i c hi
    have h : ¬ nI (2 ^ (nb * nv)) ≤ nI i := nI_ge (by omega) (by omega)
    cases hS : cb_S co rs hs nv nb s i (-1) with
    | true =>
      obtain ⟨r, hX, hY⟩ := ih (i + 1) (c + 1) (by omega)
      exact ⟨r, fun post hp => br_f h (br_f h (cb_xs1 R h2 (by omega) hS (br_f (by decide) (nm_e (nm_r (nI_1 i) (hX post hp)))))),
        fun post hp => br_f h (cb_yn1 R h2 (by omega) hS (br_f (by decide) (nm_e (nm_r (nI_1 i) (hY post hp)))))⟩
    | false =>
      obtain ⟨r, hX, hY⟩ := ih (i + 1) c (by omega)
      exact ⟨r, fun post hp => br_f h (br_f h (cb_xs0 R h2 (by omega) hS (br_t rfl (nm_r (nI_1 i) (hX post hp))))),
        fun post hp => br_f h (cb_yn0 R h2 (by omega) hS (br_t rfl (nm_r (nI_1 i) (hY post hp))))⟩
theorem cb_nthL (R : cb_R nv nb co rs sz cf rt hs) {s : Nat} (h2 : s < 2) (q : Int32) : ∀ d i (c : Int32), i + d = 2 ^ (nb * nv) → ∃ r : Int32,
    (∀ post : Int32 → Prop, post r → wX_nth_14 post (nI s) q (nI nv) (nI nb) (nI (2 ^ nb - 1)) (nI (2 ^ (nb * nv))) dl co rs sz (d + 1) c (nI i)) ∧
    (∀ post : Int32 → Prop, post r → wY_nth_15 post (nI s) q (nI nv) (nI nb) (nI (2 ^ nb)) (nI (2 ^ (nb * nv))) dl sz cf rt sn (d + 1) c (nI i)) := by
  have hA := cb_pA R.1
  intro d
  induction d with
  | zero =>
    intro i c hi
    have h : nI (2 ^ (nb * nv)) ≤ nI i := nI_le (by omega) (by omega)
    exact ⟨-2, fun _ hp => br_t h hp, fun _ hp => br_t h hp⟩
  | succ d ih =>
    intro i c hi
    have h : ¬ nI (2 ^ (nb * nv)) ≤ nI i := nI_ge (by omega) (by omega)
    cases hS : cb_S co rs hs nv nb s i (-1) with
    | true =>
      by_cases e : c = q
      · exact ⟨nI i, fun post hp => br_f h (cb_xs1 R h2 (by omega) hS (br_f (by decide) (br_t e hp))),
          fun post hp => br_f h (cb_yn1 R h2 (by omega) hS (br_f (by decide) (br_t e hp)))⟩
      · obtain ⟨r, hX, hY⟩ := ih (i + 1) (c + 1) (by omega)
        exact ⟨r, fun post hp => br_f h (cb_xs1 R h2 (by omega) hS (br_f (by decide) (br_f e (nm_e (nm_r (nI_1 i) (hX post hp)))))),
          fun post hp => br_f h (cb_yn1 R h2 (by omega) hS (br_f (by decide) (br_f e (nm_e (nm_r (nI_1 i) (hY post hp))))))⟩
    | false =>
      obtain ⟨r, hX, hY⟩ := ih (i + 1) c (by omega)
      exact ⟨r, fun post hp => br_f h (cb_xs0 R h2 (by omega) hS (br_t rfl (nm_r (nI_1 i) (hX post hp)))),
        fun post hp => br_f h (cb_yn0 R h2 (by omega) hS (br_t rfl (nm_r (nI_1 i) (hY post hp))))⟩
theorem cb_belT (R : cb_R nv nb co rs sz cf rt hs) {s : Nat} {q c : Int32} {post : Int32 → Prop} (hp : post c) : ∀ d i, i + d = 2 ^ (nb * nv) → q ≤ nI i →
    wY_below_15 post (nI s) q (nI nv) (nI nb) (nI (2 ^ nb)) (nI (2 ^ (nb * nv))) dl sz cf rt sn (d + 1) c (nI i) := by
  have hA := cb_pA R.1
  intro d
  induction d with
  | zero =>
    intro i hi hq
    exact br_t (nI_le (by omega) (by omega)) hp
  | succ d ih =>
    intro i hi hq
    exact br_f (nI_ge (by omega) (by omega)) (br_t hq (nm_r (nI_1 i) (ih (i + 1) (by omega) (Int32.le_trans hq (nI_le (by omega) (by omega))))))
theorem cb_belL (R : cb_R nv nb co rs sz cf rt hs) {s : Nat} (h2 : s < 2) (q : Int32) : ∀ d i (c : Int32), i + d = 2 ^ (nb * nv) → ∃ r : Int32,
    (∀ post : Int32 → Prop, post r → wX_below_14 post (nI s) q (nI nv) (nI nb) (nI (2 ^ nb - 1)) (nI (2 ^ (nb * nv))) dl co rs sz (d + 1) c (nI i)) ∧
    (∀ post : Int32 → Prop, post r → wY_below_15 post (nI s) q (nI nv) (nI nb) (nI (2 ^ nb)) (nI (2 ^ (nb * nv))) dl sz cf rt sn (d + 1) c (nI i)) := by
  have hA := cb_pA R.1
  intro d
  induction d with
  | zero =>
    intro i c hi
    have h : nI (2 ^ (nb * nv)) ≤ nI i := nI_le (by omega) (by omega)
    exact ⟨c, fun _ hp => br_t h hp, fun _ hp => br_t h hp⟩
  | succ d ih =>
    intro i c hi
    have h : ¬ nI (2 ^ (nb * nv)) ≤ nI i := nI_ge (by omega) (by omega)
    by_cases hq : q ≤ nI i
    · exact ⟨c, fun post hp => br_f h (br_t hq hp), fun post hp => cb_belT R hp (d + 1) i hi hq⟩
    · cases hS : cb_S co rs hs nv nb s i (-1) with
      | true =>
        obtain ⟨r, hX, hY⟩ := ih (i + 1) (c + 1) (by omega)
        exact ⟨r, fun post hp => br_f h (br_f hq (cb_xs1 R h2 (by omega) hS (br_f (by decide) (nm_e (nm_r (nI_1 i) (hX post hp)))))),
          fun post hp => br_f h (br_f hq (cb_yn1 R h2 (by omega) hS (br_f (by decide) (nm_e (nm_r (nI_1 i) (hY post hp))))))⟩
      | false =>
        obtain ⟨r, hX, hY⟩ := ih (i + 1) c (by omega)
        exact ⟨r, fun post hp => br_f h (br_f hq (cb_xs0 R h2 (by omega) hS (br_t rfl (nm_r (nI_1 i) (hX post hp))))),
          fun post hp => br_f h (br_f hq (cb_yn0 R h2 (by omega) hS (br_t rfl (nm_r (nI_1 i) (hY post hp)))))⟩
theorem cb_entL (R : cb_R nv nb co rs sz cf rt hs) {s : Nat} (h2 : s < 2) (q : Int32) : ∀ d i, i + d = 2 ^ (nb * nv) → ∃ r : Int32,
    (∀ post : Int32 → Prop, post r → wX_entails_18 post (nI s) (q &&& nI (2 ^ nb - 1)) (nI nv) (nI nb) (nI (2 ^ nb - 1)) (nI (2 ^ (nb * nv))) dl co rs sz (d + 1) (nI i)) ∧
    (∀ post : Int32 → Prop, post r → wY_entails_12 post (nI s) q (nI nv) (nI nb) (nI (2 ^ nb)) (nI (2 ^ (nb * nv))) dl sz cf rt sn (d + 1) (nI i)) := by
  have ok := R.1
  have hA := cb_pA R.1
  intro d
  induction d with
  | zero =>
    intro i hi
    have h : nI (2 ^ (nb * nv)) ≤ nI i := nI_le (by omega) (by omega)
    exact ⟨1, fun _ hp => br_t h hp, fun _ hp => br_t h hp⟩
  | succ d ih =>
    intro i hi
    have h : ¬ nI (2 ^ (nb * nv)) ≤ nI i := nI_ge (by omega) (by omega)
    obtain ⟨r, hX, hY⟩ := ih (i + 1) (by omega)
    cases hS : cb_S co rs hs nv nb s i (-1) with
    | true =>
      by_cases e : cb_lv dl nv nb i 0 = q &&& nI (2 ^ nb - 1)
      · exact ⟨r, fun post hp => br_f h (cb_xs1 R h2 (by omega) hS (br_f (by decide) (cb_xv ok (by omega) (br_t e (nm_r (nI_1 i) (hX post hp)))))),
          fun post hp => br_f h (cb_yn1 R h2 (by omega) hS (br_f (by decide) (cb_yv ok (by omega) (cb_yr (br_t e (nm_r (nI_1 i) (hY post hp)))))))⟩
      · exact ⟨0, fun post hp => br_f h (cb_xs1 R h2 (by omega) hS (br_f (by decide) (cb_xv ok (by omega) (br_f e hp)))),
          fun post hp => br_f h (cb_yn1 R h2 (by omega) hS (br_f (by decide) (cb_yv ok (by omega) (cb_yr (br_f e hp)))))⟩
    | false =>
      exact ⟨r, fun post hp => br_f h (cb_xs0 R h2 (by omega) hS (br_t rfl (nm_r (nI_1 i) (hX post hp)))),
        fun post hp => br_f h (cb_yn0 R h2 (by omega) hS (br_t rfl (nm_r (nI_1 i) (hY post hp))))⟩
/-- countAt: the counts, and that one more is counted just where a solution takes the value -/
theorem cb_catL (R : cb_R nv nb co rs sz cf rt hs) {s : Nat} (h2 : s < 2) (q : Int32) : ∀ d i n, i + d = 2 ^ (nb * nv) → ∃ r : Nat,
    r ≤ n + d ∧ n ≤ r ∧ (n < r ↔ ∃ a, i ≤ a ∧ a < 2 ^ (nb * nv) ∧ cb_S co rs hs nv nb s a (-1) = true ∧ cb_lv dl nv nb a 0 = q &&& nI (2 ^ nb - 1)) ∧
    (∀ post : Int32 → Prop, post (nI r) → wX_countAt_21 post (nI s) (q &&& nI (2 ^ nb - 1)) (nI nv) (nI nb) (nI (2 ^ nb - 1)) (nI (2 ^ (nb * nv))) dl co rs sz (d + 1) (nI n) (nI i)) ∧
    (∀ post : Int32 → Prop, post (nI r) → wY_countAt_15 post (nI s) q (nI nv) (nI nb) (nI (2 ^ nb)) (nI (2 ^ (nb * nv))) dl sz cf rt sn (d + 1) (nI n) (nI i)) := by
  have ok := R.1
  have hA := cb_pA R.1
  intro d
  induction d with
  | zero =>
    intro i n hi
    have h : nI (2 ^ (nb * nv)) ≤ nI i := nI_le (by omega) (by omega)
    exact ⟨n, by omega, by omega, ⟨fun z => absurd z (by omega), fun ⟨a, h1, h3, _⟩ => absurd h1 (by omega)⟩, fun _ hp => br_t h hp, fun _ hp => br_t h hp⟩
  | succ d ih =>
    intro i n hi
    have h : ¬ nI (2 ^ (nb * nv)) ≤ nI i := nI_ge (by omega) (by omega)
    cases hS : cb_S co rs hs nv nb s i (-1) with
    | true =>
      by_cases e : cb_lv dl nv nb i 0 = q &&& nI (2 ^ nb - 1)
      · obtain ⟨r, hr1, hr2, hr3, hX, hY⟩ := ih (i + 1) (n + 1) (by omega)
        exact ⟨r, by omega, by omega, ⟨fun _ => ⟨i, by omega, by omega, hS, e⟩, fun _ => by omega⟩,
          fun post hp => br_f h (cb_xs1 R h2 (by omega) hS (br_f (by decide) (cb_xv ok (by omega) (br_t e (nm_r (nI_1 n) (nm_r (nI_1 i) (hX post hp))))))),
          fun post hp => br_f h (cb_yn1 R h2 (by omega) hS (br_f (by decide) (cb_yv ok (by omega) (cb_yr (br_t e (nm_r (nI_1 n) (nm_r (nI_1 i) (hY post hp))))))))⟩
      · obtain ⟨r, hr1, hr2, hr3, hX, hY⟩ := ih (i + 1) n (by omega)
        refine ⟨r, by omega, hr2, ⟨fun z => ?_, fun ⟨a, h1, h3, h4, h5⟩ => ?_⟩,
          fun post hp => br_f h (cb_xs1 R h2 (by omega) hS (br_f (by decide) (cb_xv ok (by omega) (br_f e (nm_r (nI_1 i) (hX post hp)))))),
          fun post hp => br_f h (cb_yn1 R h2 (by omega) hS (br_f (by decide) (cb_yv ok (by omega) (cb_yr (br_f e (nm_r (nI_1 i) (hY post hp)))))))⟩
        · obtain ⟨a, h1, h3⟩ := hr3.mp z
          exact ⟨a, by omega, h3⟩
        · by_cases ea : a = i
          · subst ea
            exact absurd h5 e
          · exact hr3.mpr ⟨a, by omega, h3, h4, h5⟩
    | false =>
      obtain ⟨r, hr1, hr2, hr3, hX, hY⟩ := ih (i + 1) n (by omega)
      refine ⟨r, by omega, hr2, ⟨fun z => ?_, fun ⟨a, h1, h3, h4, h5⟩ => ?_⟩,
        fun post hp => br_f h (cb_xs0 R h2 (by omega) hS (br_t rfl (nm_r (nI_1 i) (hX post hp)))),
        fun post hp => br_f h (cb_yn0 R h2 (by omega) hS (br_t rfl (nm_r (nI_1 i) (hY post hp))))⟩
      · obtain ⟨a, h1, h3⟩ := hr3.mp z
        exact ⟨a, by omega, h3⟩
      · by_cases ea : a = i
        · subst ea
          exact absurd h4 (by rw [hS]; decide)
        · exact hr3.mpr ⟨a, by omega, h3, h4, h5⟩
theorem cb_witL (R : cb_R nv nb co rs sz cf rt hs) {s : Nat} (h2 : s < 2) : ∀ d i, i + d = 2 ^ (nb * nv) → ∃ r : Int32,
    (∀ post : Int32 → Prop, post r → wX_within_11 post (nI s) (nI nv) (nI nb) (nI (2 ^ nb - 1)) (nI (2 ^ (nb * nv))) dl co rs sz (d + 1) (nI i)) ∧
    (∀ post : Int32 → Prop, post r → wY_within_12 post (nI s) (nI nv) (nI nb) (nI (2 ^ nb)) (nI (2 ^ (nb * nv))) dl sz cf rt sn (d + 1) (nI i)) := by
  have hA := cb_pA R.1
  have h1 := cb_1s h2
  intro d
  induction d with
  | zero =>
    intro i hi
    have h : nI (2 ^ (nb * nv)) ≤ nI i := nI_le (by omega) (by omega)
    exact ⟨1, fun _ hp => br_t h hp, fun _ hp => br_t h hp⟩
  | succ d ih =>
    intro i hi
    have h : ¬ nI (2 ^ (nb * nv)) ≤ nI i := nI_ge (by omega) (by omega)
    obtain ⟨r, hX, hY⟩ := ih (i + 1) (by omega)
    cases hS : cb_S co rs hs nv nb s i (-1) with
    | true =>
      cases hT : cb_S co rs hs nv nb (1 - s) i (-1) with
      | true =>
        exact ⟨r, fun post hp => br_f h (cb_xs1 R h2 (by omega) hS (br_f (by decide) (by rw [h1]; exact cb_xs1 R (by omega) (by omega) hT (br_f (by decide) (nm_r (nI_1 i) (hX post hp)))))),
          fun post hp => br_f h (cb_yn1 R h2 (by omega) hS (br_f (by decide) (by rw [h1]; exact cb_yn1 R (by omega) (by omega) hT (br_f (by decide) (nm_r (nI_1 i) (hY post hp))))))⟩
      | false =>
        exact ⟨0, fun post hp => br_f h (cb_xs1 R h2 (by omega) hS (br_f (by decide) (by rw [h1]; exact cb_xs0 R (by omega) (by omega) hT (br_t rfl hp)))),
          fun post hp => br_f h (cb_yn1 R h2 (by omega) hS (br_f (by decide) (by rw [h1]; exact cb_yn0 R (by omega) (by omega) hT (br_t rfl hp))))⟩
    | false =>
      exact ⟨r, fun post hp => br_f h (cb_xs0 R h2 (by omega) hS (br_t rfl (nm_r (nI_1 i) (hX post hp)))),
        fun post hp => br_f h (cb_yn0 R h2 (by omega) hS (br_t rfl (nm_r (nI_1 i) (hY post hp))))⟩
theorem cb_comL (R : cb_R nv nb co rs sz cf rt hs) : ∀ d i (c : Int32), i + d = 2 ^ (nb * nv) → ∃ r : Int32,
    (∀ post : Int32 → Prop, post r → wX_common_4 post (nI nv) (nI nb) (nI (2 ^ nb - 1)) (nI (2 ^ (nb * nv))) dl co rs sz (d + 1) c (nI i)) ∧
    (∀ post : Int32 → Prop, post r → wY_common_4 post (nI nv) (nI nb) (nI (2 ^ nb)) (nI (2 ^ (nb * nv))) dl sz cf rt sn (d + 1) c (nI i)) := by
  have hA := cb_pA R.1
  intro d
  induction d with
  | zero =>
    intro i c hi
    have h : nI (2 ^ (nb * nv)) ≤ nI i := nI_le (by omega) (by omega)
    exact ⟨c, fun _ hp => br_t h hp, fun _ hp => br_t h hp⟩
  | succ d ih =>
    intro i c hi
    have h : ¬ nI (2 ^ (nb * nv)) ≤ nI i := nI_ge (by omega) (by omega)
    obtain ⟨r, hX, hY⟩ := ih (i + 1) c (by omega)
    obtain ⟨r1, hX1, hY1⟩ := ih (i + 1) (c + 1) (by omega)
    cases hS : cb_S co rs hs nv nb 0 i (-1) with
    | true =>
      cases hT : cb_S co rs hs nv nb 1 i (-1) with
      | true =>
        exact ⟨r1, fun post hp => br_f h (cb_xs1 (s := 0) R (by omega) (by omega) hS (br_f (by decide) (cb_xs1 (s := 1) R (by omega) (by omega) hT (br_f (by decide) (nm_e (nm_r (nI_1 i) (hX1 post hp))))))),
          fun post hp => br_f h (cb_yn1 (s := 0) R (by omega) (by omega) hS (br_f (by decide) (cb_yn1 (s := 1) R (by omega) (by omega) hT (br_f (by decide) (nm_e (nm_r (nI_1 i) (hY1 post hp)))))))⟩
      | false =>
        exact ⟨r, fun post hp => br_f h (cb_xs1 (s := 0) R (by omega) (by omega) hS (br_f (by decide) (cb_xs0 (s := 1) R (by omega) (by omega) hT (br_t rfl (nm_r (nI_1 i) (hX post hp)))))),
          fun post hp => br_f h (cb_yn1 (s := 0) R (by omega) (by omega) hS (br_f (by decide) (cb_yn0 (s := 1) R (by omega) (by omega) hT (br_t rfl (nm_r (nI_1 i) (hY post hp))))))⟩
    | false =>
      exact ⟨r, fun post hp => br_f h (cb_xs0 (s := 0) R (by omega) (by omega) hS (br_t rfl (nm_r (nI_1 i) (hX post hp)))),
        fun post hp => br_f h (cb_yn0 (s := 0) R (by omega) (by omega) hS (br_t rfl (nm_r (nI_1 i) (hY post hp))))⟩
end
