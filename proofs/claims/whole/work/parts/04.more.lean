section
variable {nv nb : Nat} {dl co rs sz cf rt sn : Nat → Int32} {hs : Nat → Nat}
/-! withoutUnknown -/
theorem cb_cmpL (R : cb_R nv nb co rs sz cf rt hs) {s num v : Nat} (h2 : s < 2) (hv : v ≤ 4) (hn : num < 65536) : ∀ d x, x + d = 2 ^ nb → ∃ r : Int32,
    (∀ post : Int32 → Prop, post r → wX_canBeCompleted_3 post (nI s) (nI num) (nI v) (nI nv) (nI nb) (nI (2 ^ nb - 1)) (nI (2 ^ (nb * nv))) dl co rs sz (d + 1) (nI x)) ∧
    (∀ post : Int32 → Prop, post r → wY_completes_36 post (nI s) (nI num) (nI (2 ^ (nb * v))) (nI nv) (nI nb) (nI (2 ^ nb)) (nI (2 ^ (nb * nv))) dl sz cf rt sn (d + 1) (nI x)) := by
  have hM := cb_pM R.1
  have hV := cb_pV R.1 hv
  have hw := cb_nbv R.1 hv
  intro d
  induction d with
  | zero =>
    intro x hx
    have h : nI (2 ^ nb - 1) < nI x := nI_lt (by have := cb_pM0 (nb := nb); omega) (by omega)
    have h' : nI (2 ^ nb) ≤ nI x := nI_le (by omega) (by omega)
    exact ⟨0, fun _ hp => br_t h hp, fun _ hp => br_t h' hp⟩
  | succ d ih =>
    intro x hx
    have h : ¬ nI (2 ^ nb - 1) < nI x := nI_nlt (by omega) (by omega)
    have h' : ¬ nI (2 ^ nb) ≤ nI x := nI_ge (by omega) (by omega)
    have hb : x * 2 ^ (nb * v) ≤ 16 * 65536 := Nat.mul_le_mul (by omega) hV
    have eX : nI num + (nI x <<< ((nI nb * nI v) &&& 31)) = nI (num + x * 2 ^ (nb * v)) := by
      rw [pk_mul, pk_shlN _ (nb * v) (s_l _ (by omega)) (by omega), nI_add]
    have eY : nI num + nI x * nI (2 ^ (nb * v)) = nI (num + x * 2 ^ (nb * v)) := by rw [pk_mul, nI_add]
    cases hS : cb_S co rs hs nv nb s (num + x * 2 ^ (nb * v)) (-1) with
    | true =>
      exact ⟨1, fun post hp => br_f h (by rw [eX]; exact cb_xs1 R h2 (by omega) hS (br_f (by decide) hp)),
        fun post hp => br_f h' (by rw [eY]; exact cb_yn1 R h2 (by omega) hS (br_f (by decide) hp))⟩
    | false =>
      obtain ⟨r, hX, hY⟩ := ih (x + 1) (by omega)
      exact ⟨r, fun post hp => br_f h (by rw [eX]; exact cb_xs0 R h2 (by omega) hS (br_t rfl (nm_r (nI_1 x) (hX post hp)))),
        fun post hp => br_f h' (by rw [eY]; exact cb_yn0 R h2 (by omega) hS (br_t rfl (nm_r (nI_1 x) (hY post hp))))⟩
theorem cb_cmpW {post : Int32 → Prop} {s num v : Nat} (hv : v ≤ 4) (h : ∃ n, wY_completes_36 post (nI s) (nI num) (nI (2 ^ (nb * v))) (nI nv) (nI nb) (nI (2 ^ nb)) (nI (2 ^ (nb * nv))) dl sz cf rt sn n 0) : ∀ d k, k + d = v →
    wY_completes_6 post (nI s) (nI num) (nI v) (nI nv) (nI nb) (nI (2 ^ nb)) (nI (2 ^ (nb * nv))) dl sz cf rt sn (d + 1) (nI (2 ^ (nb * k))) (nI k) := by
  intro d
  induction d with
  | zero =>
    intro k hk
    have e : k = v := by omega
    subst e
    exact br_t (nI_le (by omega) (by omega)) h
  | succ d ih =>
    intro k hk
    refine br_f (nI_ge (by omega) (by omega)) (br_f (nI_ge (b := 4) (by omega) (by decide)) (nm_r ?_ (nm_r (nI_1 k) (ih (k + 1) (by omega)))))
    rw [pk_mul, ← Nat.pow_add, Nat.mul_succ]
theorem cb_cmp (R : cb_R nv nb co rs sz cf rt hs) {s num v : Nat} (h2 : s < 2) (hv : v ≤ 4) (hn : num < 65536) : ∃ r : Int32,
    (∀ post : Int32 → Prop, post r → wpX_canBeCompleted post (cb_X nv nb dl co rs sz) (nI s) (nI num) (nI v)) ∧
    (∀ post : Int32 → Prop, post r → wpY_completes post (cb_Y nv nb dl sz cf rt sn) (nI s) (nI num) (nI v)) := by
  obtain ⟨r, hX, hY⟩ := cb_cmpL (dl := dl) (sn := sn) R h2 hv hn (2 ^ nb) 0 (by omega)
  refine ⟨r, fun post hp => ⟨_, hX post hp⟩, fun post hp => ⟨v + 1, ?_⟩⟩
  have := cb_cmpW (nv := nv) (dl := dl) (sz := sz) (cf := cf) (rt := rt) (sn := sn) hv ⟨_, hY post hp⟩ v 0 (by omega)
  rw [Nat.mul_zero, Nat.pow_zero] at this
  exact this
theorem cb_witoL (R : cb_R nv nb co rs sz cf rt hs) {s v : Nat} (h2 : s < 2) (hv : v ≤ 4) : ∀ d i (c : Int32), i + d = 2 ^ (nb * nv) → ∃ r : Int32,
    (∀ post : Int32 → Prop, post r → wX_withoutUnknown_25 post (nI s) (nI v) (nI nv) (nI nb) (nI (2 ^ nb - 1)) (nI (2 ^ (nb * nv))) dl co rs sz (d + 1) c (nI i)) ∧
    (∀ post : Int32 → Prop, post r → wY_withoutUnknown_26 post (nI s) (nI v) (nI nv) (nI nb) (nI (2 ^ nb)) (nI (2 ^ (nb * nv))) dl sz cf rt sn (d + 1) c (nI i)) := by
  have hA := cb_pA R.1
  intro d
  induction d with
  | zero =>
    intro i c hi
    have h : nI (2 ^ (nb * nv)) ≤ nI i := nI_le (by omega) (by omega)
    exact ⟨c, fun _ hp => br_t h hp, fun _ hp => br_t h hp⟩
  | succ d ih =>
    intro i c hi
    have h : ¬ nI (2 ^ (nb * nv)) ≤ nI i := nI_ge (by omega) (by omega)
    obtain ⟨r, hX, hY⟩ := ih (i + 1) c (by omega)
    by_cases e : nI (cb_dg nb i v) = 0
    · obtain ⟨q, qX, qY⟩ := cb_cmp (dl := dl) (sn := sn) R h2 hv (show i < 65536 by omega)
      by_cases e2 : q = 0
      · exact ⟨r, fun post hp => br_f h (cb_xd R.1 hv (by omega) (br_t e (qX _ (br_t e2 (nm_r (nI_1 i) (hX post hp)))))),
          fun post hp => br_f h (cb_yd R.1 hv (by omega) (br_t e (qY _ (br_t e2 (nm_r (nI_1 i) (hY post hp))))))⟩
      · obtain ⟨r1, hX1, hY1⟩ := ih (i + 1) (c + 1) (by omega)
        exact ⟨r1, fun post hp => br_f h (cb_xd R.1 hv (by omega) (br_t e (qX _ (br_f e2 (nm_e (nm_r (nI_1 i) (hX1 post hp))))))),
          fun post hp => br_f h (cb_yd R.1 hv (by omega) (br_t e (qY _ (br_f e2 (nm_e (nm_r (nI_1 i) (hY1 post hp)))))))⟩
    · exact ⟨r, fun post hp => br_f h (cb_xd R.1 hv (by omega) (br_f e (nm_r (nI_1 i) (hX post hp)))),
        fun post hp => br_f h (cb_yd R.1 hv (by omega) (br_f e (nm_r (nI_1 i) (hY post hp))))⟩
/-! redundant -/
theorem cb_allM {P Q : Nat → Bool} : ∀ d i, (∀ j, i ≤ j → j < i + d → P j = true → Q j = true) → cb_all P i d = true → cb_all Q i d = true := by
  intro d
  induction d with
  | zero => intro i _ _; rfl
  | succ d ih =>
    intro i h hP
    have hP2 : (P i && cb_all P (i + 1) d) = true := hP
    rw [Bool.and_eq_true] at hP2
    show (Q i && cb_all Q (i + 1) d) = true
    rw [h i (by omega) (by omega) hP2.1, ih (i + 1) (fun j h1 h3 => h j (by omega) (by omega)) hP2.2]
    rfl
theorem cb_SM (Z : cb_sz sz hs) {s num : Nat} (h2 : s < 2) (lo : Int32) (h : cb_S co rs hs nv nb s num (-1) = true) : cb_S co rs hs nv nb s num lo = true := by
  have h10 := (Z s h2).2
  refine cb_allM _ _ (fun j _ hj hP => ?_) h
  have e : ¬ nI j = -1 := fun e => by
    have := nI_pos' (n := j) (by omega)
    rw [e] at this
    exact absurd this (by decide)
  rw [decide_eq_false e, Bool.false_or] at hP
  rw [hP, Bool.or_true]
theorem cb_redL (R : cb_R nv nb co rs sz cf rt hs) {s : Nat} (h2 : s < 2) (lo : Int32) : ∀ d i, i + d = 2 ^ (nb * nv) → ∃ r : Int32,
    (∀ post : Int32 → Prop, post r → wX_redundant_23 post (nI s) lo (nI nv) (nI nb) (nI (2 ^ nb - 1)) (nI (2 ^ (nb * nv))) dl co rs sz (d + 1) (nI i)) ∧
    (∀ post : Int32 → Prop, post r → wY_redundant_29 post (nI s) lo (nI nv) (nI nb) (nI (2 ^ nb)) (nI (2 ^ (nb * nv))) dl sz cf rt sn (d + 1) (nI i)) := by
  have hA := cb_pA R.1
  intro d
  induction d with
  | zero =>
    intro i hi
    have h : nI (2 ^ (nb * nv)) ≤ nI i := nI_le (by omega) (by omega)
    exact ⟨1, fun _ hp => br_t h hp, fun _ hp => br_t h hp⟩
  | succ d ih =>
    intro i hi
    have h : ¬ nI (2 ^ (nb * nv)) ≤ nI i := nI_ge (by omega) (by omega)
    obtain ⟨r, hX, hY⟩ := ih (i + 1) (by omega)
    cases hT : cb_S co rs hs nv nb s i (-1) with
    | true =>
      have hS := cb_SM R.2.1 h2 lo hT
      exact ⟨r, fun post hp => br_f h (cb_xs1 R h2 (by omega) hS (br_f (by decide) (cb_xs1 R h2 (by omega) hT (br_f (by decide) (nm_r (nI_1 i) (hX post hp)))))),
        fun post hp => br_f h (cb_ys1 R h2 (by omega) hT (cb_ys1 R h2 (by omega) hS (br_t rfl (nm_r (nI_1 i) (hY post hp)))))⟩
    | false =>
      cases hS : cb_S co rs hs nv nb s i lo with
      | true =>
        exact ⟨0, fun post hp => br_f h (cb_xs1 R h2 (by omega) hS (br_f (by decide) (cb_xs0 R h2 (by omega) hT (br_t rfl hp)))),
          fun post hp => br_f h (cb_ys0 R h2 (by omega) hT (cb_ys1 R h2 (by omega) hS (br_f (by decide) hp)))⟩
      | false =>
        exact ⟨r, fun post hp => br_f h (cb_xs0 R h2 (by omega) hS (br_t rfl (nm_r (nI_1 i) (hX post hp)))),
          fun post hp => br_f h (cb_ys0 R h2 (by omega) hT (cb_ys0 R h2 (by omega) hS (br_t rfl (nm_r (nI_1 i) (hY post hp)))))⟩
/-! values, leastValue -/
def cb_hit (co rs dl : Nat → Int32) (hs : Nat → Nat) (nv nb s x : Nat) : Prop := ∃ a, a < 2 ^ (nb * nv) ∧ cb_S co rs hs nv nb s a (-1) = true ∧ cb_lv dl nv nb a 0 = nI x
theorem cb_xc (R : cb_R nv nb co rs sz cf rt hs) {s x : Nat} (h2 : s < 2) (hx : x < 2 ^ nb) : ∃ r : Nat, r ≤ 512 ∧ (0 < r ↔ cb_hit co rs dl hs nv nb s x) ∧
    ∀ post : Int32 → Prop, post (nI r) → wpX_countAt post (cb_X nv nb dl co rs sz) (nI s) (nI x) := by
  have hA := cb_pA R.1
  have hM := cb_pM R.1
  obtain ⟨r, h1, _, h3, hX, _⟩ := cb_catL (dl := dl) (sn := fun _ => 0) R h2 (nI x) (2 ^ (nb * nv)) 0 0 (by omega)
  rw [cb_and R.1 (by omega), Nat.mod_eq_of_lt hx] at h3
  refine ⟨r, by omega, ⟨fun z => ?_, fun ⟨a, ha, hb⟩ => h3.mpr ⟨a, by omega, ha, hb⟩⟩, fun post hp => ?_⟩
  · obtain ⟨a, _, ha⟩ := h3.mp z
    exact ⟨a, ha⟩
  · unfold wpX_countAt
    dsimp only
    refine cb_xy h2 ?_
    refine br_f (by decide) ?_
    exact ⟨_, hX post hp⟩
def cb_marks (co rs dl sn : Nat → Int32) (hs : Nat → Nat) (nv nb s : Nat) : Prop := ∀ c, c < 16 → (sn c = 0 ↔ ¬ cb_hit co rs dl hs nv nb s c)
theorem cb_n1 : vp_nar .boolean 1 = 1 := rfl
theorem cb_n0 : vp_nar .boolean 0 = 0 := rfl
theorem cb_mk23 (R : cb_R nv nb co rs sz cf rt hs) {s : Nat} (h2 : s < 2) {post : SY → Prop} (hp : ∀ sn, cb_marks co rs dl sn hs nv nb s → post (cb_Y nv nb dl sz cf rt sn)) :
    ∀ d i sn, i + d = 2 ^ (nb * nv) → (∀ c, c < 16 → (sn c = 0 ↔ ¬ ∃ a, a < i ∧ cb_S co rs hs nv nb s a (-1) = true ∧ cb_lv dl nv nb a 0 = nI c)) →
    wY_mark_23 post (nI s) (nI nv) (nI nb) (nI (2 ^ nb)) (nI (2 ^ (nb * nv))) (d + 1) (nI i) dl sz cf rt sn := by
  have hA := cb_pA R.1
  have hM := cb_pM R.1
  intro d
  induction d with
  | zero =>
    intro i sn hi hm
    have e : i = 2 ^ (nb * nv) := by omega
    subst e
    exact br_t (nI_le (by omega) (by omega)) (hp sn hm)
  | succ d ih =>
    intro i sn hi hm
    refine br_f (nI_ge (by omega) (by omega)) ?_
    cases hS : cb_S co rs hs nv nb s i (-1) with
    | true =>
      obtain ⟨j, hj, ej⟩ := cb_lvE R.1 dl i 0
      refine cb_yn1 R h2 (by omega) hS (br_f (by decide) (cb_yv R.1 (by omega) ?_))
      rw [ej]
      refine br_f (nI_pos (by omega)) (br_f (nI_ge (b := 16) (by omega) (by decide)) ⟨pk_in j 16 (by omega), nm_e (nm_r (nI_1 i) (ih (i + 1) _ (by omega) ?_))⟩)
      intro c hc
      rw [nI_clamp (by omega), cb_n1]
      by_cases ec : c = j
      · subst ec
        rw [pk_us]
        exact ⟨fun z => absurd z (by decide), fun z => absurd ⟨i, by omega, hS, ej⟩ z⟩
      · rw [pk_un ec, hm c hc]
        refine not_congr ⟨fun ⟨a, h1, h3⟩ => ⟨a, by omega, h3⟩, fun ⟨a, h1, h3, h4⟩ => ?_⟩
        by_cases ea : a = i
        · subst ea
          rw [ej, nI_eq (by omega) (by omega)] at h4
          exact absurd h4.symm ec
        · exact ⟨a, by omega, h3, h4⟩
    | false =>
      refine cb_yn0 R h2 (by omega) hS (br_t rfl (nm_r (nI_1 i) (ih (i + 1) sn (by omega) ?_)))
      intro c hc
      rw [hm c hc]
      refine not_congr ⟨fun ⟨a, h1, h3⟩ => ⟨a, by omega, h3⟩, fun ⟨a, h1, h3, h4⟩ => ?_⟩
      by_cases ea : a = i
      · subst ea
        rw [hS] at h3
        exact absurd h3 (by decide)
      · exact ⟨a, by omega, h3, h4⟩
theorem cb_mk2 (R : cb_R nv nb co rs sz cf rt hs) {s : Nat} (h2 : s < 2) {post : SY → Prop} (hp : ∀ sn, cb_marks co rs dl sn hs nv nb s → post (cb_Y nv nb dl sz cf rt sn)) :
    ∀ d i sn, i + d = 16 → (∀ c, c < i → sn c = 0) → wY_mark_2 post (nI s) (nI nv) (nI nb) (nI (2 ^ nb)) (nI (2 ^ (nb * nv))) (d + 1) (nI i) dl sz cf rt sn := by
  intro d
  induction d with
  | zero =>
    intro i sn hi hm
    refine br_t (nI_le (a := 16) (by omega) (by omega)) ⟨_, cb_mk23 R h2 hp (2 ^ (nb * nv)) 0 sn (by omega) (fun c hc => ?_)⟩
    exact ⟨fun _ ⟨a, h1, _⟩ => absurd h1 (by omega), fun _ => hm c (by omega)⟩
  | succ d ih =>
    intro i sn hi hm
    refine br_f (nI_ge (b := 16) (by omega) (by omega)) ⟨pk_in i 16 (by omega), nm_e (nm_r (nI_1 i) (ih (i + 1) _ (by omega) ?_))⟩
    intro c hc
    rw [nI_clamp (by omega), cb_n0]
    by_cases ec : c = i
    · subst ec
      exact pk_us
    · rw [pk_un ec]
      exact hm c (by omega)
theorem cb_mark (R : cb_R nv nb co rs sz cf rt hs) {s : Nat} (h2 : s < 2) {post : SY → Prop} (hp : ∀ sn, cb_marks co rs dl sn hs nv nb s → post (cb_Y nv nb dl sz cf rt sn)) :
    wpY_mark post (cb_Y nv nb dl sz cf rt sn) (nI s) := ⟨_, cb_mk2 R h2 hp 16 0 sn (by omega) (fun c hc => absurd hc (by omega))⟩
theorem cb_hitN (ok : cb_ok nv nb) {s x : Nat} (h : 2 ^ nb ≤ x) (hx : x < 16) : ¬ cb_hit co rs dl hs nv nb s x := by
  intro ⟨a, _, _, e⟩
  obtain ⟨j, hj, ej⟩ := cb_lvE ok dl a 0
  rw [ej, nI_eq (by have := cb_pM ok; omega) (by omega)] at e
  omega
theorem cb_valT (ok : cb_ok nv nb) {s : Nat} (hm : cb_marks co rs dl sn hs nv nb s) {c : Int32} {post : Int32 → SY → Prop} (hp : post c (cb_Y nv nb dl sz cf rt sn)) : ∀ e x, x + e = 16 → 2 ^ nb ≤ x →
    wY_values_19 post (nI nv) (nI nb) (nI (2 ^ nb)) (nI (2 ^ (nb * nv))) dl sz cf rt sn (e + 1) c (nI x) := by
  intro e
  induction e with
  | zero =>
    intro x hx _
    exact br_t (nI_le (a := 16) (by omega) (by omega)) hp
  | succ e ih =>
    intro x hx hb
    refine br_f (nI_ge (b := 16) (by omega) (by omega)) ⟨pk_in x 16 (by omega), br_t ?_ (nm_r (nI_1 x) (ih (x + 1) (by omega) (by omega)))⟩
    rw [nI_clamp (by omega)]
    exact (hm x (by omega)).mpr (cb_hitN ok hb (by omega))
theorem cb_valL (R : cb_R nv nb co rs sz cf rt hs) {s : Nat} (h2 : s < 2) : ∀ d x (c : Int32), x + d = 2 ^ nb → ∃ r : Int32,
    (∀ post : Int32 → Prop, post r → wX_values_13 post (nI s) (nI nv) (nI nb) (nI (2 ^ nb - 1)) (nI (2 ^ (nb * nv))) dl co rs sz (d + 1) c (nI x)) ∧
    (∀ sn, cb_marks co rs dl sn hs nv nb s → ∀ post : Int32 → SY → Prop, post r (cb_Y nv nb dl sz cf rt sn) → ∀ e, x + e = 16 → wY_values_19 post (nI nv) (nI nb) (nI (2 ^ nb)) (nI (2 ^ (nb * nv))) dl sz cf rt sn (e + 1) c (nI x)) := by
  have hM := cb_pM R.1
  have hM0 := cb_pM0 (nb := nb)
  intro d
  induction d with
  | zero =>
    intro x c hx
    exact ⟨c, fun post hp => br_t (nI_lt (by omega) (by omega)) hp, fun sn hm post hp e he => cb_valT R.1 hm hp e x he (by omega)⟩
  | succ d ih =>
    intro x c hx
    have h : ¬ nI (2 ^ nb - 1) < nI x := nI_nlt (by omega) (by omega)
    have h' : ¬ (16 : Int32) ≤ nI x := nI_ge (b := 16) (by omega) (by omega)
    obtain ⟨q, q1, q2, qX⟩ := cb_xc (dl := dl) R h2 (show x < 2 ^ nb by omega)
    by_cases hit : cb_hit co rs dl hs nv nb s x
    · obtain ⟨r, hX, hY⟩ := ih (x + 1) (c + 1) (by omega)
      refine ⟨r, fun post hp => br_f h (qX _ (br_f (nI_nle (q2.mpr hit) (by omega)) (nm_e (nm_r (nI_1 x) (hX post hp))))), fun sn hm post hp e he => ?_⟩
      obtain ⟨e', rfl⟩ : ∃ e', e = e' + 1 := ⟨e - 1, by omega⟩
      refine br_f h' ⟨pk_in x 16 (by omega), br_f ?_ (nm_e (nm_r (nI_1 x) (hY sn hm post hp e' (by omega))))⟩
      rw [nI_clamp (by omega), hm x (by omega)]
      exact fun z => z hit
    · obtain ⟨r, hX, hY⟩ := ih (x + 1) c (by omega)
      have q0 : q = 0 := Nat.eq_zero_of_not_pos (fun z => hit (q2.mp z))
      subst q0
      refine ⟨r, fun post hp => br_f h (qX _ (br_t (by decide) (nm_r (nI_1 x) (hX post hp)))), fun sn hm post hp e he => ?_⟩
      obtain ⟨e', rfl⟩ : ∃ e', e = e' + 1 := ⟨e - 1, by omega⟩
      refine br_f h' ⟨pk_in x 16 (by omega), br_t ?_ (nm_r (nI_1 x) (hY sn hm post hp e' (by omega)))⟩
      rw [nI_clamp (by omega)]
      exact (hm x (by omega)).mpr hit
theorem cb_lstT (ok : cb_ok nv nb) {s : Nat} (hm : cb_marks co rs dl sn hs nv nb s) {post : Int32 → SY → Prop} (hp : post (-2) (cb_Y nv nb dl sz cf rt sn)) : ∀ e x, x + e = 16 → 2 ^ nb ≤ x →
    wY_leastValue_17 post (nI nv) (nI nb) (nI (2 ^ nb)) (nI (2 ^ (nb * nv))) dl sz cf rt sn (e + 1) (nI x) := by
  intro e
  induction e with
  | zero =>
    intro x hx _
    exact br_t (nI_le (a := 16) (by omega) (by omega)) hp
  | succ e ih =>
    intro x hx hb
    refine br_f (nI_ge (b := 16) (by omega) (by omega)) ⟨pk_in x 16 (by omega), br_t ?_ (nm_r (nI_1 x) (ih (x + 1) (by omega) (by omega)))⟩
    rw [nI_clamp (by omega)]
    exact (hm x (by omega)).mpr (cb_hitN ok hb (by omega))
theorem cb_lstL (R : cb_R nv nb co rs sz cf rt hs) {s : Nat} (h2 : s < 2) : ∀ d x, x + d = 2 ^ nb → ∃ r : Int32,
    (∀ post : Int32 → Prop, post r → wX_leastValue_11 post (nI s) (nI nv) (nI nb) (nI (2 ^ nb - 1)) (nI (2 ^ (nb * nv))) dl co rs sz (d + 1) (nI x)) ∧
    (∀ sn, cb_marks co rs dl sn hs nv nb s → ∀ post : Int32 → SY → Prop, post r (cb_Y nv nb dl sz cf rt sn) → ∀ e, x + e = 16 → wY_leastValue_17 post (nI nv) (nI nb) (nI (2 ^ nb)) (nI (2 ^ (nb * nv))) dl sz cf rt sn (e + 1) (nI x)) := by
  have hM := cb_pM R.1
  have hM0 := cb_pM0 (nb := nb)
  intro d
  induction d with
  | zero =>
    intro x hx
    exact ⟨-2, fun post hp => br_t (nI_lt (by omega) (by omega)) hp, fun sn hm post hp e he => cb_lstT R.1 hm hp e x he (by omega)⟩
  | succ d ih =>
    intro x hx
    have h : ¬ nI (2 ^ nb - 1) < nI x := nI_nlt (by omega) (by omega)
    have h' : ¬ (16 : Int32) ≤ nI x := nI_ge (b := 16) (by omega) (by omega)
    obtain ⟨q, q1, q2, qX⟩ := cb_xc (dl := dl) R h2 (show x < 2 ^ nb by omega)
    by_cases hit : cb_hit co rs dl hs nv nb s x
    · refine ⟨nI x, fun post hp => br_f h (qX _ (br_f (nI_nle (q2.mpr hit) (by omega)) hp)), fun sn hm post hp e he => ?_⟩
      obtain ⟨e', rfl⟩ : ∃ e', e = e' + 1 := ⟨e - 1, by omega⟩
      refine br_f h' ⟨pk_in x 16 (by omega), br_f ?_ hp⟩
      rw [nI_clamp (by omega), hm x (by omega)]
      exact fun z => z hit
    · obtain ⟨r, hX, hY⟩ := ih (x + 1) (by omega)
      have q0 : q = 0 := Nat.eq_zero_of_not_pos (fun z => hit (q2.mp z))
      subst q0
      refine ⟨r, fun post hp => br_f h (qX _ (br_t (by decide) (nm_r (nI_1 x) (hX post hp)))), fun sn hm post hp e he => ?_⟩
      obtain ⟨e', rfl⟩ : ∃ e', e = e' + 1 := ⟨e - 1, by omega⟩
      refine br_f h' ⟨pk_in x 16 (by omega), br_t ?_ (nm_r (nI_1 x) (hY sn hm post hp e' (by omega)))⟩
      rw [nI_clamp (by omega)]
      exact (hm x (by omega)).mpr hit
end
