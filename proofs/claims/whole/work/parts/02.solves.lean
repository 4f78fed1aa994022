section
variable {nv nb : Nat} {dl co rs sz cf rt sn : Nat → Int32} {hs : Nat → Nat}
/-! line values -/
def cb_sum (f : Nat → Int32) (nb num base : Nat) : Nat → Int32
  | 0 => 0
  | k + 1 => cb_sum f nb num base k + f (base + k) * nI (cb_dg nb num k)
def cb_lv (f : Nat → Int32) (nv nb num base : Nat) : Int32 := cb_sum f nb num base nv &&& nI (2 ^ nb - 1)
theorem cb_lvE (ok : cb_ok nv nb) (f : Nat → Int32) (num base : Nat) : ∃ j, j < 2 ^ nb ∧ cb_lv f nv nb num base = nI j := pk_andE _ nb (cb_mtn ok)
theorem cb_sumE {f g : Nat → Int32} {num b : Nat} (h : ∀ v, v < 4 → f (b + v) = g (b + v)) : ∀ k, k ≤ 4 → cb_sum f nb num b k = cb_sum g nb num b k := by
  intro k
  induction k with
  | zero => intro _; rfl
  | succ k ih =>
    intro hk
    show cb_sum f nb num b k + f (b + k) * _ = cb_sum g nb num b k + g (b + k) * _
    rw [ih (by omega), h k (by omega)]
theorem cb_xlc (ok : cb_ok nv nb) {post : Int32 → Prop} {b num : Nat} (hb : b + 4 ≤ 80) (hn : num < 2 ^ 31) (hp : post (cb_lv co nv nb num b)) :
    ∀ d v, v + d = nv → wX_lineValue__coefficients_6 post (nI b) (nI num) (nI nv) (nI nb) (nI (2 ^ nb - 1)) (nI (2 ^ (nb * nv))) dl co rs sz (d + 1) (cb_sum co nb num b v) (nI v) := by
  have h4 := ok.2.1
  intro d
  induction d with
  | zero =>
    intro v hv
    have e : v = nv := by omega
    subst e
    exact br_t (nI_le (by omega) (by omega)) hp
  | succ d ih =>
    intro v hv
    refine br_f (nI_ge (by omega) (by omega)) ⟨pk_in (b + v) 80 (by omega) (nI_add b v), cb_xd ok (by omega) hn (nm_r ?_ (nm_r (nI_1 v) (ih (v + 1) (by omega))))⟩
    rw [nI_add, nI_clamp (by omega)]
    rfl
theorem cb_xl (ok : cb_ok nv nb) {post : Int32 → Prop} {b num : Nat} (hb : b + 4 ≤ 80) (hn : num < 2 ^ 31) (hp : post (cb_lv co nv nb num b)) :
    wpX_lineValue__coefficients post (cb_X nv nb dl co rs sz) (nI b) (nI num) := ⟨_, cb_xlc ok hb hn hp nv 0 (by omega)⟩
theorem cb_xld (ok : cb_ok nv nb) {post : Int32 → Prop} {num : Nat} (hn : num < 2 ^ 31) (hp : post (cb_lv dl nv nb num 0)) :
    ∀ d v, v + d = nv → wX_lineValue__draftLine_6 post (nI 0) (nI num) (nI nv) (nI nb) (nI (2 ^ nb - 1)) (nI (2 ^ (nb * nv))) dl co rs sz (d + 1) (cb_sum dl nb num 0 v) (nI v) := by
  have h4 := ok.2.1
  intro d
  induction d with
  | zero =>
    intro v hv
    have e : v = nv := by omega
    subst e
    exact br_t (nI_le (by omega) (by omega)) hp
  | succ d ih =>
    intro v hv
    refine br_f (nI_ge (by omega) (by omega)) ⟨pk_in (0 + v) 4 (by omega) (nI_add 0 v), cb_xd ok (by omega) hn (nm_r ?_ (nm_r (nI_1 v) (ih (v + 1) (by omega))))⟩
    rw [nI_add, nI_clamp (by omega)]
    rfl
theorem cb_xv (ok : cb_ok nv nb) {post : Int32 → Prop} {num : Nat} (hn : num < 2 ^ 31) (hp : post (cb_lv dl nv nb num 0)) :
    wpX_draftValue post (cb_X nv nb dl co rs sz) (nI num) := ⟨_, cb_xld ok hn hp nv 0 (by omega)⟩
theorem cb_yv4 (ok : cb_ok nv nb) {post : Int32 → Prop} {num : Nat} (hn : num < 2 ^ 31) (hp : post (cb_lv dl nv nb num 0)) :
    ∀ d v, v + d = nv → wY_lineValue_4 post (nI num) (nI nv) (nI nb) (nI (2 ^ nb)) (nI (2 ^ (nb * nv))) dl sz cf rt sn (d + 1) (cb_sum dl nb num 0 v) (nI v) := by
  have h4 := ok.2.1
  intro d
  induction d with
  | zero =>
    intro v hv
    have e : v = nv := by omega
    subst e
    refine br_t (nI_le (by omega) (by omega)) ?_
    show post _
    rw [cb_mk]
    exact hp
  | succ d ih =>
    intro v hv
    refine br_f (nI_ge (by omega) (by omega)) (br_f (nI_ge (b := 4) (by omega) (by decide)) (cb_yd ok (by omega) hn ⟨pk_in v 4 (by omega), nm_r ?_ (nm_r (nI_1 v) (ih (v + 1) (by omega)))⟩))
    rw [nI_clamp (by omega), show dl v = dl (0 + v) by rw [Nat.zero_add]]
    rfl
theorem cb_yv (ok : cb_ok nv nb) {post : Int32 → Prop} {num : Nat} (hn : num < 2 ^ 31) (hp : post (cb_lv dl nv nb num 0)) :
    wpY_lineValue post (cb_Y nv nb dl sz cf rt sn) (nI num) := ⟨_, cb_yv4 ok hn hp nv 0 (by omega)⟩
/-! does the assignment meet the congruences? -/
def cb_b : Bool → Int32
  | true => 1
  | false => 0
def cb_mt (co rs : Nat → Int32) (nv nb s num i : Nat) : Bool := decide (cb_lv co nv nb num (40 * s + 4 * i) = rs (10 * s + i))
def cb_all (P : Nat → Bool) : Nat → Nat → Bool
  | _, 0 => true
  | i, d + 1 => P i && cb_all P (i + 1) d
def cb_S (co rs : Nat → Int32) (hs : Nat → Nat) (nv nb s num : Nat) (lo : Int32) : Bool :=
  cb_all (fun i => decide (nI i = lo) || cb_mt co rs nv nb s num i) 0 (hs s)
theorem cb_r1 (s i : Nat) : nI s * 10 + nI i = nI (10 * s + i) := by
  show nI s * nI 10 + nI i = _
  rw [pk_mul, nI_add, Nat.mul_comm]
theorem cb_ro {post : Int32 → Prop} {s i : Nat} (hp : post (nI (10 * s + i))) : wpX_rowOf post (nI s) (nI i) := by
  unfold wpX_rowOf
  rw [cb_r1]
  exact hp
theorem cb_r2 (s i : Nat) : 10 * nI s + nI i = nI (10 * s + i) := by
  show nI 10 * nI s + nI i = _
  rw [pk_mul, nI_add]
theorem cb_r3 (s i : Nat) : nI (10 * s + i) * 4 = nI (40 * s + 4 * i) := by
  show nI (10 * s + i) * nI 4 = _
  rw [pk_mul]
  exact congrArg nI (by omega)
theorem cb_r4 (s i v : Nat) : 40 * nI s + 4 * nI i + nI v = nI (40 * s + 4 * i + v) := by
  show nI 40 * nI s + nI 4 * nI i + nI v = _
  rw [pk_mul, pk_mul, nI_add, nI_add]
theorem cb_szc {s : Nat} (R : cb_sz sz hs) (h : s < 2) : sz (nI s).toNatClampNeg = nI (hs s) := by
  rw [nI_clamp (by omega)]
  exact (R s h).1
theorem cb_xs3 (ok : cb_ok nv nb) (Z : cb_sz sz hs) {post : Int32 → Prop} {s num : Nat} {lo : Int32} (h2 : s < 2) (hn : num < 2 ^ 31) :
    ∀ d i, i + d = hs s → post (cb_b (cb_all (fun i => decide (nI i = lo) || cb_mt co rs nv nb s num i) i d)) → wX_solves_3 post (nI s) (nI num) lo (nI nv) (nI nb) (nI (2 ^ nb - 1)) (nI (2 ^ (nb * nv))) dl co rs sz (d + 1) (nI i) := by
  have h10 := (Z s h2).2
  intro d
  induction d with
  | zero =>
    intro i hi hp
    exact ⟨pk_in s 2 h2, br_t (by rw [cb_szc Z h2]; exact nI_le (by omega) (by omega)) hp⟩
  | succ d ih =>
    intro i hi hp
    refine ⟨pk_in s 2 h2, br_f (by rw [cb_szc Z h2]; exact nI_ge (by omega) (by omega)) (cb_ro ?_)⟩
    rw [cb_r3]
    refine cb_xl ok (by omega) hn ?_
    have hp2 : post (cb_b ((decide (nI i = lo) || cb_mt co rs nv nb s num i) && cb_all (fun i => decide (nI i = lo) || cb_mt co rs nv nb s num i) (i + 1) d)) := hp
    by_cases e : nI i = lo
    · rw [decide_eq_true e, Bool.true_or, Bool.true_and] at hp2
      exact br_t e (nm_r (nI_1 i) (ih (i + 1) (by omega) hp2))
    · rw [decide_eq_false e, Bool.false_or] at hp2
      refine br_f e ⟨pk_in (10 * s + i) 20 (by omega), ?_⟩
      rw [nI_clamp (by omega)]
      by_cases m : cb_lv co nv nb num (40 * s + 4 * i) = rs (10 * s + i)
      · rw [show cb_mt co rs nv nb s num i = true from decide_eq_true m, Bool.true_and] at hp2
        exact br_t m (nm_r (nI_1 i) (ih (i + 1) (by omega) hp2))
      · rw [show cb_mt co rs nv nb s num i = false from decide_eq_false m, Bool.false_and] at hp2
        exact br_f m hp2
theorem cb_xs (ok : cb_ok nv nb) (Z : cb_sz sz hs) {post : Int32 → Prop} {s num : Nat} {lo : Int32} (h2 : s < 2) (hn : num < 2 ^ 31) (hp : post (cb_b (cb_S co rs hs nv nb s num lo))) :
    wpX_solves post (cb_X nv nb dl co rs sz) (nI s) (nI num) lo := ⟨_, cb_xs3 ok Z h2 hn (hs s) 0 (by omega) hp⟩
theorem cb_ym6 (R : cb_R nv nb co rs sz cf rt hs) {post : Int32 → Prop} {s i num : Nat} (h2 : s < 2) (hi : i < hs s) (hn : num < 2 ^ 31) (hp : post (cb_b (cb_mt co rs nv nb s num i))) :
    ∀ d v, v + d = nv → wY_meets_6 post (nI s) (nI i) (nI num) (nI nv) (nI nb) (nI (2 ^ nb)) (nI (2 ^ (nb * nv))) dl sz cf rt sn (d + 1) (cb_sum cf nb num (40 * s + 4 * i) v) (nI v) := by
  have ok := R.1
  have h4 := ok.2.1
  have h10 := (R.2.1 s h2).2
  obtain ⟨hc, hr⟩ := R.2.2 s i h2 hi
  intro d
  induction d with
  | zero =>
    intro v hv
    have e : v = nv := by omega
    subst e
    refine br_t (nI_le (by omega) (by omega)) ?_
    show vp_in _ _ ∧ _
    refine ⟨pk_in (10 * s + i) 20 (by omega) (cb_r2 s i), ?_⟩
    rw [cb_r2, nI_clamp (by omega), cb_mk, cb_sumE hc v h4, hr]
    by_cases m : cb_lv co v nb num (40 * s + 4 * i) = rs (10 * s + i)
    · rw [show cb_mt co rs v nb s num i = true from decide_eq_true m] at hp
      exact br_t m hp
    · rw [show cb_mt co rs v nb s num i = false from decide_eq_false m] at hp
      exact br_f m hp
  | succ d ih =>
    intro v hv
    refine br_f (nI_ge (by omega) (by omega)) (br_f (nI_ge (b := 4) (by omega) (by decide)) (cb_yd ok (by omega) hn ⟨pk_in (40 * s + 4 * i + v) 80 (by omega) (cb_r4 s i v), nm_r ?_ (nm_r (nI_1 v) (ih (v + 1) (by omega)))⟩))
    rw [cb_r4, nI_clamp (by omega)]
    rfl
theorem cb_ym (R : cb_R nv nb co rs sz cf rt hs) {post : Int32 → Prop} {s i num : Nat} (h2 : s < 2) (hi : i < hs s) (hn : num < 2 ^ 31) (hp : post (cb_b (cb_mt co rs nv nb s num i))) :
    wpY_meets post (cb_Y nv nb dl sz cf rt sn) (nI s) (nI i) (nI num) := ⟨_, cb_ym6 R h2 hi hn hp nv 0 (by omega)⟩
theorem cb_ys3 (R : cb_R nv nb co rs sz cf rt hs) {post : Int32 → Prop} {s num : Nat} {lo : Int32} (h2 : s < 2) (hn : num < 2 ^ 31) :
    ∀ d i, i + d = hs s → post (cb_b (cb_all (fun i => decide (nI i = lo) || cb_mt co rs nv nb s num i) i d)) → wY_solves_3 post (nI s) (nI num) lo (nI nv) (nI nb) (nI (2 ^ nb)) (nI (2 ^ (nb * nv))) dl sz cf rt sn (d + 1) (nI i) := by
  have Z := R.2.1
  have h10 := (Z s h2).2
  intro d
  induction d with
  | zero =>
    intro i hi hp
    exact ⟨pk_in s 2 h2, br_t (by rw [cb_szc Z h2]; exact nI_le (by omega) (by omega)) hp⟩
  | succ d ih =>
    intro i hi hp
    refine ⟨pk_in s 2 h2, br_f (by rw [cb_szc Z h2]; exact nI_ge (by omega) (by omega)) (br_f (nI_ge (b := 10) (by omega) (by decide)) ?_)⟩
    have hp2 : post (cb_b ((decide (nI i = lo) || cb_mt co rs nv nb s num i) && cb_all (fun i => decide (nI i = lo) || cb_mt co rs nv nb s num i) (i + 1) d)) := hp
    by_cases e : nI i = lo
    · rw [decide_eq_true e, Bool.true_or, Bool.true_and] at hp2
      exact br_t e (nm_r (nI_1 i) (ih (i + 1) (by omega) hp2))
    · rw [decide_eq_false e, Bool.false_or] at hp2
      refine br_f e (cb_ym R h2 (by omega) hn ?_)
      cases m : cb_mt co rs nv nb s num i with
      | true =>
        rw [m, Bool.true_and] at hp2
        exact br_f (by decide) (nm_r (nI_1 i) (ih (i + 1) (by omega) hp2))
      | false =>
        rw [m, Bool.false_and] at hp2
        exact br_t rfl hp2
theorem cb_ys (R : cb_R nv nb co rs sz cf rt hs) {post : Int32 → Prop} {s num : Nat} {lo : Int32} (h2 : s < 2) (hn : num < 2 ^ 31) (hp : post (cb_b (cb_S co rs hs nv nb s num lo))) :
    wpY_solves post (cb_Y nv nb dl sz cf rt sn) (nI s) (nI num) lo := ⟨_, cb_ys3 R h2 hn (hs s) 0 (by omega) hp⟩
theorem cb_nb (b : Bool) : narrow .boolean (.int (cb_b b)) = .int (cb_b b) := by cases b <;> rfl
theorem cb_yn (R : cb_R nv nb co rs sz cf rt hs) {post : Int32 → Prop} {s num : Nat} (h2 : s < 2) (hn : num < 2 ^ 31) (hp : post (cb_b (cb_S co rs hs nv nb s num (-1)))) :
    wpY_solution post (cb_Y nv nb dl sz cf rt sn) (nI s) (nI num) := cb_ys (post := fun r => narrow .boolean (.int r) = .int r ∧ post r) R h2 hn ⟨cb_nb _, hp⟩
/-! by the answer -/
theorem cb_xs1 (R : cb_R nv nb co rs sz cf rt hs) {post : Int32 → Prop} {s num : Nat} {lo : Int32} (h2 : s < 2) (hn : num < 2 ^ 31) (hS : cb_S co rs hs nv nb s num lo = true) (hp : post 1) :
    wpX_solves post (cb_X nv nb dl co rs sz) (nI s) (nI num) lo := cb_xs R.1 R.2.1 h2 hn (by rw [hS]; exact hp)
theorem cb_xs0 (R : cb_R nv nb co rs sz cf rt hs) {post : Int32 → Prop} {s num : Nat} {lo : Int32} (h2 : s < 2) (hn : num < 2 ^ 31) (hS : cb_S co rs hs nv nb s num lo = false) (hp : post 0) :
    wpX_solves post (cb_X nv nb dl co rs sz) (nI s) (nI num) lo := cb_xs R.1 R.2.1 h2 hn (by rw [hS]; exact hp)
theorem cb_yn1 (R : cb_R nv nb co rs sz cf rt hs) {post : Int32 → Prop} {s num : Nat} (h2 : s < 2) (hn : num < 2 ^ 31) (hS : cb_S co rs hs nv nb s num (-1) = true) (hp : post 1) :
    wpY_solution post (cb_Y nv nb dl sz cf rt sn) (nI s) (nI num) := cb_yn R h2 hn (by rw [hS]; exact hp)
theorem cb_yn0 (R : cb_R nv nb co rs sz cf rt hs) {post : Int32 → Prop} {s num : Nat} (h2 : s < 2) (hn : num < 2 ^ 31) (hS : cb_S co rs hs nv nb s num (-1) = false) (hp : post 0) :
    wpY_solution post (cb_Y nv nb dl sz cf rt sn) (nI s) (nI num) := cb_yn R h2 hn (by rw [hS]; exact hp)
theorem cb_ys1 (R : cb_R nv nb co rs sz cf rt hs) {post : Int32 → Prop} {s num : Nat} {lo : Int32} (h2 : s < 2) (hn : num < 2 ^ 31) (hS : cb_S co rs hs nv nb s num lo = true) (hp : post 1) :
    wpY_solves post (cb_Y nv nb dl sz cf rt sn) (nI s) (nI num) lo := cb_ys R h2 hn (by rw [hS]; exact hp)
theorem cb_ys0 (R : cb_R nv nb co rs sz cf rt hs) {post : Int32 → Prop} {s num : Nat} {lo : Int32} (h2 : s < 2) (hn : num < 2 ^ 31) (hS : cb_S co rs hs nv nb s num lo = false) (hp : post 0) :
    wpY_solves post (cb_Y nv nb dl sz cf rt sn) (nI s) (nI num) lo := cb_ys R h2 hn (by rw [hS]; exact hp)
end
