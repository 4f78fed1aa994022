section
variable {nv nb : Nat} {dl co rs sz cf rt sn : Nat → Int32} {hs : Nat → Nat}
/-! arrays after a copy of w cells from F on to T on -/
def cb_cp (f : Nat → Int32) (F T w : Nat) : Nat → Int32 := fun j => if T ≤ j ∧ j < T + w then f (F + (j - T)) else f j
theorem cb_cpi {f : Nat → Int32} {F T w j : Nat} (h1 : T ≤ j) (h2 : j < T + w) : cb_cp f F T w j = f (F + (j - T)) := if_pos ⟨h1, h2⟩
theorem cb_cpo {f : Nat → Int32} {F T w j : Nat} (h : j < T ∨ T + w ≤ j) : cb_cp f F T w j = f j := if_neg (by omega)
theorem cb_cp0 {f : Nat → Int32} {F T : Nat} : cb_cp f F T 0 = f := funext fun j => cb_cpo (by omega)
theorem cb_cpS {f : Nat → Int32} {F T w : Nat} (h : F + w < T ∨ T ≤ F) : upd (cb_cp f F T w) (T + w) (cb_cp f F T w (F + w)) = cb_cp f F T (w + 1) := by
  funext j
  by_cases e : j = T + w
  · subst e
    rw [pk_us, cb_cpo (by omega), cb_cpi (by omega) (by omega)]
    exact congrArg f (by omega)
  · rw [pk_un e]
    by_cases h3 : T ≤ j ∧ j < T + w
    · rw [cb_cpi h3.1 h3.2, cb_cpi h3.1 (by omega)]
    · rw [cb_cpo (by omega), cb_cpo (by omega)]
theorem cb_cpA {f : Nat → Int32} {F T w : Nat} : ∀ k, (F + (w + k) ≤ T ∨ T ≤ F) → cb_cp (cb_cp f F T w) (F + w) (T + w) k = cb_cp f F T (w + k) := by
  intro k
  induction k with
  | zero => intro _; exact cb_cp0
  | succ k ih =>
    intro h
    rw [← cb_cpS (by omega), ih (by omega), Nat.add_assoc F, Nat.add_assoc T, cb_cpS (by omega)]
    rfl
def cb_st (g f : Nat → Int32) (T w : Nat) : Nat → Int32 := fun j => if T ≤ j ∧ j < T + w then g (j - T) else f j
theorem cb_sti {g f : Nat → Int32} {T w j : Nat} (h1 : T ≤ j) (h2 : j < T + w) : cb_st g f T w j = g (j - T) := if_pos ⟨h1, h2⟩
theorem cb_sto {g f : Nat → Int32} {T w j : Nat} (h : j < T ∨ T + w ≤ j) : cb_st g f T w j = f j := if_neg (by omega)
theorem cb_st0 {g f : Nat → Int32} {T : Nat} : cb_st g f T 0 = f := funext fun j => cb_sto (by omega)
theorem cb_stS {g f : Nat → Int32} {T w : Nat} : upd (cb_st g f T w) (T + w) (g w) = cb_st g f T (w + 1) := by
  funext j
  by_cases e : j = T + w
  · subst e
    rw [pk_us, cb_sti (by omega) (by omega)]
    exact congrArg g (by omega)
  · rw [pk_un e]
    by_cases h3 : T ≤ j ∧ j < T + w
    · rw [cb_sti h3.1 h3.2, cb_sti h3.1 (by omega)]
    · rw [cb_sto (by omega), cb_sto (by omega)]
theorem cb_r5 (s i v : Nat) : nI (10 * s + i) * 4 + nI v = nI (40 * s + 4 * i + v) := by rw [cb_r3, nI_add]
theorem cb_r6 (a v : Nat) : nI a * 4 + nI v = nI (4 * a + v) := by
  show nI a * nI 4 + nI v = _
  rw [pk_mul, nI_add, Nat.mul_comm]
/-! add -/
theorem cb_xadd {post : Int32 → SX → Prop} {s i : Nat} {q : Int32} (h2 : s < 2) (hi : i < 10) (hz : sz s = nI i)
    (hp : post (nI (i + 1)) (cb_X nv nb dl (cb_st dl co (40 * s + 4 * i) 4) (upd rs (10 * s + i) (q &&& nI (2 ^ nb - 1))) (upd sz s (nI (i + 1))))) : ∀ d v, v + d = 4 →
    wX_add_37 post (nI s) q (nI (10 * s + i)) (nI nv) (nI nb) (nI (2 ^ nb - 1)) (nI (2 ^ (nb * nv))) (d + 1) (nI v) dl (cb_st dl co (40 * s + 4 * i) v) rs sz := by
  have c1 : (nI s).toNatClampNeg = s := nI_clamp (by omega)
  have c2 : (nI (10 * s + i)).toNatClampNeg = 10 * s + i := nI_clamp (by omega)
  intro d
  induction d with
  | zero =>
    intro v hv
    have e : v = 4 := by omega
    subst e
    refine br_t (nI_le (a := 4) (by omega) (by omega)) ?_
    refine (show wpX_reduced _ (cb_X nv nb dl (cb_st dl co (40 * s + 4 * i) 4) rs sz) q from ?_)
    refine ⟨pk_in (10 * s + i) 20 (by omega), nm_r (by rw [c2]) ⟨pk_in s 2 h2, pk_in s 2 h2, nm_r (e' := upd sz s (nI (i + 1))) (by rw [c1, hz, nI_1]) ⟨pk_in s 2 h2, ?_⟩⟩⟩
    rw [c1, pk_us]
    exact hp
  | succ d ih =>
    intro v hv
    refine br_f (nI_ge (b := 4) (by omega) (by omega)) ⟨pk_in v 4 (by omega), pk_in (40 * s + 4 * i + v) 80 (by omega) (cb_r5 s i v), nm_r ?_ (nm_r (nI_1 v) (ih (v + 1) (by omega)))⟩
    rw [cb_r5, nI_clamp (by omega), nI_clamp (by omega), cb_stS]
theorem cb_yadd {post : Int32 → SY → Prop} {s i : Nat} {q : Int32} (h2 : s < 2) (hi : i < 10)
    (hp : post (nI (i + 1)) (cb_Y nv nb dl (upd sz s (nI (i + 1))) (cb_st dl cf (40 * s + 4 * i) 4) (upd rt (10 * s + i) (q &&& nI (2 ^ nb - 1))) sn)) : ∀ d v, v + d = 4 →
    wY_add_29 post (nI s) q (nI i) (nI nv) (nI nb) (nI (2 ^ nb)) (nI (2 ^ (nb * nv))) (d + 1) (nI v) dl sz (cb_st dl cf (40 * s + 4 * i) v) rt sn := by
  have c1 : (nI s).toNatClampNeg = s := nI_clamp (by omega)
  have c2 : (nI (10 * s + i)).toNatClampNeg = 10 * s + i := nI_clamp (by omega)
  intro d
  induction d with
  | zero =>
    intro v hv
    have e : v = 4 := by omega
    subst e
    refine br_t (nI_le (a := 4) (by omega) (by omega)) (cb_yr ?_)
    refine ⟨pk_in (10 * s + i) 20 (by omega) (cb_r2 s i), nm_r (by rw [cb_r2, c2]) ⟨pk_in s 2 h2, nm_r (e' := upd sz s (nI (i + 1))) (by rw [c1, nI_1]) ?_⟩⟩
    rw [nI_1]
    exact hp
  | succ d ih =>
    intro v hv
    refine br_f (nI_ge (b := 4) (by omega) (by omega)) ⟨pk_in v 4 (by omega), pk_in (40 * s + 4 * i + v) 80 (by omega) (cb_r4 s i v), nm_r ?_ (nm_r (nI_1 v) (ih (v + 1) (by omega)))⟩
    rw [cb_r4, nI_clamp (by omega), nI_clamp (by omega), cb_stS]
theorem cb_szU {s i : Nat} (Z : cb_sz sz hs) (hi : i ≤ 10) : cb_sz (upd sz s (nI i)) (fun t => if t = s then i else hs t) := by
  intro t ht
  by_cases e : t = s
  · subst e
    rw [pk_us]
    simp only [if_true]
    exact ⟨trivial, hi⟩
  · rw [pk_un e]
    simp only [if_neg e]
    exact Z t ht
theorem cb_Radd (R : cb_R nv nb co rs sz cf rt hs) {s i : Nat} {q : Int32} (h2 : s < 2) (hi : i < 10) (hh : hs s = i) :
    cb_R nv nb (cb_st dl co (40 * s + 4 * i) 4) (upd rs (10 * s + i) q) (upd sz s (nI (i + 1))) (cb_st dl cf (40 * s + 4 * i) 4) (upd rt (10 * s + i) q) (fun t => if t = s then i + 1 else hs t) := by
  refine ⟨R.1, cb_szU R.2.1 (by omega), fun t j ht hj => ?_⟩
  by_cases e : t = s ∧ j = i
  · obtain ⟨rfl, rfl⟩ := e
    refine ⟨fun v hv => ?_, ?_⟩
    · rw [cb_sti (by omega) (by omega), cb_sti (by omega) (by omega)]
    · rw [pk_us, pk_us]
  · have hj2 : j < hs t := by
      by_cases et : t = s
      · subst et
        simp only [if_true] at hj
        omega
      · simp only [if_neg et] at hj
        exact hj
    have h10 := (R.2.1 t ht).2
    obtain ⟨a, b⟩ := R.2.2 t j ht hj2
    refine ⟨fun v hv => ?_, ?_⟩
    · rw [cb_sto (by omega), cb_sto (by omega)]
      exact a v hv
    · rw [pk_un (by omega), pk_un (by omega)]
      exact b
end
