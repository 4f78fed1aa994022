section
variable {nv nb : Nat} {dl co rs sz cf rt sn : Nat → Int32} {hs : Nat → Nat}
theorem cb_xcr2 {post : SX → Prop} {a b : Nat} (ha : a < 20) (hb : b < 20) (hp : post (cb_X nv nb dl (cb_cp co (4 * a) (4 * b) 4) (upd rs b (rs a)) sz)) : ∀ d v, v + d = 4 →
    wX_copyRow_2 post (nI a) (nI b) (nI nv) (nI nb) (nI (2 ^ nb - 1)) (nI (2 ^ (nb * nv))) (d + 1) (nI v) dl (cb_cp co (4 * a) (4 * b) v) rs sz := by
  intro d
  induction d with
  | zero =>
    intro v hv
    have e : v = 4 := by omega
    subst e
    exact br_t (nI_le (a := 4) (by omega) (by omega)) ⟨pk_in a 20 ha, pk_in b 20 hb, nm_r (by rw [nI_clamp (by omega), nI_clamp (by omega)]) hp⟩
  | succ d ih =>
    intro v hv
    refine br_f (nI_ge (b := 4) (by omega) (by omega)) ⟨pk_in (4 * a + v) 80 (by omega) (cb_r6 a v), pk_in (4 * b + v) 80 (by omega) (cb_r6 b v), nm_r ?_ (nm_r (nI_1 v) (ih (v + 1) (by omega)))⟩
    rw [cb_r6, cb_r6, nI_clamp (by omega), nI_clamp (by omega), cb_cpS (by omega)]
theorem cb_xcr {post : SX → Prop} {a b : Nat} (ha : a < 20) (hb : b < 20) (hp : post (cb_X nv nb dl (cb_cp co (4 * a) (4 * b) 4) (upd rs b (rs a)) sz)) : wpX_copyRow post (cb_X nv nb dl co rs sz) (nI a) (nI b) := by
  have := cb_xcr2 ha hb hp 4 0 (by omega)
  rw [cb_cp0] at this
  exact ⟨_, this⟩
/-! drop -/
theorem cb_xdrop {post : Int32 → SX → Prop} {s i h : Nat} (h2 : s < 2) (h10 : h ≤ 10) (hi : i < h) (hz : sz s = nI h)
    (hp : post (nI (h - 1)) (cb_X nv nb dl (cb_cp co (40 * s + 4 * i + 4) (40 * s + 4 * i) (4 * (h - 1 - i))) (cb_cp rs (10 * s + i + 1) (10 * s + i) (h - 1 - i)) (upd sz s (nI (h - 1))))) :
    ∀ d k co' rs', i + k + d = h - 1 → co' = cb_cp co (40 * s + 4 * i + 4) (40 * s + 4 * i) (4 * k) → rs' = cb_cp rs (10 * s + i + 1) (10 * s + i) k →
    wX_drop_41 post (nI s) (nI (10 * s + (h - 1))) (d + 1) (nI (10 * s + i + k)) (nI nv) (nI nb) (nI (2 ^ nb - 1)) (nI (2 ^ (nb * nv))) dl co' rs' sz := by
  have c1 : (nI s).toNatClampNeg = s := nI_clamp (by omega)
  intro d
  induction d with
  | zero =>
    intro k co' rs' hk ec er
    have e : k = h - 1 - i := by omega
    subst ec er e
    refine br_t (nI_le (by omega) (by omega)) ⟨pk_in s 2 h2, pk_in s 2 h2, nm_r (e' := upd sz s (nI (h - 1))) (by rw [c1, hz]; exact congrArg (upd sz s) (pk_sub (b := 1) (by omega))) ⟨pk_in s 2 h2, ?_⟩⟩
    rw [c1, pk_us]
    exact hp
  | succ d ih =>
    intro k co' rs' hk ec er
    refine br_f (nI_ge (by omega) (by omega)) ?_
    rw [nI_1 (10 * s + i + k)]
    refine cb_xcr (by omega) (by omega) ?_
    refine nm_e (ih (k + 1) _ _ (by omega) ?_ ?_)
    · rw [ec, show 4 * (10 * s + i + k + 1) = 40 * s + 4 * i + 4 + 4 * k by omega, show 4 * (10 * s + i + k) = 40 * s + 4 * i + 4 * k by omega, cb_cpA 4 (by omega)]
      rfl
    · rw [er, show 10 * s + i + k + 1 = 10 * s + i + 1 + k by omega, cb_cpS (by omega)]
theorem cb_ydrop44 {post : Int32 → SY → Prop} {J : Int32 → (Nat → Int32) → (Nat → Int32) → (Nat → Int32) → (Nat → Int32) → (Nat → Int32) → Prop} {s j : Nat} (h2 : s < 2) (hj : j < 9)
    (hp : J (nI (j + 1)) dl sz (cb_cp cf (40 * s + 4 * (j + 1)) (40 * s + 4 * j) 4) (upd rt (10 * s + j) (rt (10 * s + j + 1))) sn) : ∀ d v, v + d = 4 →
    wY_drop_44 post J (nI s) (nI j) (nI nv) (nI nb) (nI (2 ^ nb)) (nI (2 ^ (nb * nv))) (d + 1) (nI v) dl sz (cb_cp cf (40 * s + 4 * (j + 1)) (40 * s + 4 * j) v) rt sn := by
  have e1 : 10 * nI s + nI j + 1 = nI (10 * s + j + 1) := by rw [cb_r2, nI_1]
  intro d
  induction d with
  | zero =>
    intro v hv
    have e : v = 4 := by omega
    subst e
    exact br_t (nI_le (a := 4) (by omega) (by omega)) ⟨pk_in (10 * s + j + 1) 20 (by omega) e1, pk_in (10 * s + j) 20 (by omega) (cb_r2 s j),
      nm_r (by rw [e1, cb_r2, nI_clamp (by omega), nI_clamp (by omega)]) (nm_r (nI_1 j) hp)⟩
  | succ d ih =>
    intro v hv
    have e2 : 40 * nI s + 4 * (nI j + 1) + nI v = nI (40 * s + 4 * (j + 1) + v) := by rw [nI_1, cb_r4]
    refine br_f (nI_ge (b := 4) (by omega) (by omega)) ⟨pk_in (40 * s + 4 * (j + 1) + v) 80 (by omega) e2, pk_in (40 * s + 4 * j + v) 80 (by omega) (cb_r4 s j v), nm_r ?_ (nm_r (nI_1 v) (ih (v + 1) (by omega)))⟩
    rw [e2, cb_r4, nI_clamp (by omega), nI_clamp (by omega), cb_cpS (by omega)]
theorem cb_ydrop {post : Int32 → SY → Prop} {s i h : Nat} (h2 : s < 2) (h10 : h ≤ 10) (hi : i < h) (hz : sz s = nI h)
    (hp : post (nI (h - 1)) (cb_Y nv nb dl (upd sz s (nI (h - 1))) (cb_cp cf (40 * s + 4 * i + 4) (40 * s + 4 * i) (4 * (9 - i))) (cb_cp rt (10 * s + i + 1) (10 * s + i) (9 - i)) sn)) :
    ∀ d k cf' rt', i + k + d = 9 → cf' = cb_cp cf (40 * s + 4 * i + 4) (40 * s + 4 * i) (4 * k) → rt' = cb_cp rt (10 * s + i + 1) (10 * s + i) k →
    wY_drop_35 post (nI s) (nI nv) (nI nb) (nI (2 ^ nb)) (nI (2 ^ (nb * nv))) (d + 1) (nI (i + k)) dl sz cf' rt' sn := by
  have c1 : (nI s).toNatClampNeg = s := nI_clamp (by omega)
  intro d
  induction d with
  | zero =>
    intro k cf' rt' hk ec er
    have e : k = 9 - i := by omega
    subst ec er e
    refine br_t (nI_le (a := 9) (by omega) (by omega)) ⟨pk_in s 2 h2, pk_in s 2 h2, nm_r (e' := upd sz s (nI (h - 1))) (by rw [c1, hz]; exact congrArg (upd sz s) (pk_sub (b := 1) (by omega))) ⟨pk_in s 2 h2, ?_⟩⟩
    rw [c1, pk_us]
    exact hp
  | succ d ih =>
    intro k cf' rt' hk ec er
    refine br_f (nI_ge (b := 9) (by omega) (by omega)) ⟨5, ?_⟩
    have key := cb_ydrop44 (nv := nv) (nb := nb) (dl := dl) (sz := sz) (cf := cf') (rt := rt') (sn := sn) (post := post) (J := wY_drop_35 post (nI s) (nI nv) (nI nb) (nI (2 ^ nb)) (nI (2 ^ (nb * nv))) (d + 1)) (s := s) (j := i + k) h2 (by omega)
      (ih (k + 1) _ _ (by omega)
        (by rw [ec, show 40 * s + 4 * (i + k + 1) = 40 * s + 4 * i + 4 + 4 * k by omega, show 40 * s + 4 * (i + k) = 40 * s + 4 * i + 4 * k by omega, cb_cpA 4 (by omega)]; rfl)
        (by rw [er, show 10 * s + (i + k) + 1 = 10 * s + i + 1 + k by omega, show 10 * s + (i + k) = 10 * s + i + k by omega, cb_cpS (by omega)])) 4 0 (by omega)
    rw [cb_cp0] at key
    exact key
theorem cb_Rdrop (R : cb_R nv nb co rs sz cf rt hs) {s i h : Nat} (h2 : s < 2) (hi : i < h) (hh : hs s = h) :
    cb_R nv nb (cb_cp co (40 * s + 4 * i + 4) (40 * s + 4 * i) (4 * (h - 1 - i))) (cb_cp rs (10 * s + i + 1) (10 * s + i) (h - 1 - i)) (upd sz s (nI (h - 1)))
      (cb_cp cf (40 * s + 4 * i + 4) (40 * s + 4 * i) (4 * (9 - i))) (cb_cp rt (10 * s + i + 1) (10 * s + i) (9 - i)) (fun t => if t = s then h - 1 else hs t) := by
  have h10 := (R.2.1 s h2).2
  refine ⟨R.1, cb_szU R.2.1 (by omega), fun t j ht hj => ?_⟩
  have t10 := (R.2.1 t ht).2
  by_cases et : t = s
  · subst et
    simp only [if_true] at hj
    by_cases hji : j < i
    · obtain ⟨a, b⟩ := R.2.2 t j ht (by omega)
      refine ⟨fun v hv => ?_, ?_⟩
      · rw [cb_cpo (by omega), cb_cpo (by omega)]
        exact a v hv
      · rw [cb_cpo (by omega), cb_cpo (by omega)]
        exact b
    · obtain ⟨a, b⟩ := R.2.2 t (j + 1) ht (by omega)
      refine ⟨fun v hv => ?_, ?_⟩
      · rw [cb_cpi (by omega) (by omega), cb_cpi (by omega) (by omega), show 40 * t + 4 * i + 4 + (40 * t + 4 * j + v - (40 * t + 4 * i)) = 40 * t + 4 * (j + 1) + v by omega]
        exact a v hv
      · rw [cb_cpi (by omega) (by omega), cb_cpi (by omega) (by omega), show 10 * t + i + 1 + (10 * t + j - (10 * t + i)) = 10 * t + (j + 1) by omega]
        exact b
  · simp only [if_neg et] at hj
    obtain ⟨a, b⟩ := R.2.2 t j ht hj
    refine ⟨fun v hv => ?_, ?_⟩
    · rw [cb_cpo (by omega), cb_cpo (by omega)]
      exact a v hv
    · rw [cb_cpo (by omega), cb_cpo (by omega)]
      exact b
/-! copy -/
theorem cb_xcopy {post : Int32 → SX → Prop} {s h : Nat} (h2 : s < 2) (h10 : h ≤ 10) (hz : sz s = nI h)
    (hp : post (nI h) (cb_X nv nb dl (cb_cp co (40 * s) (40 * (1 - s)) (4 * h)) (cb_cp rs (10 * s) (10 * (1 - s)) h) (upd sz (1 - s) (nI h)))) :
    ∀ d k co' rs', k + d = h → co' = cb_cp co (40 * s) (40 * (1 - s)) (4 * k) → rs' = cb_cp rs (10 * s) (10 * (1 - s)) k →
    wX_copy_26 post (nI s) (nI (10 * s)) (nI (10 * (1 - s))) (d + 1) (nI k) (nI nv) (nI nb) (nI (2 ^ nb - 1)) (nI (2 ^ (nb * nv))) dl co' rs' sz := by
  have c1 : (nI s).toNatClampNeg = s := nI_clamp (by omega)
  have c2 : (nI (1 - s)).toNatClampNeg = 1 - s := nI_clamp (by omega)
  intro d
  induction d with
  | zero =>
    intro k co' rs' hk ec er
    have e : k = h := by omega
    subst ec er e
    refine ⟨pk_in s 2 h2, br_t (by rw [c1, hz]; exact nI_le (by omega) (by omega)) ⟨pk_in s 2 h2, pk_in (1 - s) 2 (by omega) (cb_1s h2), nm_r (e' := upd sz (1 - s) (nI k)) (by rw [c1, cb_1s h2, c2, hz]) ⟨pk_in s 2 h2, ?_⟩⟩⟩
    rw [c1, pk_un (by omega), hz]
    exact hp
  | succ d ih =>
    intro k co' rs' hk ec er
    refine ⟨pk_in s 2 h2, br_f (by rw [c1, hz]; exact nI_ge (by omega) (by omega)) ?_⟩
    rw [nI_add, nI_add]
    refine cb_xcr (by omega) (by omega) ?_
    refine nm_r (nI_1 k) (ih (k + 1) _ _ (by omega) ?_ ?_)
    · rw [ec, show 4 * (10 * s + k) = 40 * s + 4 * k by omega, show 4 * (10 * (1 - s) + k) = 40 * (1 - s) + 4 * k by omega, cb_cpA 4 (by omega)]
      rfl
    · rw [er, cb_cpS (by omega)]
theorem cb_ycopy52 {post : Int32 → SY → Prop} {s h : Nat} (h2 : s < 2) (hz : sz s = nI h)
    (hp : post (nI h) (cb_Y nv nb dl (upd sz (1 - s) (nI h)) cf (cb_cp rt (10 * s) (10 * (1 - s)) 10) sn)) : ∀ d k, k + d = 10 →
    wY_copy_52 post (nI s) (nI (1 - s)) (nI nv) (nI nb) (nI (2 ^ nb)) (nI (2 ^ (nb * nv))) (d + 1) (nI k) dl sz cf (cb_cp rt (10 * s) (10 * (1 - s)) k) sn := by
  have c1 : (nI s).toNatClampNeg = s := nI_clamp (by omega)
  have c2 : (nI (1 - s)).toNatClampNeg = 1 - s := nI_clamp (by omega)
  intro d
  induction d with
  | zero =>
    intro k hk
    have e : k = 10 := by omega
    subst e
    refine br_t (nI_le (a := 10) (by omega) (by omega)) ⟨pk_in s 2 h2, pk_in (1 - s) 2 (by omega), nm_r (e' := upd sz (1 - s) (nI h)) (by rw [c1, c2, hz]) ⟨pk_in s 2 h2, ?_⟩⟩
    rw [c1, pk_un (by omega), hz]
    exact hp
  | succ d ih =>
    intro k hk
    refine br_f (nI_ge (b := 10) (by omega) (by omega)) ⟨pk_in (10 * s + k) 20 (by omega) (cb_r2 s k), pk_in (10 * (1 - s) + k) 20 (by omega) (cb_r2 (1 - s) k), nm_r ?_ (nm_r (nI_1 k) (ih (k + 1) (by omega)))⟩
    rw [cb_r2, cb_r2, nI_clamp (by omega), nI_clamp (by omega), cb_cpS (by omega)]
theorem cb_r7 (s k : Nat) : 40 * nI s + nI k = nI (40 * s + k) := by
  show nI 40 * nI s + nI k = _
  rw [pk_mul, nI_add]
theorem cb_ycopy {post : Int32 → SY → Prop} {s h : Nat} (h2 : s < 2) (hz : sz s = nI h)
    (hp : post (nI h) (cb_Y nv nb dl (upd sz (1 - s) (nI h)) (cb_cp cf (40 * s) (40 * (1 - s)) 40) (cb_cp rt (10 * s) (10 * (1 - s)) 10) sn)) : ∀ d k, k + d = 40 →
    wY_copy_16 post (nI s) (nI (1 - s)) (nI nv) (nI nb) (nI (2 ^ nb)) (nI (2 ^ (nb * nv))) (d + 1) (nI k) dl sz (cb_cp cf (40 * s) (40 * (1 - s)) k) rt sn := by
  intro d
  induction d with
  | zero =>
    intro k hk
    have e : k = 40 := by omega
    subst e
    have key := cb_ycopy52 h2 hz hp 10 0 (by omega)
    rw [cb_cp0] at key
    exact br_t (nI_le (a := 40) (by omega) (by omega)) ⟨_, key⟩
  | succ d ih =>
    intro k hk
    refine br_f (nI_ge (b := 40) (by omega) (by omega)) ⟨pk_in (40 * s + k) 80 (by omega) (cb_r7 s k), pk_in (40 * (1 - s) + k) 80 (by omega) (cb_r7 (1 - s) k), nm_r ?_ (nm_r (nI_1 k) (ih (k + 1) (by omega)))⟩
    rw [cb_r7, cb_r7, nI_clamp (by omega), nI_clamp (by omega), cb_cpS (by omega)]
theorem cb_Rcopy (R : cb_R nv nb co rs sz cf rt hs) {s h : Nat} (h2 : s < 2) (hh : hs s = h) :
    cb_R nv nb (cb_cp co (40 * s) (40 * (1 - s)) (4 * h)) (cb_cp rs (10 * s) (10 * (1 - s)) h) (upd sz (1 - s) (nI h))
      (cb_cp cf (40 * s) (40 * (1 - s)) 40) (cb_cp rt (10 * s) (10 * (1 - s)) 10) (fun t => if t = 1 - s then h else hs t) := by
  have h10 := (R.2.1 s h2).2
  refine ⟨R.1, cb_szU R.2.1 (by omega), fun t j ht hj => ?_⟩
  have t10 := (R.2.1 t ht).2
  by_cases et : t = 1 - s
  · subst et
    simp only [if_true] at hj
    obtain ⟨a, b⟩ := R.2.2 s j h2 (by omega)
    refine ⟨fun v hv => ?_, ?_⟩
    · rw [cb_cpi (by omega) (by omega), cb_cpi (by omega) (by omega), show 40 * s + (40 * (1 - s) + 4 * j + v - 40 * (1 - s)) = 40 * s + 4 * j + v by omega]
      exact a v hv
    · rw [cb_cpi (by omega) (by omega), cb_cpi (by omega) (by omega), show 10 * s + (10 * (1 - s) + j - 10 * (1 - s)) = 10 * s + j by omega]
      exact b
  · simp only [if_neg et] at hj
    obtain ⟨a, b⟩ := R.2.2 t j ht hj
    refine ⟨fun v hv => ?_, ?_⟩
    · rw [cb_cpo (by omega), cb_cpo (by omega)]
      exact a v hv
    · rw [cb_cpo (by omega), cb_cpo (by omega)]
      exact b
end
