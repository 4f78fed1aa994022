section
/-! rows of kit/rows (PURE-ROWS, BITS), pasted -/
theorem pk_us {f : Nat → Int32} {k : Nat} {x : Int32} : upd f k x k = x := if_pos rfl
theorem pk_un {f : Nat → Int32} {k j : Nat} {x : Int32} (h : j ≠ k) : upd f k x j = f j := if_neg h
theorem pk_sub {a b : Nat} (h : b ≤ a) : nI a - nI b = nI (a - b) := by
  obtain ⟨c, rfl⟩ : ∃ c, a = c + b := ⟨a - b, by omega⟩
  rw [← nI_add, Int32.add_sub_cancel, Nat.add_sub_cancel]
theorem pk_m1 (n : Nat) : nI (n + 1) + (-1) = nI n := by
  rw [← nI_1, Int32.add_assoc, show (1 : Int32) + (-1) = 0 from rfl, Int32.add_zero]
theorem pk_mul (a b : Nat) : nI a * nI b = nI (a * b) := (Int32.ofNat_mul a b).symm
theorem pk_ix (x : Int32) {n : Nat} (hn : n < 2 ^ 31) : x < 0 ∨ nI n ≤ x ∨ ∃ j : Nat, j < n ∧ x = nI j := by
  by_cases h : x < 0
  · exact Or.inl h
  · obtain ⟨j, hj, rfl⟩ := nI_of h
    by_cases h2 : j < n
    · exact Or.inr (Or.inr ⟨j, h2, rfl⟩)
    · exact Or.inr (Or.inl (nI_le (by omega) hj))
theorem pk_in {x : Int32} (n N : Nat) (h : n < N) (hx : x = nI n := by rfl) (hN : N < 2 ^ 31 := by omega) : vp_in x N := by
  subst hx
  exact vp_in_nI h hN
theorem pk_cl {x : Int32} (n : Nat) (hx : x = nI n := by rfl) (h : n < 2 ^ 31 := by omega) : x.toNatClampNeg = n := by
  subst hx
  exact nI_clamp h
theorem pk_tn {n : Nat} (h : n < 2 ^ 32) : (nI n).toBitVec.toNat = n := Nat.mod_eq_of_lt h
theorem pk_and (x : Int32) {m : Int32} (k : Nat) (hm : m.toBitVec.toNat = 2 ^ k - 1) : x &&& m = nI (x.toBitVec.toNat % 2 ^ k) := by
  apply Int32.toBitVec_inj.mp
  apply BitVec.eq_of_toNat_eq
  rw [Int32.toBitVec_and, BitVec.toNat_and, hm, Nat.and_two_pow_sub_one_eq_mod]
  show _ = (BitVec.ofNat 32 _).toNat
  rw [BitVec.toNat_ofNat]
  exact (Nat.mod_eq_of_lt (Nat.lt_of_le_of_lt (Nat.mod_le _ _) x.toBitVec.isLt)).symm
theorem pk_andN {n : Nat} (h : n < 2 ^ 32) {m : Int32} (k : Nat) (hm : m.toBitVec.toNat = 2 ^ k - 1) : nI n &&& m = nI (n % 2 ^ k) := by
  rw [pk_and _ k hm, pk_tn h]
theorem pk_andE (x : Int32) {m : Int32} (k : Nat) (hm : m.toBitVec.toNat = 2 ^ k - 1) : ∃ j : Nat, j < 2 ^ k ∧ x &&& m = nI j := ⟨_, Nat.mod_lt _ (Nat.two_pow_pos k), pk_and x k hm⟩
theorem pk_shl (a s : Int32) (k : Nat) (hs : (s.toBitVec.smod 32).toNat = k) : (a <<< s).toBitVec.toNat = a.toBitVec.toNat * 2 ^ k % 2 ^ 32 := by
  show (a.toBitVec <<< (s.toBitVec.smod 32).toNat).toNat = _
  rw [hs, BitVec.toNat_shiftLeft, Nat.shiftLeft_eq]
theorem pk_shlN {n : Nat} (s : Int32) (k : Nat) (hs : (s.toBitVec.smod 32).toNat = k) (h : n * 2 ^ k < 2 ^ 32) : nI n <<< s = nI (n * 2 ^ k) := by
  apply Int32.toBitVec_inj.mp
  apply BitVec.eq_of_toNat_eq
  have hn : n < 2 ^ 32 := Nat.lt_of_le_of_lt (Nat.le_mul_of_pos_right n (Nat.two_pow_pos k)) h
  rw [pk_shl _ _ k hs, pk_tn hn, pk_tn h, Nat.mod_eq_of_lt h]
theorem pk_shr (a s : Int32) (k : Nat) (hs : (s.toBitVec.smod 32).toNat = k) : (a >>> s).toInt = a.toInt >>> k := by
  show (a.toBitVec.sshiftRight (s.toBitVec.smod 32).toNat).toInt = _
  rw [hs, BitVec.toInt_sshiftRight]
  rfl
theorem pk_shrN {n : Nat} (h : n < 2 ^ 31) (s : Int32) (k : Nat) (hs : (s.toBitVec.smod 32).toNat = k) : nI n >>> s = nI (n / 2 ^ k) := by
  apply Int32.toInt_inj.mp
  have h2 : n / 2 ^ k ≤ n := Nat.div_le_self _ _
  rw [pk_shr _ _ k hs, nI_toInt h, nI_toInt (by omega), Int.shiftRight_eq_div_pow]
  rfl
theorem s_l : ∀ n, n < 32 → ((nI n &&& 31).toBitVec.smod 32).toNat = n := by decide +kernel
theorem nx_and (a b : Nat) : nI a &&& nI b = nI (a &&& b) := by
  apply Int32.toBitVec_inj.1
  show BitVec.ofNat 32 a &&& BitVec.ofNat 32 b = BitVec.ofNat 32 (a &&& b)
  apply BitVec.eq_of_getLsbD_eq
  intro i hi
  simp [hi]
theorem nx_xor (a b : Nat) : nI a ^^^ nI b = nI (a ^^^ b) := by
  apply Int32.toBitVec_inj.1
  show BitVec.ofNat 32 a ^^^ BitVec.ofNat 32 b = BitVec.ofNat 32 (a ^^^ b)
  apply BitVec.eq_of_getLsbD_eq
  intro i hi
  simp [hi]
/-! the two states -/
abbrev cb_X (nv nb : Nat) (dl co rs sz : Nat → Int32) : SX := (nI nv, nI nb, nI (2 ^ nb - 1), nI (2 ^ (nb * nv)), dl, co, rs, sz)
abbrev cb_Y (nv nb : Nat) (dl sz cf rt sn : Nat → Int32) : SY := (nI nv, nI nb, nI (2 ^ nb), nI (2 ^ (nb * nv)), dl, sz, cf, rt, sn)
/-- how many unknowns, how many bits -/
def cb_ok (nv nb : Nat) : Prop := 1 ≤ nv ∧ nv ≤ 4 ∧ 1 ≤ nb ∧ nb ≤ 4 ∧ nb * nv ≤ 9
/-- the sizes of the two systems -/
def cb_sz (sz : Nat → Int32) (hs : Nat → Nat) : Prop := ∀ s, s < 2 → sz s = nI (hs s) ∧ hs s ≤ 10
/-- both sides hold the same congruences, below the sizes -/
def cb_ag (hs : Nat → Nat) (co rs cf rt : Nat → Int32) : Prop :=
  ∀ s i, s < 2 → i < hs s → (∀ v, v < 4 → cf (40 * s + 4 * i + v) = co (40 * s + 4 * i + v)) ∧ rt (10 * s + i) = rs (10 * s + i)
def cb_R (nv nb : Nat) (co rs sz cf rt : Nat → Int32) (hs : Nat → Nat) : Prop := cb_ok nv nb ∧ cb_sz sz hs ∧ cb_ag hs co rs cf rt
def i_Rel (_ : Nat) (u : SX) (v : SY) : Prop :=
  ∃ (nv nb : Nat) (dl co rs sz cf rt sn : Nat → Int32) (hs : Nat → Nat), u = cb_X nv nb dl co rs sz ∧ v = cb_Y nv nb dl sz cf rt sn ∧ cb_R nv nb co rs sz cf rt hs
theorem i_up {k : Nat} {u : SX} {v : SY} (h : i_Rel k u v) : i_Rel (k + 3) u v := h
theorem cb_i {k nv nb : Nat} {dl co rs sz cf rt sn : Nat → Int32} {hs : Nat → Nat} (R : cb_R nv nb co rs sz cf rt hs) : i_Rel k (cb_X nv nb dl co rs sz) (cb_Y nv nb dl sz cf rt sn) :=
  ⟨nv, nb, dl, co, rs, sz, cf, rt, sn, hs, rfl, rfl, R⟩
section
variable {nv nb : Nat} {dl co rs sz cf rt sn : Nat → Int32} {hs : Nat → Nat}
theorem cb_pA (ok : cb_ok nv nb) : 2 ^ (nb * nv) ≤ 512 := Nat.pow_le_pow_right (n := 2) (by decide) ok.2.2.2.2
theorem cb_pA0 : 0 < 2 ^ (nb * nv) := Nat.two_pow_pos _
theorem cb_pM (ok : cb_ok nv nb) : 2 ^ nb ≤ 16 := Nat.pow_le_pow_right (n := 2) (by decide) ok.2.2.2.1
theorem cb_pM0 : 0 < 2 ^ nb := Nat.two_pow_pos _
theorem cb_nbv (ok : cb_ok nv nb) {v : Nat} (h : v ≤ 4) : nb * v ≤ 16 := Nat.mul_le_mul ok.2.2.2.1 h
theorem cb_pV (ok : cb_ok nv nb) {v : Nat} (h : v ≤ 4) : 2 ^ (nb * v) ≤ 65536 := Nat.pow_le_pow_right (n := 2) (by decide) (cb_nbv ok h)
theorem cb_mk : nI (2 ^ nb) - 1 = nI (2 ^ nb - 1) := pk_sub (a := 2 ^ nb) (b := 1) (Nat.two_pow_pos nb)
theorem cb_mtn (ok : cb_ok nv nb) : (nI (2 ^ nb - 1)).toBitVec.toNat = 2 ^ nb - 1 := pk_tn (by have := cb_pM ok; omega)
theorem cb_and (ok : cb_ok nv nb) {num : Nat} (h : num < 2 ^ 31) : nI num &&& nI (2 ^ nb - 1) = nI (num % 2 ^ nb) :=
  pk_andN (by omega) nb (cb_mtn ok)
def cb_dg (nb num v : Nat) : Nat := num / 2 ^ (nb * v) % 2 ^ nb
theorem cb_dg_lt {num v : Nat} : cb_dg nb num v < 2 ^ nb := Nat.mod_lt _ (Nat.two_pow_pos nb)
theorem cb_xdg (ok : cb_ok nv nb) {num v : Nat} (hv : v ≤ 4) (h : num < 2 ^ 31) : (nI num >>> ((nI nb * nI v) &&& 31)) &&& nI (2 ^ nb - 1) = nI (cb_dg nb num v) := by
  rw [pk_mul, pk_shrN h _ (nb * v) (s_l _ (by have := cb_nbv ok hv; omega)), cb_and ok (Nat.lt_of_le_of_lt (Nat.div_le_self _ _) h)]
  rfl
theorem cb_xd (ok : cb_ok nv nb) {post : Int32 → Prop} {num v : Nat} (hv : v ≤ 4) (h : num < 2 ^ 31) (hp : post (nI (cb_dg nb num v))) : wpX_digit post (cb_X nv nb dl co rs sz) (nI num) (nI v) := by
  show post _
  rw [cb_xdg ok hv h]
  exact hp
theorem cb_yd5 (ok : cb_ok nv nb) {post : Int32 → Prop} {num v : Nat} (hv : v ≤ 4) (h : num < 2 ^ 31) (hp : post (nI (cb_dg nb num v))) :
    ∀ d k, k + d = v → wY_digit_5 post (nI v) (nI nv) (nI nb) (nI (2 ^ nb)) (nI (2 ^ (nb * nv))) dl sz cf rt sn (d + 1) (nI (num / 2 ^ (nb * k))) (nI k) := by
  intro d
  induction d with
  | zero =>
    intro k hk
    have e : k = v := by omega
    subst e
    refine br_t (nI_le (by omega) (by omega)) ?_
    show post _
    rw [cb_mk, cb_and ok (Nat.lt_of_le_of_lt (Nat.div_le_self _ _) h)]
    exact hp
  | succ d ih =>
    intro k hk
    refine br_f (nI_ge (by omega) (by omega)) (br_f (nI_ge (b := 4) (by omega) (by decide)) (nm_r ?_ (nm_r (nI_1 k) (ih (k + 1) (by omega)))))
    rw [pk_shrN (Nat.lt_of_le_of_lt (Nat.div_le_self _ _) h) _ nb (s_l _ (by have := ok.2.2.2.1; omega)), Nat.div_div_eq_div_mul, ← Nat.pow_add, Nat.mul_succ]
theorem cb_yd (ok : cb_ok nv nb) {post : Int32 → Prop} {num v : Nat} (hv : v ≤ 4) (h : num < 2 ^ 31) (hp : post (nI (cb_dg nb num v))) : wpY_digit post (cb_Y nv nb dl sz cf rt sn) (nI num) (nI v) := by
  have := cb_yd5 (dl := dl) (sz := sz) (cf := cf) (rt := rt) (sn := sn) ok hv h hp v 0 (by omega)
  rw [Nat.mul_zero, Nat.pow_zero, Nat.div_one] at this
  exact ⟨_, this⟩
end
end
section
section
variable {nv nb : Nat} {dl co rs sz cf rt sn : Nat → Int32} {hs : Nat → Nat}
/-! line values -/
def cb_sum (f : Nat → Int32) (nb num base : Nat) : Nat → Int32
  | 0 => 0
  | k + 1 => cb_sum f nb num base k + f (base + k) * nI (cb_dg nb num k)
def cb_lv (f : Nat → Int32) (nv nb num base : Nat) : Int32 := cb_sum f nb num base nv &&& nI (2 ^ nb - 1)
theorem cb_lvE (ok : cb_ok nv nb) (f : Nat → Int32) (num base : Nat) : ∃ j, j < 2 ^ nb ∧ cb_lv f nv nb num base = nI j := pk_andE _ nb (cb_mtn ok)
theorem cb_sumE {f g : Nat → Int32} {num b : Nat} (h : ∀ v, v < 4 → f (b + v) = g (b + v)) : ∀ k, k ≤ 4 → cb_sum f nb num b k = cb_sum g nb num b k := by
  intro k
  induction k with
  | zero => intro _; rfl
  | succ k ih =>
    intro hk
    show cb_sum f nb num b k + f (b + k) * _ = cb_sum g nb num b k + g (b + k) * _
    rw [ih (by omega), h k (by omega)]
theorem cb_xlc (ok : cb_ok nv nb) {post : Int32 → Prop} {b num : Nat} (hb : b + 4 ≤ 80) (hn : num < 2 ^ 31) (hp : post (cb_lv co nv nb num b)) :
    ∀ d v, v + d = nv → wX_lineValue__coefficients_6 post (nI b) (nI num) (nI nv) (nI nb) (nI (2 ^ nb - 1)) (nI (2 ^ (nb * nv))) dl co rs sz (d + 1) (cb_sum co nb num b v) (nI v) := by
  have h4 := ok.2.1
  intro d
  induction d with
  | zero =>
    intro v hv
    have e : v = nv := by omega
    subst e
    exact br_t (nI_le (by omega) (by omega)) hp
  | succ d ih =>
    intro v hv
    refine br_f (nI_ge (by omega) (by omega)) ⟨pk_in (b + v) 80 (by omega) (nI_add b v), cb_xd ok (by omega) hn (nm_r ?_ (nm_r (nI_1 v) (ih (v + 1) (by omega))))⟩
    rw [nI_add, nI_clamp (by omega)]
    rfl
theorem cb_xl (ok : cb_ok nv nb) {post : Int32 → Prop} {b num : Nat} (hb : b + 4 ≤ 80) (hn : num < 2 ^ 31) (hp : post (cb_lv co nv nb num b)) :
    wpX_lineValue__coefficients post (cb_X nv nb dl co rs sz) (nI b) (nI num) := ⟨_, cb_xlc ok hb hn hp nv 0 (by omega)⟩
theorem cb_xld (ok : cb_ok nv nb) {post : Int32 → Prop} {num : Nat} (hn : num < 2 ^ 31) (hp : post (cb_lv dl nv nb num 0)) :
    ∀ d v, v + d = nv → wX_lineValue__draftLine_6 post (nI 0) (nI num) (nI nv) (nI nb) (nI (2 ^ nb - 1)) (nI (2 ^ (nb * nv))) dl co rs sz (d + 1) (cb_sum dl nb num 0 v) (nI v) := by
  have h4 := ok.2.1
  intro d
  induction d with
  | zero =>
    intro v hv
    have e : v = nv := by omega
    subst e
    exact br_t (nI_le (by omega) (by omega)) hp
  | succ d ih =>
    intro v hv
    refine br_f (nI_ge (by omega) (by omega)) ⟨pk_in (0 + v) 4 (by omega) (nI_add 0 v), cb_xd ok (by omega) hn (nm_r ?_ (nm_r (nI_1 v) (ih (v + 1) (by omega))))⟩
    rw [nI_add, nI_clamp (by omega)]
    rfl
theorem cb_xv (ok : cb_ok nv nb) {post : Int32 → Prop} {num : Nat} (hn : num < 2 ^ 31) (hp : post (cb_lv dl nv nb num 0)) :
    wpX_draftValue post (cb_X nv nb dl co rs sz) (nI num) := ⟨_, cb_xld ok hn hp nv 0 (by omega)⟩
theorem cb_yv4 (ok : cb_ok nv nb) {post : Int32 → Prop} {num : Nat} (hn : num < 2 ^ 31) (hp : post (cb_lv dl nv nb num 0)) :
    ∀ d v, v + d = nv → wY_lineValue_4 post (nI num) (nI nv) (nI nb) (nI (2 ^ nb)) (nI (2 ^ (nb * nv))) dl sz cf rt sn (d + 1) (cb_sum dl nb num 0 v) (nI v) := by
  have h4 := ok.2.1
  intro d
  induction d with
  | zero =>
    intro v hv
    have e : v = nv := by omega
    subst e
    refine br_t (nI_le (by omega) (by omega)) ?_
    show post _
    rw [cb_mk]
    exact hp
  | succ d ih =>
    intro v hv
    refine br_f (nI_ge (by omega) (by omega)) (br_f (nI_ge (b := 4) (by omega) (by decide)) (cb_yd ok (by omega) hn ⟨pk_in v 4 (by omega), nm_r ?_ (nm_r (nI_1 v) (ih (v + 1) (by omega)))⟩))
    rw [nI_clamp (by omega), show dl v = dl (0 + v) by rw [Nat.zero_add]]
    rfl
theorem cb_yv (ok : cb_ok nv nb) {post : Int32 → Prop} {num : Nat} (hn : num < 2 ^ 31) (hp : post (cb_lv dl nv nb num 0)) :
    wpY_lineValue post (cb_Y nv nb dl sz cf rt sn) (nI num) := ⟨_, cb_yv4 ok hn hp nv 0 (by omega)⟩
/-! does the assignment meet the congruences? -/
def cb_b : Bool → Int32
  | true => 1
  | false => 0
def cb_mt (co rs : Nat → Int32) (nv nb s num i : Nat) : Bool := decide (cb_lv co nv nb num (40 * s + 4 * i) = rs (10 * s + i))
def cb_all (P : Nat → Bool) : Nat → Nat → Bool
  | _, 0 => true
  | i, d + 1 => P i && cb_all P (i + 1) d
def cb_S (co rs : Nat → Int32) (hs : Nat → Nat) (nv nb s num : Nat) (lo : Int32) : Bool :=
  cb_all (fun i => decide (nI i = lo) || cb_mt co rs nv nb s num i) 0 (hs s)
theorem cb_r1 (s i : Nat) : nI s * 10 + nI i = nI (10 * s + i) := by
  show nI s * nI 10 + nI i = _
  rw [pk_mul, nI_add, Nat.mul_comm]
theorem cb_ro {post : Int32 → Prop} {s i : Nat} (hp : post (nI (10 * s + i))) : wpX_rowOf post (nI s) (nI i) := by
  unfold wpX_rowOf
  rw [cb_r1]
  exact hp
theorem cb_r2 (s i : Nat) : 10 * nI s + nI i = nI (10 * s + i) := by
  show nI 10 * nI s + nI i = _
  rw [pk_mul, nI_add]
theorem cb_r3 (s i : Nat) : nI (10 * s + i) * 4 = nI (40 * s + 4 * i) := by
  show nI (10 * s + i) * nI 4 = _
  rw [pk_mul]
  exact congrArg nI (by omega)
theorem cb_r4 (s i v : Nat) : 40 * nI s + 4 * nI i + nI v = nI (40 * s + 4 * i + v) := by
  show nI 40 * nI s + nI 4 * nI i + nI v = _
  rw [pk_mul, pk_mul, nI_add, nI_add]
theorem cb_szc {s : Nat} (R : cb_sz sz hs) (h : s < 2) : sz (nI s).toNatClampNeg = nI (hs s) := by
  rw [nI_clamp (by omega)]
  exact (R s h).1
theorem cb_xs3 (ok : cb_ok nv nb) (Z : cb_sz sz hs) {post : Int32 → Prop} {s num : Nat} {lo : Int32} (h2 : s < 2) (hn : num < 2 ^ 31) :
    ∀ d i, i + d = hs s → post (cb_b (cb_all (fun i => decide (nI i = lo) || cb_mt co rs nv nb s num i) i d)) → wX_solves_3 post (nI s) (nI num) lo (nI nv) (nI nb) (nI (2 ^ nb - 1)) (nI (2 ^ (nb * nv))) dl co rs sz (d + 1) (nI i) := by
  have h10 := (Z s h2).2
  intro d
  induction d with
  | zero =>
    intro i hi hp
    exact ⟨pk_in s 2 h2, br_t (by rw [cb_szc Z h2]; exact nI_le (by omega) (by omega)) hp⟩
  | succ d ih =>
    intro i hi hp
    refine ⟨pk_in s 2 h2, br_f (by rw [cb_szc Z h2]; exact nI_ge (by omega) (by omega)) (cb_ro ?_)⟩
    rw [cb_r3]
    refine cb_xl ok (by omega) hn ?_
    have hp2 : post (cb_b ((decide (nI i = lo) || cb_mt co rs nv nb s num i) && cb_all (fun i => decide (nI i = lo) || cb_mt co rs nv nb s num i) (i + 1) d)) := hp
    by_cases e : nI i = lo
    · rw [decide_eq_true e, Bool.true_or, Bool.true_and] at hp2
      exact br_t e (nm_r (nI_1 i) (ih (i + 1) (by omega) hp2))
    · rw [decide_eq_false e, Bool.false_or] at hp2
      refine br_f e ⟨pk_in (10 * s + i) 20 (by omega), ?_⟩
      rw [nI_clamp (by omega)]
      by_cases m : cb_lv co nv nb num (40 * s + 4 * i) = rs (10 * s + i)
      · rw [show cb_mt co rs nv nb s num i = true from decide_eq_true m, Bool.true_and] at hp2
        exact br_t m (nm_r (nI_1 i) (ih (i + 1) (by omega) hp2))
      · rw [show cb_mt co rs nv nb s num i = false from decide_eq_false m, Bool.false_and] at hp2
        exact br_f m hp2
theorem cb_xs (ok : cb_ok nv nb) (Z : cb_sz sz hs) {post : Int32 → Prop} {s num : Nat} {lo : Int32} (h2 : s < 2) (hn : num < 2 ^ 31) (hp : post (cb_b (cb_S co rs hs nv nb s num lo))) :
    wpX_solves post (cb_X nv nb dl co rs sz) (nI s) (nI num) lo := ⟨_, cb_xs3 ok Z h2 hn (hs s) 0 (by omega) hp⟩
theorem cb_ym6 (R : cb_R nv nb co rs sz cf rt hs) {post : Int32 → Prop} {s i num : Nat} (h2 : s < 2) (hi : i < hs s) (hn : num < 2 ^ 31) (hp : post (cb_b (cb_mt co rs nv nb s num i))) :
    ∀ d v, v + d = nv → wY_meets_6 post (nI s) (nI i) (nI num) (nI nv) (nI nb) (nI (2 ^ nb)) (nI (2 ^ (nb * nv))) dl sz cf rt sn (d + 1) (cb_sum cf nb num (40 * s + 4 * i) v) (nI v) := by
  have ok := R.1
  have h4 := ok.2.1
  have h10 := (R.2.1 s h2).2
  obtain ⟨hc, hr⟩ := R.2.2 s i h2 hi
  intro d
  induction d with
  | zero =>
    intro v hv
    have e : v = nv := by omega
    subst e
    refine br_t (nI_le (by omega) (by omega)) ?_
    show vp_in _ _ ∧ _
    refine ⟨pk_in (10 * s + i) 20 (by omega) (cb_r2 s i), ?_⟩
    rw [cb_r2, nI_clamp (by omega), cb_mk, cb_sumE hc v h4, hr]
    by_cases m : cb_lv co v nb num (40 * s + 4 * i) = rs (10 * s + i)
    · rw [show cb_mt co rs v nb s num i = true from decide_eq_true m] at hp
      exact br_t m hp
    · rw [show cb_mt co rs v nb s num i = false from decide_eq_false m] at hp
      exact br_f m hp
  | succ d ih =>
    intro v hv
    refine br_f (nI_ge (by omega) (by omega)) (br_f (nI_ge (b := 4) (by omega) (by decide)) (cb_yd ok (by omega) hn ⟨pk_in (40 * s + 4 * i + v) 80 (by omega) (cb_r4 s i v), nm_r ?_ (nm_r (nI_1 v) (ih (v + 1) (by omega)))⟩))
    rw [cb_r4, nI_clamp (by omega)]
    rfl
theorem cb_ym (R : cb_R nv nb co rs sz cf rt hs) {post : Int32 → Prop} {s i num : Nat} (h2 : s < 2) (hi : i < hs s) (hn : num < 2 ^ 31) (hp : post (cb_b (cb_mt co rs nv nb s num i))) :
    wpY_meets post (cb_Y nv nb dl sz cf rt sn) (nI s) (nI i) (nI num) := ⟨_, cb_ym6 R h2 hi hn hp nv 0 (by omega)⟩
theorem cb_ys3 (R : cb_R nv nb co rs sz cf rt hs) {post : Int32 → Prop} {s num : Nat} {lo : Int32} (h2 : s < 2) (hn : num < 2 ^ 31) :
    ∀ d i, i + d = hs s → post (cb_b (cb_all (fun i => decide (nI i = lo) || cb_mt co rs nv nb s num i) i d)) → wY_solves_3 post (nI s) (nI num) lo (nI nv) (nI nb) (nI (2 ^ nb)) (nI (2 ^ (nb * nv))) dl sz cf rt sn (d + 1) (nI i) := by
  have Z := R.2.1
  have h10 := (Z s h2).2
  intro d
  induction d with
  | zero =>
    intro i hi hp
    exact ⟨pk_in s 2 h2, br_t (by rw [cb_szc Z h2]; exact nI_le (by omega) (by omega)) hp⟩
  | succ d ih =>
    intro i hi hp
    refine ⟨pk_in s 2 h2, br_f (by rw [cb_szc Z h2]; exact nI_ge (by omega) (by omega)) (br_f (nI_ge (b := 10) (by omega) (by decide)) ?_)⟩
    have hp2 : post (cb_b ((decide (nI i = lo) || cb_mt co rs nv nb s num i) && cb_all (fun i => decide (nI i = lo) || cb_mt co rs nv nb s num i) (i + 1) d)) := hp
    by_cases e : nI i = lo
    · rw [decide_eq_true e, Bool.true_or, Bool.true_and] at hp2
      exact br_t e (nm_r (nI_1 i) (ih (i + 1) (by omega) hp2))
    · rw [decide_eq_false e, Bool.false_or] at hp2
      refine br_f e (cb_ym R h2 (by omega) hn ?_)
      cases m : cb_mt co rs nv nb s num i with
      | true =>
        rw [m, Bool.true_and] at hp2
        exact br_f (by decide) (nm_r (nI_1 i) (ih (i + 1) (by omega) hp2))
      | false =>
        rw [m, Bool.false_and] at hp2
        exact br_t rfl hp2
theorem cb_ys (R : cb_R nv nb co rs sz cf rt hs) {post : Int32 → Prop} {s num : Nat} {lo : Int32} (h2 : s < 2) (hn : num < 2 ^ 31) (hp : post (cb_b (cb_S co rs hs nv nb s num lo))) :
    wpY_solves post (cb_Y nv nb dl sz cf rt sn) (nI s) (nI num) lo := ⟨_, cb_ys3 R h2 hn (hs s) 0 (by omega) hp⟩
theorem cb_nb (b : Bool) : narrow .boolean (.int (cb_b b)) = .int (cb_b b) := by cases b <;> rfl
theorem cb_yn (R : cb_R nv nb co rs sz cf rt hs) {post : Int32 → Prop} {s num : Nat} (h2 : s < 2) (hn : num < 2 ^ 31) (hp : post (cb_b (cb_S co rs hs nv nb s num (-1)))) :
    wpY_solution post (cb_Y nv nb dl sz cf rt sn) (nI s) (nI num) := cb_ys (post := fun r => narrow .boolean (.int r) = .int r ∧ post r) R h2 hn ⟨cb_nb _, hp⟩
/-! by the answer -/
theorem cb_xs1 (R : cb_R nv nb co rs sz cf rt hs) {post : Int32 → Prop} {s num : Nat} {lo : Int32} (h2 : s < 2) (hn : num < 2 ^ 31) (hS : cb_S co rs hs nv nb s num lo = true) (hp : post 1) :
    wpX_solves post (cb_X nv nb dl co rs sz) (nI s) (nI num) lo := cb_xs R.1 R.2.1 h2 hn (by rw [hS]; exact hp)
theorem cb_xs0 (R : cb_R nv nb co rs sz cf rt hs) {post : Int32 → Prop} {s num : Nat} {lo : Int32} (h2 : s < 2) (hn : num < 2 ^ 31) (hS : cb_S co rs hs nv nb s num lo = false) (hp : post 0) :
    wpX_solves post (cb_X nv nb dl co rs sz) (nI s) (nI num) lo := cb_xs R.1 R.2.1 h2 hn (by rw [hS]; exact hp)
theorem cb_yn1 (R : cb_R nv nb co rs sz cf rt hs) {post : Int32 → Prop} {s num : Nat} (h2 : s < 2) (hn : num < 2 ^ 31) (hS : cb_S co rs hs nv nb s num (-1) = true) (hp : post 1) :
    wpY_solution post (cb_Y nv nb dl sz cf rt sn) (nI s) (nI num) := cb_yn R h2 hn (by rw [hS]; exact hp)
theorem cb_yn0 (R : cb_R nv nb co rs sz cf rt hs) {post : Int32 → Prop} {s num : Nat} (h2 : s < 2) (hn : num < 2 ^ 31) (hS : cb_S co rs hs nv nb s num (-1) = false) (hp : post 0) :
    wpY_solution post (cb_Y nv nb dl sz cf rt sn) (nI s) (nI num) := cb_yn R h2 hn (by rw [hS]; exact hp)
theorem cb_ys1 (R : cb_R nv nb co rs sz cf rt hs) {post : Int32 → Prop} {s num : Nat} {lo : Int32} (h2 : s < 2) (hn : num < 2 ^ 31) (hS : cb_S co rs hs nv nb s num lo = true) (hp : post 1) :
    wpY_solves post (cb_Y nv nb dl sz cf rt sn) (nI s) (nI num) lo := cb_ys R h2 hn (by rw [hS]; exact hp)
theorem cb_ys0 (R : cb_R nv nb co rs sz cf rt hs) {post : Int32 → Prop} {s num : Nat} {lo : Int32} (h2 : s < 2) (hn : num < 2 ^ 31) (hS : cb_S co rs hs nv nb s num lo = false) (hp : post 0) :
    wpY_solves post (cb_Y nv nb dl sz cf rt sn) (nI s) (nI num) lo := cb_ys R h2 hn (by rw [hS]; exact hp)
end
end
section
section
variable {nv nb : Nat} {dl co rs sz cf rt sn : Nat → Int32} {hs : Nat → Nat}
/-! which system, which unknown -/
theorem cb_sysc (x : Int32) : (∃ s, s < 2 ∧ x = nI s) ∨ (x < 0 ∨ nI 2 ≤ x) := by
  rcases pk_ix x (n := 2) (by decide) with h | h | h
  · exact Or.inr (Or.inl h)
  · exact Or.inr (Or.inr h)
  · exact Or.inl h
theorem cb_xy {post : Int32 → Prop} {s : Nat} (h2 : s < 2) (hp : post 1) : wpX_isSystem post (nI s) := by
  rcases (by omega : s = 0 ∨ s = 1) with rfl | rfl
  · exact br_t rfl hp
  · exact br_f (by decide) (br_t rfl hp)
theorem cb_xn {post : Int32 → Prop} {x : Int32} (hb : x < 0 ∨ nI 2 ≤ x) (hp : post 0) : wpX_isSystem post x := by
  refine br_f (fun e => ?_) (br_f (fun e => ?_) hp)
  · subst e
    exact absurd hb (by decide)
  · subst e
    exact absurd hb (by decide)
theorem cb_yy {post : Int32 → Prop} {s : Nat} (h2 : s < 2) (hp : post 0) : wpY_badSystem post (cb_Y nv nb dl sz cf rt sn) (nI s) :=
  br_f (nI_pos (by omega)) (br_t (nI_le (b := 1) (by omega) (by decide)) hp)
theorem cb_ybad {post : Int32 → Prop} {x : Int32} (hb : x < 0 ∨ nI 2 ≤ x) (hp : post 1) : wpY_badSystem post (cb_Y nv nb dl sz cf rt sn) x := by
  by_cases h0 : x < 0
  · exact br_t h0 hp
  · refine br_f h0 (br_f (fun h1 => ?_) hp)
    rcases hb with hb | hb
    · exact h0 hb
    · exact absurd (Int32.le_trans hb h1) (by decide)
theorem cb_unkc (ok : cb_ok nv nb) (x : Int32) : (∃ v, v < nv ∧ x = nI v) ∨ (x < 0 ∨ (¬ x < 0 ∧ nI nv ≤ x)) := by
  by_cases h0 : x < 0
  · exact Or.inr (Or.inl h0)
  · rcases pk_ix x (n := nv) (by have := ok.2.1; omega) with h | h | h
    · exact Or.inr (Or.inl h)
    · exact Or.inr (Or.inr ⟨h0, h⟩)
    · exact Or.inl h
theorem cb_xu (ok : cb_ok nv nb) {post : Int32 → Prop} {v : Nat} (h : v < nv) (hp : post 1) : wpX_isUnknown post (cb_X nv nb dl co rs sz) (nI v) := by
  have := ok.2.1
  exact br_f (nI_pos (by omega)) (br_f (nI_ge h (by omega)) hp)
theorem cb_xu0 {post : Int32 → Prop} {x : Int32} (hb : x < 0 ∨ (¬ x < 0 ∧ nI nv ≤ x)) (hp : post 0) : wpX_isUnknown post (cb_X nv nb dl co rs sz) x := by
  rcases hb with h | ⟨h, h'⟩
  · exact br_t h hp
  · exact br_f h (br_t h' hp)
theorem cb_yu (ok : cb_ok nv nb) {post : Int32 → Prop} {v : Nat} (h : v < nv) (hp : post 0) : wpY_badUnknown post (cb_Y nv nb dl sz cf rt sn) (nI v) := by
  have := ok.2.1
  exact br_f (nI_pos (by omega)) (br_f (nI_ge h (by omega)) (br_t (nI_lt (b := 4) (by omega) (by decide)) hp))
theorem cb_yu1 {post : Int32 → Prop} {x : Int32} (hb : x < 0 ∨ (¬ x < 0 ∧ nI nv ≤ x)) (hp : post 1) : wpY_badUnknown post (cb_Y nv nb dl sz cf rt sn) x := by
  rcases hb with h | ⟨h, h'⟩
  · exact br_t h hp
  · exact br_f h (br_t h' hp)
theorem cb_yr {post : Int32 → Prop} {c : Int32} (hp : post (c &&& nI (2 ^ nb - 1))) : wpY_reduced post (cb_Y nv nb dl sz cf rt sn) c := by
  show post _
  rw [cb_mk]
  exact hp
theorem cb_1s {s : Nat} (h2 : s < 2) : (1 : Int32) - nI s = nI (1 - s) := pk_sub (a := 1) (by omega)
/-! counting and searching in lockstep -/
theorem cb_solL (R : cb_R nv nb co rs sz cf rt hs) {s : Nat} (h2 : s < 2) : ∀ d i (c : Int32), i + d = 2 ^ (nb * nv) → ∃ r : Int32,
    (∀ post : Int32 → Prop, post r → wX_below_14 post (nI s) (nI (2 ^ (nb * nv))) (nI nv) (nI nb) (nI (2 ^ nb - 1)) (nI (2 ^ (nb * nv))) dl co rs sz (d + 1) c (nI i)) ∧
    (∀ post : Int32 → Prop, post r → wY_solutions_14 post (nI s) (nI nv) (nI nb) (nI (2 ^ nb)) (nI (2 ^ (nb * nv))) dl sz cf rt sn (d + 1) c (nI i)) := by
  have hA := cb_pA R.1
  intro d
  induction d with
  | zero =>
    intro i c hi
    have h : nI (2 ^ (nb * nv)) ≤ nI i := nI_le (by omega) (by omega)
    exact ⟨c, fun _ hp => br_t h hp, fun _ hp => br_t h hp⟩
  | succ d ih =>
    intro i c hi
    have h : ¬ nI (2 ^ (nb * nv)) ≤ nI i := nI_ge (by omega) (by omega)
    cases hS : cb_S co rs hs nv nb s i (-1) with
    | true =>
      obtain ⟨r, hX, hY⟩ := ih (i + 1) (c + 1) (by omega)
      exact ⟨r, fun post hp => br_f h (br_f h (cb_xs1 R h2 (by omega) hS (br_f (by decide) (nm_e (nm_r (nI_1 i) (hX post hp)))))),
        fun post hp => br_f h (cb_yn1 R h2 (by omega) hS (br_f (by decide) (nm_e (nm_r (nI_1 i) (hY post hp)))))⟩
    | false =>
      obtain ⟨r, hX, hY⟩ := ih (i + 1) c (by omega)
      exact ⟨r, fun post hp => br_f h (br_f h (cb_xs0 R h2 (by omega) hS (br_t rfl (nm_r (nI_1 i) (hX post hp))))),
        fun post hp => br_f h (cb_yn0 R h2 (by omega) hS (br_t rfl (nm_r (nI_1 i) (hY post hp))))⟩
theorem cb_nthL (R : cb_R nv nb co rs sz cf rt hs) {s : Nat} (h2 : s < 2) (q : Int32) : ∀ d i (c : Int32), i + d = 2 ^ (nb * nv) → ∃ r : Int32,
    (∀ post : Int32 → Prop, post r → wX_nth_14 post (nI s) q (nI nv) (nI nb) (nI (2 ^ nb - 1)) (nI (2 ^ (nb * nv))) dl co rs sz (d + 1) c (nI i)) ∧
    (∀ post : Int32 → Prop, post r → wY_nth_15 post (nI s) q (nI nv) (nI nb) (nI (2 ^ nb)) (nI (2 ^ (nb * nv))) dl sz cf rt sn (d + 1) c (nI i)) := by
  have hA := cb_pA R.1
  intro d
  induction d with
  | zero =>
    intro i c hi
    have h : nI (2 ^ (nb * nv)) ≤ nI i := nI_le (by omega) (by omega)
    exact ⟨-2, fun _ hp => br_t h hp, fun _ hp => br_t h hp⟩
  | succ d ih =>
    intro i c hi
    have h : ¬ nI (2 ^ (nb * nv)) ≤ nI i := nI_ge (by omega) (by omega)
    cases hS : cb_S co rs hs nv nb s i (-1) with
    | true =>
      by_cases e : c = q
      · exact ⟨nI i, fun post hp => br_f h (cb_xs1 R h2 (by omega) hS (br_f (by decide) (br_t e hp))),
          fun post hp => br_f h (cb_yn1 R h2 (by omega) hS (br_f (by decide) (br_t e hp)))⟩
      · obtain ⟨r, hX, hY⟩ := ih (i + 1) (c + 1) (by omega)
        exact ⟨r, fun post hp => br_f h (cb_xs1 R h2 (by omega) hS (br_f (by decide) (br_f e (nm_e (nm_r (nI_1 i) (hX post hp)))))),
          fun post hp => br_f h (cb_yn1 R h2 (by omega) hS (br_f (by decide) (br_f e (nm_e (nm_r (nI_1 i) (hY post hp))))))⟩
    | false =>
      obtain ⟨r, hX, hY⟩ := ih (i + 1) c (by omega)
      exact ⟨r, fun post hp => br_f h (cb_xs0 R h2 (by omega) hS (br_t rfl (nm_r (nI_1 i) (hX post hp)))),
        fun post hp => br_f h (cb_yn0 R h2 (by omega) hS (br_t rfl (nm_r (nI_1 i) (hY post hp))))⟩
theorem cb_belT (R : cb_R nv nb co rs sz cf rt hs) {s : Nat} {q c : Int32} {post : Int32 → Prop} (hp : post c) : ∀ d i, i + d = 2 ^ (nb * nv) → q ≤ nI i →
    wY_below_15 post (nI s) q (nI nv) (nI nb) (nI (2 ^ nb)) (nI (2 ^ (nb * nv))) dl sz cf rt sn (d + 1) c (nI i) := by
  have hA := cb_pA R.1
  intro d
  induction d with
  | zero =>
    intro i hi hq
    exact br_t (nI_le (by omega) (by omega)) hp
  | succ d ih =>
    intro i hi hq
    exact br_f (nI_ge (by omega) (by omega)) (br_t hq (nm_r (nI_1 i) (ih (i + 1) (by omega) (Int32.le_trans hq (nI_le (by omega) (by omega))))))
theorem cb_belL (R : cb_R nv nb co rs sz cf rt hs) {s : Nat} (h2 : s < 2) (q : Int32) : ∀ d i (c : Int32), i + d = 2 ^ (nb * nv) → ∃ r : Int32,
    (∀ post : Int32 → Prop, post r → wX_below_14 post (nI s) q (nI nv) (nI nb) (nI (2 ^ nb - 1)) (nI (2 ^ (nb * nv))) dl co rs sz (d + 1) c (nI i)) ∧
    (∀ post : Int32 → Prop, post r → wY_below_15 post (nI s) q (nI nv) (nI nb) (nI (2 ^ nb)) (nI (2 ^ (nb * nv))) dl sz cf rt sn (d + 1) c (nI i)) := by
  have hA := cb_pA R.1
  intro d
  induction d with
  | zero =>
    intro i c hi
    have h : nI (2 ^ (nb * nv)) ≤ nI i := nI_le (by omega) (by omega)
    exact ⟨c, fun _ hp => br_t h hp, fun _ hp => br_t h hp⟩
  | succ d ih =>
    intro i c hi
    have h : ¬ nI (2 ^ (nb * nv)) ≤ nI i := nI_ge (by omega) (by omega)
    by_cases hq : q ≤ nI i
    · exact ⟨c, fun post hp => br_f h (br_t hq hp), fun post hp => cb_belT R hp (d + 1) i hi hq⟩
    · cases hS : cb_S co rs hs nv nb s i (-1) with
      | true =>
        obtain ⟨r, hX, hY⟩ := ih (i + 1) (c + 1) (by omega)
        exact ⟨r, fun post hp => br_f h (br_f hq (cb_xs1 R h2 (by omega) hS (br_f (by decide) (nm_e (nm_r (nI_1 i) (hX post hp)))))),
          fun post hp => br_f h (br_f hq (cb_yn1 R h2 (by omega) hS (br_f (by decide) (nm_e (nm_r (nI_1 i) (hY post hp))))))⟩
      | false =>
        obtain ⟨r, hX, hY⟩ := ih (i + 1) c (by omega)
        exact ⟨r, fun post hp => br_f h (br_f hq (cb_xs0 R h2 (by omega) hS (br_t rfl (nm_r (nI_1 i) (hX post hp))))),
          fun post hp => br_f h (br_f hq (cb_yn0 R h2 (by omega) hS (br_t rfl (nm_r (nI_1 i) (hY post hp)))))⟩
theorem cb_entL (R : cb_R nv nb co rs sz cf rt hs) {s : Nat} (h2 : s < 2) (q : Int32) : ∀ d i, i + d = 2 ^ (nb * nv) → ∃ r : Int32,
    (∀ post : Int32 → Prop, post r → wX_entails_18 post (nI s) (q &&& nI (2 ^ nb - 1)) (nI nv) (nI nb) (nI (2 ^ nb - 1)) (nI (2 ^ (nb * nv))) dl co rs sz (d + 1) (nI i)) ∧
    (∀ post : Int32 → Prop, post r → wY_entails_12 post (nI s) q (nI nv) (nI nb) (nI (2 ^ nb)) (nI (2 ^ (nb * nv))) dl sz cf rt sn (d + 1) (nI i)) := by
  have ok := R.1
  have hA := cb_pA R.1
  intro d
  induction d with
  | zero =>
    intro i hi
    have h : nI (2 ^ (nb * nv)) ≤ nI i := nI_le (by omega) (by omega)
    exact ⟨1, fun _ hp => br_t h hp, fun _ hp => br_t h hp⟩
  | succ d ih =>
    intro i hi
    have h : ¬ nI (2 ^ (nb * nv)) ≤ nI i := nI_ge (by omega) (by omega)
    obtain ⟨r, hX, hY⟩ := ih (i + 1) (by omega)
    cases hS : cb_S co rs hs nv nb s i (-1) with
    | true =>
      by_cases e : cb_lv dl nv nb i 0 = q &&& nI (2 ^ nb - 1)
      · exact ⟨r, fun post hp => br_f h (cb_xs1 R h2 (by omega) hS (br_f (by decide) (cb_xv ok (by omega) (br_t e (nm_r (nI_1 i) (hX post hp)))))),
          fun post hp => br_f h (cb_yn1 R h2 (by omega) hS (br_f (by decide) (cb_yv ok (by omega) (cb_yr (br_t e (nm_r (nI_1 i) (hY post hp)))))))⟩
      · exact ⟨0, fun post hp => br_f h (cb_xs1 R h2 (by omega) hS (br_f (by decide) (cb_xv ok (by omega) (br_f e hp)))),
          fun post hp => br_f h (cb_yn1 R h2 (by omega) hS (br_f (by decide) (cb_yv ok (by omega) (cb_yr (br_f e hp)))))⟩
    | false =>
      exact ⟨r, fun post hp => br_f h (cb_xs0 R h2 (by omega) hS (br_t rfl (nm_r (nI_1 i) (hX post hp)))),
        fun post hp => br_f h (cb_yn0 R h2 (by omega) hS (br_t rfl (nm_r (nI_1 i) (hY post hp))))⟩
/-- countAt: the counts, and that one more is counted just where a solution takes the value -/
theorem cb_catL (R : cb_R nv nb co rs sz cf rt hs) {s : Nat} (h2 : s < 2) (q : Int32) : ∀ d i n, i + d = 2 ^ (nb * nv) → ∃ r : Nat,
    r ≤ n + d ∧ n ≤ r ∧ (n < r ↔ ∃ a, i ≤ a ∧ a < 2 ^ (nb * nv) ∧ cb_S co rs hs nv nb s a (-1) = true ∧ cb_lv dl nv nb a 0 = q &&& nI (2 ^ nb - 1)) ∧
    (∀ post : Int32 → Prop, post (nI r) → wX_countAt_21 post (nI s) (q &&& nI (2 ^ nb - 1)) (nI nv) (nI nb) (nI (2 ^ nb - 1)) (nI (2 ^ (nb * nv))) dl co rs sz (d + 1) (nI n) (nI i)) ∧
    (∀ post : Int32 → Prop, post (nI r) → wY_countAt_15 post (nI s) q (nI nv) (nI nb) (nI (2 ^ nb)) (nI (2 ^ (nb * nv))) dl sz cf rt sn (d + 1) (nI n) (nI i)) := by
  have ok := R.1
  have hA := cb_pA R.1
  intro d
  induction d with
  | zero =>
    intro i n hi
    have h : nI (2 ^ (nb * nv)) ≤ nI i := nI_le (by omega) (by omega)
    exact ⟨n, by omega, by omega, ⟨fun z => absurd z (by omega), fun ⟨a, h1, h3, _⟩ => absurd h1 (by omega)⟩, fun _ hp => br_t h hp, fun _ hp => br_t h hp⟩
  | succ d ih =>
    intro i n hi
    have h : ¬ nI (2 ^ (nb * nv)) ≤ nI i := nI_ge (by omega) (by omega)
    cases hS : cb_S co rs hs nv nb s i (-1) with
    | true =>
      by_cases e : cb_lv dl nv nb i 0 = q &&& nI (2 ^ nb - 1)
      · obtain ⟨r, hr1, hr2, hr3, hX, hY⟩ := ih (i + 1) (n + 1) (by omega)
        exact ⟨r, by omega, by omega, ⟨fun _ => ⟨i, by omega, by omega, hS, e⟩, fun _ => by omega⟩,
          fun post hp => br_f h (cb_xs1 R h2 (by omega) hS (br_f (by decide) (cb_xv ok (by omega) (br_t e (nm_r (nI_1 n) (nm_r (nI_1 i) (hX post hp))))))),
          fun post hp => br_f h (cb_yn1 R h2 (by omega) hS (br_f (by decide) (cb_yv ok (by omega) (cb_yr (br_t e (nm_r (nI_1 n) (nm_r (nI_1 i) (hY post hp))))))))⟩
      · obtain ⟨r, hr1, hr2, hr3, hX, hY⟩ := ih (i + 1) n (by omega)
        refine ⟨r, by omega, hr2, ⟨fun z => ?_, fun ⟨a, h1, h3, h4, h5⟩ => ?_⟩,
          fun post hp => br_f h (cb_xs1 R h2 (by omega) hS (br_f (by decide) (cb_xv ok (by omega) (br_f e (nm_r (nI_1 i) (hX post hp)))))),
          fun post hp => br_f h (cb_yn1 R h2 (by omega) hS (br_f (by decide) (cb_yv ok (by omega) (cb_yr (br_f e (nm_r (nI_1 i) (hY post hp)))))))⟩
        · obtain ⟨a, h1, h3⟩ := hr3.mp z
          exact ⟨a, by omega, h3⟩
        · by_cases ea : a = i
          · subst ea
            exact absurd h5 e
          · exact hr3.mpr ⟨a, by omega, h3, h4, h5⟩
    | false =>
      obtain ⟨r, hr1, hr2, hr3, hX, hY⟩ := ih (i + 1) n (by omega)
      refine ⟨r, by omega, hr2, ⟨fun z => ?_, fun ⟨a, h1, h3, h4, h5⟩ => ?_⟩,
        fun post hp => br_f h (cb_xs0 R h2 (by omega) hS (br_t rfl (nm_r (nI_1 i) (hX post hp)))),
        fun post hp => br_f h (cb_yn0 R h2 (by omega) hS (br_t rfl (nm_r (nI_1 i) (hY post hp))))⟩
      · obtain ⟨a, h1, h3⟩ := hr3.mp z
        exact ⟨a, by omega, h3⟩
      · by_cases ea : a = i
        · subst ea
          exact absurd h4 (by rw [hS]; decide)
        · exact hr3.mpr ⟨a, by omega, h3, h4, h5⟩
theorem cb_witL (R : cb_R nv nb co rs sz cf rt hs) {s : Nat} (h2 : s < 2) : ∀ d i, i + d = 2 ^ (nb * nv) → ∃ r : Int32,
    (∀ post : Int32 → Prop, post r → wX_within_11 post (nI s) (nI nv) (nI nb) (nI (2 ^ nb - 1)) (nI (2 ^ (nb * nv))) dl co rs sz (d + 1) (nI i)) ∧
    (∀ post : Int32 → Prop, post r → wY_within_12 post (nI s) (nI nv) (nI nb) (nI (2 ^ nb)) (nI (2 ^ (nb * nv))) dl sz cf rt sn (d + 1) (nI i)) := by
  have hA := cb_pA R.1
  have h1 := cb_1s h2
  intro d
  induction d with
  | zero =>
    intro i hi
    have h : nI (2 ^ (nb * nv)) ≤ nI i := nI_le (by omega) (by omega)
    exact ⟨1, fun _ hp => br_t h hp, fun _ hp => br_t h hp⟩
  | succ d ih =>
    intro i hi
    have h : ¬ nI (2 ^ (nb * nv)) ≤ nI i := nI_ge (by omega) (by omega)
    obtain ⟨r, hX, hY⟩ := ih (i + 1) (by omega)
    cases hS : cb_S co rs hs nv nb s i (-1) with
    | true =>
      cases hT : cb_S co rs hs nv nb (1 - s) i (-1) with
      | true =>
        exact ⟨r, fun post hp => br_f h (cb_xs1 R h2 (by omega) hS (br_f (by decide) (by rw [h1]; exact cb_xs1 R (by omega) (by omega) hT (br_f (by decide) (nm_r (nI_1 i) (hX post hp)))))),
          fun post hp => br_f h (cb_yn1 R h2 (by omega) hS (br_f (by decide) (by rw [h1]; exact cb_yn1 R (by omega) (by omega) hT (br_f (by decide) (nm_r (nI_1 i) (hY post hp))))))⟩
      | false =>
        exact ⟨0, fun post hp => br_f h (cb_xs1 R h2 (by omega) hS (br_f (by decide) (by rw [h1]; exact cb_xs0 R (by omega) (by omega) hT (br_t rfl hp)))),
          fun post hp => br_f h (cb_yn1 R h2 (by omega) hS (br_f (by decide) (by rw [h1]; exact cb_yn0 R (by omega) (by omega) hT (br_t rfl hp))))⟩
    | false =>
      exact ⟨r, fun post hp => br_f h (cb_xs0 R h2 (by omega) hS (br_t rfl (nm_r (nI_1 i) (hX post hp)))),
        fun post hp => br_f h (cb_yn0 R h2 (by omega) hS (br_t rfl (nm_r (nI_1 i) (hY post hp))))⟩
theorem cb_comL (R : cb_R nv nb co rs sz cf rt hs) : ∀ d i (c : Int32), i + d = 2 ^ (nb * nv) → ∃ r : Int32,
    (∀ post : Int32 → Prop, post r → wX_common_4 post (nI nv) (nI nb) (nI (2 ^ nb - 1)) (nI (2 ^ (nb * nv))) dl co rs sz (d + 1) c (nI i)) ∧
    (∀ post : Int32 → Prop, post r → wY_common_4 post (nI nv) (nI nb) (nI (2 ^ nb)) (nI (2 ^ (nb * nv))) dl sz cf rt sn (d + 1) c (nI i)) := by
  have hA := cb_pA R.1
  intro d
  induction d with
  | zero =>
    intro i c hi
    have h : nI (2 ^ (nb * nv)) ≤ nI i := nI_le (by omega) (by omega)
    exact ⟨c, fun _ hp => br_t h hp, fun _ hp => br_t h hp⟩
  | succ d ih =>
    intro i c hi
    have h : ¬ nI (2 ^ (nb * nv)) ≤ nI i := nI_ge (by omega) (by omega)
    obtain ⟨r, hX, hY⟩ := ih (i + 1) c (by omega)
    obtain ⟨r1, hX1, hY1⟩ := ih (i + 1) (c + 1) (by omega)
    cases hS : cb_S co rs hs nv nb 0 i (-1) with
    | true =>
      cases hT : cb_S co rs hs nv nb 1 i (-1) with
      | true =>
        exact ⟨r1, fun post hp => br_f h (cb_xs1 (s := 0) R (by omega) (by omega) hS (br_f (by decide) (cb_xs1 (s := 1) R (by omega) (by omega) hT (br_f (by decide) (nm_e (nm_r (nI_1 i) (hX1 post hp))))))),
          fun post hp => br_f h (cb_yn1 (s := 0) R (by omega) (by omega) hS (br_f (by decide) (cb_yn1 (s := 1) R (by omega) (by omega) hT (br_f (by decide) (nm_e (nm_r (nI_1 i) (hY1 post hp)))))))⟩
      | false =>
        exact ⟨r, fun post hp => br_f h (cb_xs1 (s := 0) R (by omega) (by omega) hS (br_f (by decide) (cb_xs0 (s := 1) R (by omega) (by omega) hT (br_t rfl (nm_r (nI_1 i) (hX post hp)))))),
          fun post hp => br_f h (cb_yn1 (s := 0) R (by omega) (by omega) hS (br_f (by decide) (cb_yn0 (s := 1) R (by omega) (by omega) hT (br_t rfl (nm_r (nI_1 i) (hY post hp))))))⟩
    | false =>
      exact ⟨r, fun post hp => br_f h (cb_xs0 (s := 0) R (by omega) (by omega) hS (br_t rfl (nm_r (nI_1 i) (hX post hp)))),
        fun post hp => br_f h (cb_yn0 (s := 0) R (by omega) (by omega) hS (br_t rfl (nm_r (nI_1 i) (hY post hp))))⟩
end
end
section
section
variable {nv nb : Nat} {dl co rs sz cf rt sn : Nat → Int32} {hs : Nat → Nat}
/-! withoutUnknown -/
theorem cb_cmpL (R : cb_R nv nb co rs sz cf rt hs) {s num v : Nat} (h2 : s < 2) (hv : v ≤ 4) (hn : num < 65536) : ∀ d x, x + d = 2 ^ nb → ∃ r : Int32,
    (∀ post : Int32 → Prop, post r → wX_canBeCompleted_3 post (nI s) (nI num) (nI v) (nI nv) (nI nb) (nI (2 ^ nb - 1)) (nI (2 ^ (nb * nv))) dl co rs sz (d + 1) (nI x)) ∧
    (∀ post : Int32 → Prop, post r → wY_completes_36 post (nI s) (nI num) (nI (2 ^ (nb * v))) (nI nv) (nI nb) (nI (2 ^ nb)) (nI (2 ^ (nb * nv))) dl sz cf rt sn (d + 1) (nI x)) := by
  have hM := cb_pM R.1
  have hV := cb_pV R.1 hv
  have hw := cb_nbv R.1 hv
  intro d
  induction d with
  | zero =>
    intro x hx
    have h : nI (2 ^ nb - 1) < nI x := nI_lt (by have := cb_pM0 (nb := nb); omega) (by omega)
    have h' : nI (2 ^ nb) ≤ nI x := nI_le (by omega) (by omega)
    exact ⟨0, fun _ hp => br_t h hp, fun _ hp => br_t h' hp⟩
  | succ d ih =>
    intro x hx
    have h : ¬ nI (2 ^ nb - 1) < nI x := nI_nlt (by omega) (by omega)
    have h' : ¬ nI (2 ^ nb) ≤ nI x := nI_ge (by omega) (by omega)
    have hb : x * 2 ^ (nb * v) ≤ 16 * 65536 := Nat.mul_le_mul (by omega) hV
    have eX : nI num + (nI x <<< ((nI nb * nI v) &&& 31)) = nI (num + x * 2 ^ (nb * v)) := by
      rw [pk_mul, pk_shlN _ (nb * v) (s_l _ (by omega)) (by omega), nI_add]
    have eY : nI num + nI x * nI (2 ^ (nb * v)) = nI (num + x * 2 ^ (nb * v)) := by rw [pk_mul, nI_add]
    cases hS : cb_S co rs hs nv nb s (num + x * 2 ^ (nb * v)) (-1) with
    | true =>
      exact ⟨1, fun post hp => br_f h (by rw [eX]; exact cb_xs1 R h2 (by omega) hS (br_f (by decide) hp)),
        fun post hp => br_f h' (by rw [eY]; exact cb_yn1 R h2 (by omega) hS (br_f (by decide) hp))⟩
    | false =>
      obtain ⟨r, hX, hY⟩ := ih (x + 1) (by omega)
      exact ⟨r, fun post hp => br_f h (by rw [eX]; exact cb_xs0 R h2 (by omega) hS (br_t rfl (nm_r (nI_1 x) (hX post hp)))),
        fun post hp => br_f h' (by rw [eY]; exact cb_yn0 R h2 (by omega) hS (br_t rfl (nm_r (nI_1 x) (hY post hp))))⟩
theorem cb_cmpW {post : Int32 → Prop} {s num v : Nat} (hv : v ≤ 4) (h : ∃ n, wY_completes_36 post (nI s) (nI num) (nI (2 ^ (nb * v))) (nI nv) (nI nb) (nI (2 ^ nb)) (nI (2 ^ (nb * nv))) dl sz cf rt sn n 0) : ∀ d k, k + d = v →
    wY_completes_6 post (nI s) (nI num) (nI v) (nI nv) (nI nb) (nI (2 ^ nb)) (nI (2 ^ (nb * nv))) dl sz cf rt sn (d + 1) (nI (2 ^ (nb * k))) (nI k) := by
  intro d
  induction d with
  | zero =>
    intro k hk
    have e : k = v := by omega
    subst e
    exact br_t (nI_le (by omega) (by omega)) h
  | succ d ih =>
    intro k hk
    refine br_f (nI_ge (by omega) (by omega)) (br_f (nI_ge (b := 4) (by omega) (by decide)) (nm_r ?_ (nm_r (nI_1 k) (ih (k + 1) (by omega)))))
    rw [pk_mul, ← Nat.pow_add, Nat.mul_succ]
theorem cb_cmp (R : cb_R nv nb co rs sz cf rt hs) {s num v : Nat} (h2 : s < 2) (hv : v ≤ 4) (hn : num < 65536) : ∃ r : Int32,
    (∀ post : Int32 → Prop, post r → wpX_canBeCompleted post (cb_X nv nb dl co rs sz) (nI s) (nI num) (nI v)) ∧
    (∀ post : Int32 → Prop, post r → wpY_completes post (cb_Y nv nb dl sz cf rt sn) (nI s) (nI num) (nI v)) := by
  obtain ⟨r, hX, hY⟩ := cb_cmpL (dl := dl) (sn := sn) R h2 hv hn (2 ^ nb) 0 (by omega)
  refine ⟨r, fun post hp => ⟨_, hX post hp⟩, fun post hp => ⟨v + 1, ?_⟩⟩
  have := cb_cmpW (nv := nv) (dl := dl) (sz := sz) (cf := cf) (rt := rt) (sn := sn) hv ⟨_, hY post hp⟩ v 0 (by omega)
  rw [Nat.mul_zero, Nat.pow_zero] at this
  exact this
theorem cb_witoL (R : cb_R nv nb co rs sz cf rt hs) {s v : Nat} (h2 : s < 2) (hv : v ≤ 4) : ∀ d i (c : Int32), i + d = 2 ^ (nb * nv) → ∃ r : Int32,
    (∀ post : Int32 → Prop, post r → wX_withoutUnknown_25 post (nI s) (nI v) (nI nv) (nI nb) (nI (2 ^ nb - 1)) (nI (2 ^ (nb * nv))) dl co rs sz (d + 1) c (nI i)) ∧
    (∀ post : Int32 → Prop, post r → wY_withoutUnknown_26 post (nI s) (nI v) (nI nv) (nI nb) (nI (2 ^ nb)) (nI (2 ^ (nb * nv))) dl sz cf rt sn (d + 1) c (nI i)) := by
  have hA := cb_pA R.1
  intro d
  induction d with
  | zero =>
    intro i c hi
    have h : nI (2 ^ (nb * nv)) ≤ nI i := nI_le (by omega) (by omega)
    exact ⟨c, fun _ hp => br_t h hp, fun _ hp => br_t h hp⟩
  | succ d ih =>
    intro i c hi
    have h : ¬ nI (2 ^ (nb * nv)) ≤ nI i := nI_ge (by omega) (by omega)
    obtain ⟨r, hX, hY⟩ := ih (i + 1) c (by omega)
    by_cases e : nI (cb_dg nb i v) = 0
    · obtain ⟨q, qX, qY⟩ := cb_cmp (dl := dl) (sn := sn) R h2 hv (show i < 65536 by omega)
      by_cases e2 : q = 0
      · exact ⟨r, fun post hp => br_f h (cb_xd R.1 hv (by omega) (br_t e (qX _ (br_t e2 (nm_r (nI_1 i) (hX post hp)))))),
          fun post hp => br_f h (cb_yd R.1 hv (by omega) (br_t e (qY _ (br_t e2 (nm_r (nI_1 i) (hY post hp))))))⟩
      · obtain ⟨r1, hX1, hY1⟩ := ih (i + 1) (c + 1) (by omega)
        exact ⟨r1, fun post hp => br_f h (cb_xd R.1 hv (by omega) (br_t e (qX _ (br_f e2 (nm_e (nm_r (nI_1 i) (hX1 post hp))))))),
          fun post hp => br_f h (cb_yd R.1 hv (by omega) (br_t e (qY _ (br_f e2 (nm_e (nm_r (nI_1 i) (hY1 post hp)))))))⟩
    · exact ⟨r, fun post hp => br_f h (cb_xd R.1 hv (by omega) (br_f e (nm_r (nI_1 i) (hX post hp)))),
        fun post hp => br_f h (cb_yd R.1 hv (by omega) (br_f e (nm_r (nI_1 i) (hY post hp))))⟩
/-! redundant -/
theorem cb_allM {P Q : Nat → Bool} : ∀ d i, (∀ j, i ≤ j → j < i + d → P j = true → Q j = true) → cb_all P i d = true → cb_all Q i d = true := by
  intro d
  induction d with
  | zero => intro i _ _; rfl
  | succ d ih =>
    intro i h hP
    have hP2 : (P i && cb_all P (i + 1) d) = true := hP
    rw [Bool.and_eq_true] at hP2
    show (Q i && cb_all Q (i + 1) d) = true
    rw [h i (by omega) (by omega) hP2.1, ih (i + 1) (fun j h1 h3 => h j (by omega) (by omega)) hP2.2]
    rfl
theorem cb_SM (Z : cb_sz sz hs) {s num : Nat} (h2 : s < 2) (lo : Int32) (h : cb_S co rs hs nv nb s num (-1) = true) : cb_S co rs hs nv nb s num lo = true := by
  have h10 := (Z s h2).2
  refine cb_allM _ _ (fun j _ hj hP => ?_) h
  have e : ¬ nI j = -1 := fun e => by
    have := nI_pos' (n := j) (by omega)
    rw [e] at this
    exact absurd this (by decide)
  rw [decide_eq_false e, Bool.false_or] at hP
  rw [hP, Bool.or_true]
theorem cb_redL (R : cb_R nv nb co rs sz cf rt hs) {s : Nat} (h2 : s < 2) (lo : Int32) : ∀ d i, i + d = 2 ^ (nb * nv) → ∃ r : Int32,
    (∀ post : Int32 → Prop, post r → wX_redundant_23 post (nI s) lo (nI nv) (nI nb) (nI (2 ^ nb - 1)) (nI (2 ^ (nb * nv))) dl co rs sz (d + 1) (nI i)) ∧
    (∀ post : Int32 → Prop, post r → wY_redundant_29 post (nI s) lo (nI nv) (nI nb) (nI (2 ^ nb)) (nI (2 ^ (nb * nv))) dl sz cf rt sn (d + 1) (nI i)) := by
  have hA := cb_pA R.1
  intro d
  induction d with
  | zero =>
    intro i hi
    have h : nI (2 ^ (nb * nv)) ≤ nI i := nI_le (by omega) (by omega)
    exact ⟨1, fun _ hp => br_t h hp, fun _ hp => br_t h hp⟩
  | succ d ih =>
    intro i hi
    have h : ¬ nI (2 ^ (nb * nv)) ≤ nI i := nI_ge (by omega) (by omega)
    obtain ⟨r, hX, hY⟩ := ih (i + 1) (by omega)
    cases hT : cb_S co rs hs nv nb s i (-1) with
    | true =>
      have hS := cb_SM R.2.1 h2 lo hT
      exact ⟨r, fun post hp => br_f h (cb_xs1 R h2 (by omega) hS (br_f (by decide) (cb_xs1 R h2 (by omega) hT (br_f (by decide) (nm_r (nI_1 i) (hX post hp)))))),
        fun post hp => br_f h (cb_ys1 R h2 (by omega) hT (cb_ys1 R h2 (by omega) hS (br_t rfl (nm_r (nI_1 i) (hY post hp)))))⟩
    | false =>
      cases hS : cb_S co rs hs nv nb s i lo with
      | true =>
        exact ⟨0, fun post hp => br_f h (cb_xs1 R h2 (by omega) hS (br_f (by decide) (cb_xs0 R h2 (by omega) hT (br_t rfl hp)))),
          fun post hp => br_f h (cb_ys0 R h2 (by omega) hT (cb_ys1 R h2 (by omega) hS (br_f (by decide) hp)))⟩
      | false =>
        exact ⟨r, fun post hp => br_f h (cb_xs0 R h2 (by omega) hS (br_t rfl (nm_r (nI_1 i) (hX post hp)))),
          fun post hp => br_f h (cb_ys0 R h2 (by omega) hT (cb_ys0 R h2 (by omega) hS (br_t rfl (nm_r (nI_1 i) (hY post hp)))))⟩
/-! values, leastValue -/
def cb_hit (co rs dl : Nat → Int32) (hs : Nat → Nat) (nv nb s x : Nat) : Prop := ∃ a, a < 2 ^ (nb * nv) ∧ cb_S co rs hs nv nb s a (-1) = true ∧ cb_lv dl nv nb a 0 = nI x
theorem cb_xc (R : cb_R nv nb co rs sz cf rt hs) {s x : Nat} (h2 : s < 2) (hx : x < 2 ^ nb) : ∃ r : Nat, r ≤ 512 ∧ (0 < r ↔ cb_hit co rs dl hs nv nb s x) ∧
    ∀ post : Int32 → Prop, post (nI r) → wpX_countAt post (cb_X nv nb dl co rs sz) (nI s) (nI x) := by
  have hA := cb_pA R.1
  have hM := cb_pM R.1
  obtain ⟨r, h1, _, h3, hX, _⟩ := cb_catL (dl := dl) (sn := fun _ => 0) R h2 (nI x) (2 ^ (nb * nv)) 0 0 (by omega)
  rw [cb_and R.1 (by omega), Nat.mod_eq_of_lt hx] at h3
  refine ⟨r, by omega, ⟨fun z => ?_, fun ⟨a, ha, hb⟩ => h3.mpr ⟨a, by omega, ha, hb⟩⟩, fun post hp => ?_⟩
  · obtain ⟨a, _, ha⟩ := h3.mp z
    exact ⟨a, ha⟩
  · unfold wpX_countAt
    dsimp only
    refine cb_xy h2 ?_
    refine br_f (by decide) ?_
    exact ⟨_, hX post hp⟩
def cb_marks (co rs dl sn : Nat → Int32) (hs : Nat → Nat) (nv nb s : Nat) : Prop := ∀ c, c < 16 → (sn c = 0 ↔ ¬ cb_hit co rs dl hs nv nb s c)
theorem cb_n1 : vp_nar .boolean 1 = 1 := rfl
theorem cb_n0 : vp_nar .boolean 0 = 0 := rfl
theorem cb_mk23 (R : cb_R nv nb co rs sz cf rt hs) {s : Nat} (h2 : s < 2) {post : SY → Prop} (hp : ∀ sn, cb_marks co rs dl sn hs nv nb s → post (cb_Y nv nb dl sz cf rt sn)) :
    ∀ d i sn, i + d = 2 ^ (nb * nv) → (∀ c, c < 16 → (sn c = 0 ↔ ¬ ∃ a, a < i ∧ cb_S co rs hs nv nb s a (-1) = true ∧ cb_lv dl nv nb a 0 = nI c)) →
    wY_mark_23 post (nI s) (nI nv) (nI nb) (nI (2 ^ nb)) (nI (2 ^ (nb * nv))) (d + 1) (nI i) dl sz cf rt sn := by
  have hA := cb_pA R.1
  have hM := cb_pM R.1
  intro d
  induction d with
  | zero =>
    intro i sn hi hm
    have e : i = 2 ^ (nb * nv) := by omega
    subst e
    exact br_t (nI_le (by omega) (by omega)) (hp sn hm)
  | succ d ih =>
    intro i sn hi hm
    refine br_f (nI_ge (by omega) (by omega)) ?_
    cases hS : cb_S co rs hs nv nb s i (-1) with
    | true =>
      obtain ⟨j, hj, ej⟩ := cb_lvE R.1 dl i 0
      refine cb_yn1 R h2 (by omega) hS (br_f (by decide) (cb_yv R.1 (by omega) ?_))
      rw [ej]
      refine br_f (nI_pos (by omega)) (br_f (nI_ge (b := 16) (by omega) (by decide)) ⟨pk_in j 16 (by omega), nm_e (nm_r (nI_1 i) (ih (i + 1) _ (by omega) ?_))⟩)
      intro c hc
      rw [nI_clamp (by omega), cb_n1]
      by_cases ec : c = j
      · subst ec
        rw [pk_us]
        exact ⟨fun z => absurd z (by decide), fun z => absurd ⟨i, by omega, hS, ej⟩ z⟩
      · rw [pk_un ec, hm c hc]
        refine not_congr ⟨fun ⟨a, h1, h3⟩ => ⟨a, by omega, h3⟩, fun ⟨a, h1, h3, h4⟩ => ?_⟩
        by_cases ea : a = i
        · subst ea
          rw [ej, nI_eq (by omega) (by omega)] at h4
          exact absurd h4.symm ec
        · exact ⟨a, by omega, h3, h4⟩
    | false =>
      refine cb_yn0 R h2 (by omega) hS (br_t rfl (nm_r (nI_1 i) (ih (i + 1) sn (by omega) ?_)))
      intro c hc
      rw [hm c hc]
      refine not_congr ⟨fun ⟨a, h1, h3⟩ => ⟨a, by omega, h3⟩, fun ⟨a, h1, h3, h4⟩ => ?_⟩
      by_cases ea : a = i
      · subst ea
        rw [hS] at h3
        exact absurd h3 (by decide)
      · exact ⟨a, by omega, h3, h4⟩
theorem cb_mk2 (R : cb_R nv nb co rs sz cf rt hs) {s : Nat} (h2 : s < 2) {post : SY → Prop} (hp : ∀ sn, cb_marks co rs dl sn hs nv nb s → post (cb_Y nv nb dl sz cf rt sn)) :
    ∀ d i sn, i + d = 16 → (∀ c, c < i → sn c = 0) → wY_mark_2 post (nI s) (nI nv) (nI nb) (nI (2 ^ nb)) (nI (2 ^ (nb * nv))) (d + 1) (nI i) dl sz cf rt sn := by
  intro d
  induction d with
  | zero =>
    intro i sn hi hm
    refine br_t (nI_le (a := 16) (by omega) (by omega)) ⟨_, cb_mk23 R h2 hp (2 ^ (nb * nv)) 0 sn (by omega) (fun c hc => ?_)⟩
    exact ⟨fun _ ⟨a, h1, _⟩ => absurd h1 (by omega), fun _ => hm c (by omega)⟩
  | succ d ih =>
    intro i sn hi hm
    refine br_f (nI_ge (b := 16) (by omega) (by omega)) ⟨pk_in i 16 (by omega), nm_e (nm_r (nI_1 i) (ih (i + 1) _ (by omega) ?_))⟩
    intro c hc
    rw [nI_clamp (by omega), cb_n0]
    by_cases ec : c = i
    · subst ec
      exact pk_us
    · rw [pk_un ec]
      exact hm c (by omega)
theorem cb_mark (R : cb_R nv nb co rs sz cf rt hs) {s : Nat} (h2 : s < 2) {post : SY → Prop} (hp : ∀ sn, cb_marks co rs dl sn hs nv nb s → post (cb_Y nv nb dl sz cf rt sn)) :
    wpY_mark post (cb_Y nv nb dl sz cf rt sn) (nI s) := ⟨_, cb_mk2 R h2 hp 16 0 sn (by omega) (fun c hc => absurd hc (by omega))⟩
theorem cb_hitN (ok : cb_ok nv nb) {s x : Nat} (h : 2 ^ nb ≤ x) (hx : x < 16) : ¬ cb_hit co rs dl hs nv nb s x := by
  intro ⟨a, _, _, e⟩
  obtain ⟨j, hj, ej⟩ := cb_lvE ok dl a 0
  rw [ej, nI_eq (by have := cb_pM ok; omega) (by omega)] at e
  omega
theorem cb_valT (ok : cb_ok nv nb) {s : Nat} (hm : cb_marks co rs dl sn hs nv nb s) {c : Int32} {post : Int32 → SY → Prop} (hp : post c (cb_Y nv nb dl sz cf rt sn)) : ∀ e x, x + e = 16 → 2 ^ nb ≤ x →
    wY_values_19 post (nI nv) (nI nb) (nI (2 ^ nb)) (nI (2 ^ (nb * nv))) dl sz cf rt sn (e + 1) c (nI x) := by
  intro e
  induction e with
  | zero =>
    intro x hx _
    exact br_t (nI_le (a := 16) (by omega) (by omega)) hp
  | succ e ih =>
    intro x hx hb
    refine br_f (nI_ge (b := 16) (by omega) (by omega)) ⟨pk_in x 16 (by omega), br_t ?_ (nm_r (nI_1 x) (ih (x + 1) (by omega) (by omega)))⟩
    rw [nI_clamp (by omega)]
    exact (hm x (by omega)).mpr (cb_hitN ok hb (by omega))
theorem cb_valL (R : cb_R nv nb co rs sz cf rt hs) {s : Nat} (h2 : s < 2) : ∀ d x (c : Int32), x + d = 2 ^ nb → ∃ r : Int32,
    (∀ post : Int32 → Prop, post r → wX_values_13 post (nI s) (nI nv) (nI nb) (nI (2 ^ nb - 1)) (nI (2 ^ (nb * nv))) dl co rs sz (d + 1) c (nI x)) ∧
    (∀ sn, cb_marks co rs dl sn hs nv nb s → ∀ post : Int32 → SY → Prop, post r (cb_Y nv nb dl sz cf rt sn) → ∀ e, x + e = 16 → wY_values_19 post (nI nv) (nI nb) (nI (2 ^ nb)) (nI (2 ^ (nb * nv))) dl sz cf rt sn (e + 1) c (nI x)) := by
  have hM := cb_pM R.1
  have hM0 := cb_pM0 (nb := nb)
  intro d
  induction d with
  | zero =>
    intro x c hx
    exact ⟨c, fun post hp => br_t (nI_lt (by omega) (by omega)) hp, fun sn hm post hp e he => cb_valT R.1 hm hp e x he (by omega)⟩
  | succ d ih =>
    intro x c hx
    have h : ¬ nI (2 ^ nb - 1) < nI x := nI_nlt (by omega) (by omega)
    have h' : ¬ (16 : Int32) ≤ nI x := nI_ge (b := 16) (by omega) (by omega)
    obtain ⟨q, q1, q2, qX⟩ := cb_xc (dl := dl) R h2 (show x < 2 ^ nb by omega)
    by_cases hit : cb_hit co rs dl hs nv nb s x
    · obtain ⟨r, hX, hY⟩ := ih (x + 1) (c + 1) (by omega)
      refine ⟨r, fun post hp => br_f h (qX _ (br_f (nI_nle (q2.mpr hit) (by omega)) (nm_e (nm_r (nI_1 x) (hX post hp))))), fun sn hm post hp e he => ?_⟩
      obtain ⟨e', rfl⟩ : ∃ e', e = e' + 1 := ⟨e - 1, by omega⟩
      refine br_f h' ⟨pk_in x 16 (by omega), br_f ?_ (nm_e (nm_r (nI_1 x) (hY sn hm post hp e' (by omega))))⟩
      rw [nI_clamp (by omega), hm x (by omega)]
      exact fun z => z hit
    · obtain ⟨r, hX, hY⟩ := ih (x + 1) c (by omega)
      have q0 : q = 0 := Nat.eq_zero_of_not_pos (fun z => hit (q2.mp z))
      subst q0
      refine ⟨r, fun post hp => br_f h (qX _ (br_t (by decide) (nm_r (nI_1 x) (hX post hp)))), fun sn hm post hp e he => ?_⟩
      obtain ⟨e', rfl⟩ : ∃ e', e = e' + 1 := ⟨e - 1, by omega⟩
      refine br_f h' ⟨pk_in x 16 (by omega), br_t ?_ (nm_r (nI_1 x) (hY sn hm post hp e' (by omega)))⟩
      rw [nI_clamp (by omega)]
      exact (hm x (by omega)).mpr hit
theorem cb_lstT (ok : cb_ok nv nb) {s : Nat} (hm : cb_marks co rs dl sn hs nv nb s) {post : Int32 → SY → Prop} (hp : post (-2) (cb_Y nv nb dl sz cf rt sn)) : ∀ e x, x + e = 16 → 2 ^ nb ≤ x →
    wY_leastValue_17 post (nI nv) (nI nb) (nI (2 ^ nb)) (nI (2 ^ (nb * nv))) dl sz cf rt sn (e + 1) (nI x) := by
  intro e
  induction e with
  | zero =>
    intro x hx _
    exact br_t (nI_le (a := 16) (by omega) (by omega)) hp
  | succ e ih =>
    intro x hx hb
    refine br_f (nI_ge (b := 16) (by omega) (by omega)) ⟨pk_in x 16 (by omega), br_t ?_ (nm_r (nI_1 x) (ih (x + 1) (by omega) (by omega)))⟩
    rw [nI_clamp (by omega)]
    exact (hm x (by omega)).mpr (cb_hitN ok hb (by omega))
theorem cb_lstL (R : cb_R nv nb co rs sz cf rt hs) {s : Nat} (h2 : s < 2) : ∀ d x, x + d = 2 ^ nb → ∃ r : Int32,
    (∀ post : Int32 → Prop, post r → wX_leastValue_11 post (nI s) (nI nv) (nI nb) (nI (2 ^ nb - 1)) (nI (2 ^ (nb * nv))) dl co rs sz (d + 1) (nI x)) ∧
    (∀ sn, cb_marks co rs dl sn hs nv nb s → ∀ post : Int32 → SY → Prop, post r (cb_Y nv nb dl sz cf rt sn) → ∀ e, x + e = 16 → wY_leastValue_17 post (nI nv) (nI nb) (nI (2 ^ nb)) (nI (2 ^ (nb * nv))) dl sz cf rt sn (e + 1) (nI x)) := by
  have hM := cb_pM R.1
  have hM0 := cb_pM0 (nb := nb)
  intro d
  induction d with
  | zero =>
    intro x hx
    exact ⟨-2, fun post hp => br_t (nI_lt (by omega) (by omega)) hp, fun sn hm post hp e he => cb_lstT R.1 hm hp e x he (by omega)⟩
  | succ d ih =>
    intro x hx
    have h : ¬ nI (2 ^ nb - 1) < nI x := nI_nlt (by omega) (by omega)
    have h' : ¬ (16 : Int32) ≤ nI x := nI_ge (b := 16) (by omega) (by omega)
    obtain ⟨q, q1, q2, qX⟩ := cb_xc (dl := dl) R h2 (show x < 2 ^ nb by omega)
    by_cases hit : cb_hit co rs dl hs nv nb s x
    · refine ⟨nI x, fun post hp => br_f h (qX _ (br_f (nI_nle (q2.mpr hit) (by omega)) hp)), fun sn hm post hp e he => ?_⟩
      obtain ⟨e', rfl⟩ : ∃ e', e = e' + 1 := ⟨e - 1, by omega⟩
      refine br_f h' ⟨pk_in x 16 (by omega), br_f ?_ hp⟩
      rw [nI_clamp (by omega), hm x (by omega)]
      exact fun z => z hit
    · obtain ⟨r, hX, hY⟩ := ih (x + 1) (by omega)
      have q0 : q = 0 := Nat.eq_zero_of_not_pos (fun z => hit (q2.mp z))
      subst q0
      refine ⟨r, fun post hp => br_f h (qX _ (br_t (by decide) (nm_r (nI_1 x) (hX post hp)))), fun sn hm post hp e he => ?_⟩
      obtain ⟨e', rfl⟩ : ∃ e', e = e' + 1 := ⟨e - 1, by omega⟩
      refine br_f h' ⟨pk_in x 16 (by omega), br_t ?_ (nm_r (nI_1 x) (hY sn hm post hp e' (by omega)))⟩
      rw [nI_clamp (by omega)]
      exact (hm x (by omega)).mpr hit
end
end
section
section
variable {nv nb : Nat} {dl co rs sz cf rt sn : Nat → Int32} {hs : Nat → Nat}
theorem cb_or (a b : Nat) : nI a ||| nI b = nI (a ||| b) := by
  apply Int32.toBitVec_inj.1
  show BitVec.ofNat 32 a ||| BitVec.ofNat 32 b = BitVec.ofNat 32 (a ||| b)
  apply BitVec.eq_of_getLsbD_eq
  intro i hi
  simp [hi]
/-- the first solution, on both sides -/
theorem cb_nth0 (R : cb_R nv nb co rs sz cf rt hs) {s : Nat} (h2 : s < 2) : ∀ d i, i + d = 2 ^ (nb * nv) →
    (∃ a, a < 2 ^ (nb * nv) ∧ cb_S co rs hs nv nb s a (-1) = true ∧ (∀ b, i ≤ b → b < a → cb_S co rs hs nv nb s b (-1) = false) ∧
      (∀ post : Int32 → Prop, post (nI a) → wX_nth_14 post (nI s) 0 (nI nv) (nI nb) (nI (2 ^ nb - 1)) (nI (2 ^ (nb * nv))) dl co rs sz (d + 1) 0 (nI i)) ∧
      (∀ post : Int32 → Prop, post (nI a) → wY_nth_15 post (nI s) 0 (nI nv) (nI nb) (nI (2 ^ nb)) (nI (2 ^ (nb * nv))) dl sz cf rt sn (d + 1) 0 (nI i))) ∨
    ((∀ post : Int32 → Prop, post (-2) → wX_nth_14 post (nI s) 0 (nI nv) (nI nb) (nI (2 ^ nb - 1)) (nI (2 ^ (nb * nv))) dl co rs sz (d + 1) 0 (nI i)) ∧
      (∀ post : Int32 → Prop, post (-2) → wY_nth_15 post (nI s) 0 (nI nv) (nI nb) (nI (2 ^ nb)) (nI (2 ^ (nb * nv))) dl sz cf rt sn (d + 1) 0 (nI i))) := by
  have hA := cb_pA R.1
  intro d
  induction d with
  | zero =>
    intro i hi
    have h : nI (2 ^ (nb * nv)) ≤ nI i := nI_le (by omega) (by omega)
    exact Or.inr ⟨fun _ hp => br_t h hp, fun _ hp => br_t h hp⟩
  | succ d ih =>
    intro i hi
    have h : ¬ nI (2 ^ (nb * nv)) ≤ nI i := nI_ge (by omega) (by omega)
    cases hS : cb_S co rs hs nv nb s i (-1) with
    | true =>
      exact Or.inl ⟨i, by omega, hS, fun b h1 h3 => absurd h1 (by omega), fun post hp => br_f h (cb_xs1 R h2 (by omega) hS (br_f (by decide) (br_t rfl hp))),
          fun post hp => br_f h (cb_yn1 R h2 (by omega) hS (br_f (by decide) (br_t rfl hp)))⟩
    | false =>
      rcases ih (i + 1) (by omega) with ⟨a, h1, h3, h4, hX, hY⟩ | ⟨hX, hY⟩
      · refine Or.inl ⟨a, h1, h3, fun b hb hb2 => ?_, fun post hp => br_f h (cb_xs0 R h2 (by omega) hS (br_t rfl (nm_r (nI_1 i) (hX post hp)))),
          fun post hp => br_f h (cb_yn0 R h2 (by omega) hS (br_t rfl (nm_r (nI_1 i) (hY post hp))))⟩
        by_cases e : b = i
        · rw [e]
          exact hS
        · exact h4 b (by omega) hb2
      · exact Or.inr ⟨fun post hp => br_f h (cb_xs0 R h2 (by omega) hS (br_t rfl (nm_r (nI_1 i) (hX post hp)))),
          fun post hp => br_f h (cb_yn0 R h2 (by omega) hS (br_t rfl (nm_r (nI_1 i) (hY post hp))))⟩
theorem cb_dif16 (R : cb_R nv nb co rs sz cf rt hs) {s v fv : Nat} (h2 : s < 2) (hv : v ≤ 4) (hf : fv < 2 ^ nb) : ∀ d i D, i + d = 2 ^ (nb * nv) → D < 2 ^ 4 → ∃ E, E < 2 ^ 4 ∧
    (∀ j, E.testBit j = true ↔ (D.testBit j = true ∨ ∃ b, i ≤ b ∧ b < 2 ^ (nb * nv) ∧ cb_S co rs hs nv nb s b (-1) = true ∧ ¬ (cb_dg nb b v).testBit j = fv.testBit j)) ∧
    ∀ post : Int32 → Prop, post (nI E) → wX_differingBits_16 post (nI s) (nI v) (nI fv) (nI nv) (nI nb) (nI (2 ^ nb - 1)) (nI (2 ^ (nb * nv))) dl co rs sz (d + 1) (nI D) (nI i) := by
  have hA := cb_pA R.1
  have hM := cb_pM R.1
  intro d
  induction d with
  | zero =>
    intro i D hi hD
    exact ⟨D, hD, fun j => ⟨fun z => Or.inl z, fun z => z.elim id (fun ⟨b, h1, h3, _⟩ => absurd h1 (by omega))⟩, fun post hp => br_t (nI_le (by omega) (by omega)) hp⟩
  | succ d ih =>
    intro i D hi hD
    have h : ¬ nI (2 ^ (nb * nv)) ≤ nI i := nI_ge (by omega) (by omega)
    cases hS : cb_S co rs hs nv nb s i (-1) with
    | true =>
      have hx : cb_dg nb i v ^^^ fv < 2 ^ 4 := Nat.xor_lt_two_pow (by have := cb_dg_lt (nb := nb) (num := i) (v := v); omega) (by omega)
      obtain ⟨E, h1, h3, hX⟩ := ih (i + 1) (D ||| (cb_dg nb i v ^^^ fv)) (by omega) (Nat.or_lt_two_pow hD hx)
      refine ⟨E, h1, fun j => ?_, fun post hp => br_f h (cb_xs1 R h2 (by omega) hS (br_f (by decide) (cb_xd R.1 hv (by omega) (nm_r (by rw [nx_xor, cb_or]) (nm_r (nI_1 i) (hX post hp))))))⟩
      rw [h3 j, Nat.testBit_or, Nat.testBit_xor, Bool.or_eq_true, or_assoc]
      refine or_congr Iff.rfl ⟨fun z => ?_, fun ⟨b, h4, h5, h6, h7⟩ => ?_⟩
      · rcases z with z | ⟨b, h4, h5⟩
        · refine ⟨i, by omega, by omega, hS, fun e => ?_⟩
          rw [e, Bool.xor_self] at z
          exact absurd z (by decide)
        · exact ⟨b, by omega, h5⟩
      · by_cases e : b = i
        · subst e
          refine Or.inl ?_
          revert h7
          cases (cb_dg nb b v).testBit j <;> cases fv.testBit j <;> decide
        · exact Or.inr ⟨b, by omega, h5, h6, h7⟩
    | false =>
      obtain ⟨E, h1, h3, hX⟩ := ih (i + 1) D (by omega) hD
      refine ⟨E, h1, fun j => ?_, fun post hp => br_f h (cb_xs0 R h2 (by omega) hS (br_t rfl (nm_r (nI_1 i) (hX post hp))))⟩
      rw [h3 j]
      refine or_congr Iff.rfl ⟨fun ⟨b, h4, h5⟩ => ⟨b, by omega, h5⟩, fun ⟨b, h4, h5, h6, h7⟩ => ?_⟩
      by_cases e : b = i
      · subst e
        rw [hS] at h6
        exact absurd h6 (by decide)
      · exact ⟨b, by omega, h5, h6, h7⟩
theorem cb_bit {D j : Nat} (hD : D < 2 ^ 4) (hj : j < 32) : ((nI D >>> (nI j &&& 31)) &&& 1) = 0 ↔ D.testBit j = false := by
  have h : D / 2 ^ j ≤ D := Nat.div_le_self _ _
  rw [pk_shrN (by omega) _ j (s_l j hj)]
  show nI (D / 2 ^ j) &&& nI 1 = nI 0 ↔ _
  rw [nx_and, Nat.and_one_is_mod, nI_eq (by omega) (by omega), Nat.testBit_eq_decide_div_mod_eq, decide_eq_false_iff_not]
  generalize D / 2 ^ j = z
  omega
theorem cb_set46 (ok : cb_ok nv nb) {D : Nat} (hD : D < 2 ^ 4) : ∀ d j, j + d = nb → (∀ t, t < j → D.testBit t = false) → ∃ J, J ≤ nb ∧ (∀ t, t < J → D.testBit t = false) ∧
    (J < nb → D.testBit J = true) ∧ ∀ post : Int32 → Prop, post (nI J) → wX_settledBits_46 post (nI D) (nI nv) (nI nb) (nI (2 ^ nb - 1)) (nI (2 ^ (nb * nv))) dl co rs sz (d + 1) (nI j) := by
  have hb := ok.2.2.2.1
  intro d
  induction d with
  | zero =>
    intro j hj ht
    have e : j = nb := by omega
    subst e
    exact ⟨j, by omega, ht, fun z => absurd z (by omega), fun post hp => br_t (nI_le (by omega) (by omega)) hp⟩
  | succ d ih =>
    intro j hj ht
    have h : ¬ nI nb ≤ nI j := nI_ge (by omega) (by omega)
    cases hB : D.testBit j with
    | false =>
      obtain ⟨J, h1, h3, h4, hX⟩ := ih (j + 1) (by omega) (fun t h => by
        by_cases e : t = j
        · rw [e]; exact hB
        · exact ht t (by omega))
      exact ⟨J, h1, h3, h4, fun post hp => br_f h (br_t ((cb_bit hD (by omega)).mpr hB) (nm_r (nI_1 j) (hX post hp)))⟩
    | true =>
      exact ⟨j, by omega, ht, fun _ => hB, fun post hp => br_f h (br_f (fun z => by
        have := (cb_bit hD (by omega)).mp z
        rw [hB] at this
        exact absurd this (by decide)) hp)⟩
theorem cb_low {j : Nat} (hj : j ≤ 4) : ((1 : Int32) <<< (nI j &&& 31)) - 1 = nI (2 ^ j - 1) := by
  have : 2 ^ j ≤ 16 := Nat.pow_le_pow_right (n := 2) (by decide) hj
  show (nI 1 <<< (nI j &&& 31)) - nI 1 = _
  rw [pk_shlN _ j (s_l j (by omega)) (by omega), Nat.one_mul, pk_sub (Nat.two_pow_pos j)]
theorem cb_andj {x j : Nat} (hj : j ≤ 4) (hx : x < 16) : nI x &&& nI (2 ^ j - 1) = nI (x % 2 ^ j) := by
  rw [nx_and, Nat.and_two_pow_sub_one_eq_mod]
theorem cb_alkT (R : cb_R nv nb co rs sz cf rt hs) {s v fv j : Nat} (h2 : s < 2) (hv : v ≤ 4) (hf : fv < 2 ^ nb) (hj : j ≤ 4) {post : Int32 → Prop} (hp : post 1)
    (H : ∀ b, b < 2 ^ (nb * nv) → cb_S co rs hs nv nb s b (-1) = true → cb_dg nb b v % 2 ^ j = fv % 2 ^ j) : ∀ d i, i + d = 2 ^ (nb * nv) →
    wY_alike_10 post (nI s) (nI v) (nI fv) (nI (2 ^ j - 1)) (nI nv) (nI nb) (nI (2 ^ nb)) (nI (2 ^ (nb * nv))) dl sz cf rt sn (d + 1) (nI i) := by
  have hA := cb_pA R.1
  have hM := cb_pM R.1
  intro d
  induction d with
  | zero =>
    intro i hi
    exact br_t (nI_le (by omega) (by omega)) hp
  | succ d ih =>
    intro i hi
    refine br_f (nI_ge (by omega) (by omega)) ?_
    cases hS : cb_S co rs hs nv nb s i (-1) with
    | true =>
      refine cb_yn1 R h2 (by omega) hS (br_f (by decide) (cb_yd R.1 hv (by omega) (br_t ?_ (nm_r (nI_1 i) (ih (i + 1) (by omega))))))
      rw [cb_andj hj (by have := cb_dg_lt (nb := nb) (num := i) (v := v); omega), cb_andj hj (by omega), H i (by omega) hS]
    | false => exact cb_yn0 R h2 (by omega) hS (br_t rfl (nm_r (nI_1 i) (ih (i + 1) (by omega))))
theorem cb_alkF (R : cb_R nv nb co rs sz cf rt hs) {s v fv j : Nat} (h2 : s < 2) (hv : v ≤ 4) (hf : fv < 2 ^ nb) (hj : j ≤ 4) {post : Int32 → Prop} (hp : post 0) : ∀ d i, i + d = 2 ^ (nb * nv) →
    (∃ b, i ≤ b ∧ b < 2 ^ (nb * nv) ∧ cb_S co rs hs nv nb s b (-1) = true ∧ ¬ cb_dg nb b v % 2 ^ j = fv % 2 ^ j) →
    wY_alike_10 post (nI s) (nI v) (nI fv) (nI (2 ^ j - 1)) (nI nv) (nI nb) (nI (2 ^ nb)) (nI (2 ^ (nb * nv))) dl sz cf rt sn (d + 1) (nI i) := by
  have hA := cb_pA R.1
  have hM := cb_pM R.1
  intro d
  induction d with
  | zero =>
    intro i hi ⟨b, h1, h3, _⟩
    exact absurd h1 (by omega)
  | succ d ih =>
    intro i hi ⟨b, h1, h3, h4, h5⟩
    refine br_f (nI_ge (by omega) (by omega)) ?_
    cases hS : cb_S co rs hs nv nb s i (-1) with
    | true =>
      refine cb_yn1 R h2 (by omega) hS (br_f (by decide) (cb_yd R.1 hv (by omega) ?_))
      have := cb_dg_lt (nb := nb) (num := i) (v := v)
      have m1 : cb_dg nb i v % 2 ^ j ≤ cb_dg nb i v := Nat.mod_le _ _
      have m2 : fv % 2 ^ j ≤ fv := Nat.mod_le _ _
      rw [cb_andj hj (by omega), cb_andj hj (by omega)]
      by_cases e : cb_dg nb i v % 2 ^ j = fv % 2 ^ j
      · refine br_t (by rw [e]) (nm_r (nI_1 i) (ih (i + 1) (by omega) ⟨b, ?_, h3, h4, h5⟩))
        by_cases eb : b = i
        · subst eb
          exact absurd e h5
        · omega
      · exact br_f (fun z => e ((nI_eq (by omega) (by omega)).mp z)) hp
    | false =>
      refine cb_yn0 R h2 (by omega) hS (br_t rfl (nm_r (nI_1 i) (ih (i + 1) (by omega) ⟨b, ?_, h3, h4, h5⟩)))
      by_cases eb : b = i
      · subst eb
        rw [hS] at h4
        exact absurd h4 (by decide)
      · omega
theorem cb_set49 (R : cb_R nv nb co rs sz cf rt hs) {s v fv J : Nat} (h2 : s < 2) (hv : v ≤ 4) (hf : fv < 2 ^ nb) {post : Int32 → Prop} (hp : post (nI J))
    (HT : ∀ b, b < 2 ^ (nb * nv) → cb_S co rs hs nv nb s b (-1) = true → cb_dg nb b v % 2 ^ J = fv % 2 ^ J)
    (HF : ∀ j, J < j → j ≤ nb → ∃ b, b < 2 ^ (nb * nv) ∧ cb_S co rs hs nv nb s b (-1) = true ∧ ¬ cb_dg nb b v % 2 ^ j = fv % 2 ^ j) : ∀ j, J ≤ j → j ≤ nb →
    wY_settledBits_49 post (nI s) (nI v) (nI fv) (nI nv) (nI nb) (nI (2 ^ nb)) (nI (2 ^ (nb * nv))) dl sz cf rt sn (j + 1) (nI j) := by
  have hb := R.1.2.2.2.1
  intro j
  induction j with
  | zero =>
    intro h1 _
    have e : J = 0 := by omega
    subst e
    exact br_t (by decide) hp
  | succ j ih =>
    intro h1 h3
    refine br_f (nI_nle (by omega) (by omega)) ?_
    show ∀ x, x = ((1 : Int32) <<< (nI (j + 1) &&& 31)) - 1 → _
    rw [cb_low (by omega)]
    by_cases e : J = j + 1
    · subst e
      exact nm_e ⟨_, cb_alkT R h2 hv hf (by omega) (br_f (by decide) hp) HT (2 ^ (nb * nv)) 0 (by omega)⟩
    · obtain ⟨b, hb1, hb2⟩ := HF (j + 1) (by omega) h3
      exact nm_e ⟨_, cb_alkF R h2 hv hf (by omega) (br_t rfl (nm_r (pk_m1 j) (ih (by omega) (by omega)))) (2 ^ (nb * nv)) 0 (by omega) ⟨b, by omega, hb1, hb2⟩⟩
end
end
section
section
variable {nv nb : Nat} {dl co rs sz cf rt sn : Nat → Int32} {hs : Nat → Nat}
/-! arrays after a copy of w cells from F on to T on -/
def cb_cp (f : Nat → Int32) (F T w : Nat) : Nat → Int32 := fun j => if T ≤ j ∧ j < T + w then f (F + (j - T)) else f j
theorem cb_cpi {f : Nat → Int32} {F T w j : Nat} (h1 : T ≤ j) (h2 : j < T + w) : cb_cp f F T w j = f (F + (j - T)) := if_pos ⟨h1, h2⟩
theorem cb_cpo {f : Nat → Int32} {F T w j : Nat} (h : j < T ∨ T + w ≤ j) : cb_cp f F T w j = f j := if_neg (by omega)
theorem cb_cp0 {f : Nat → Int32} {F T : Nat} : cb_cp f F T 0 = f := funext fun j => cb_cpo (by omega)
theorem cb_cpS {f : Nat → Int32} {F T w : Nat} (h : F + w < T ∨ T ≤ F) : upd (cb_cp f F T w) (T + w) (cb_cp f F T w (F + w)) = cb_cp f F T (w + 1) := by
  funext j
  by_cases e : j = T + w
  · subst e
    rw [pk_us, cb_cpo (by omega), cb_cpi (by omega) (by omega)]
    exact congrArg f (by omega)
  · rw [pk_un e]
    by_cases h3 : T ≤ j ∧ j < T + w
    · rw [cb_cpi h3.1 h3.2, cb_cpi h3.1 (by omega)]
    · rw [cb_cpo (by omega), cb_cpo (by omega)]
theorem cb_cpA {f : Nat → Int32} {F T w : Nat} : ∀ k, (F + (w + k) ≤ T ∨ T ≤ F) → cb_cp (cb_cp f F T w) (F + w) (T + w) k = cb_cp f F T (w + k) := by
  intro k
  induction k with
  | zero => intro _; exact cb_cp0
  | succ k ih =>
    intro h
    rw [← cb_cpS (by omega), ih (by omega), Nat.add_assoc F, Nat.add_assoc T, cb_cpS (by omega)]
    rfl
def cb_st (g f : Nat → Int32) (T w : Nat) : Nat → Int32 := fun j => if T ≤ j ∧ j < T + w then g (j - T) else f j
theorem cb_sti {g f : Nat → Int32} {T w j : Nat} (h1 : T ≤ j) (h2 : j < T + w) : cb_st g f T w j = g (j - T) := if_pos ⟨h1, h2⟩
theorem cb_sto {g f : Nat → Int32} {T w j : Nat} (h : j < T ∨ T + w ≤ j) : cb_st g f T w j = f j := if_neg (by omega)
theorem cb_st0 {g f : Nat → Int32} {T : Nat} : cb_st g f T 0 = f := funext fun j => cb_sto (by omega)
theorem cb_stS {g f : Nat → Int32} {T w : Nat} : upd (cb_st g f T w) (T + w) (g w) = cb_st g f T (w + 1) := by
  funext j
  by_cases e : j = T + w
  · subst e
    rw [pk_us, cb_sti (by omega) (by omega)]
    exact congrArg g (by omega)
  · rw [pk_un e]
    by_cases h3 : T ≤ j ∧ j < T + w
    · rw [cb_sti h3.1 h3.2, cb_sti h3.1 (by omega)]
    · rw [cb_sto (by omega), cb_sto (by omega)]
theorem cb_r5 (s i v : Nat) : nI (10 * s + i) * 4 + nI v = nI (40 * s + 4 * i + v) := by rw [cb_r3, nI_add]
theorem cb_r6 (a v : Nat) : nI a * 4 + nI v = nI (4 * a + v) := by
  show nI a * nI 4 + nI v = _
  rw [pk_mul, nI_add, Nat.mul_comm]
/-! add -/
theorem cb_xadd {post : Int32 → SX → Prop} {s i : Nat} {q : Int32} (h2 : s < 2) (hi : i < 10) (hz : sz s = nI i)
    (hp : post (nI (i + 1)) (cb_X nv nb dl (cb_st dl co (40 * s + 4 * i) 4) (upd rs (10 * s + i) (q &&& nI (2 ^ nb - 1))) (upd sz s (nI (i + 1))))) : ∀ d v, v + d = 4 →
    wX_add_37 post (nI s) q (nI (10 * s + i)) (nI nv) (nI nb) (nI (2 ^ nb - 1)) (nI (2 ^ (nb * nv))) (d + 1) (nI v) dl (cb_st dl co (40 * s + 4 * i) v) rs sz := by
  have c1 : (nI s).toNatClampNeg = s := nI_clamp (by omega)
  have c2 : (nI (10 * s + i)).toNatClampNeg = 10 * s + i := nI_clamp (by omega)
  intro d
  induction d with
  | zero =>
    intro v hv
    have e : v = 4 := by omega
    subst e
    refine br_t (nI_le (a := 4) (by omega) (by omega)) ?_
    refine (show wpX_reduced _ (cb_X nv nb dl (cb_st dl co (40 * s + 4 * i) 4) rs sz) q from ?_)
    refine ⟨pk_in (10 * s + i) 20 (by omega), nm_r (by rw [c2]) ⟨pk_in s 2 h2, pk_in s 2 h2, nm_r (e' := upd sz s (nI (i + 1))) (by rw [c1, hz, nI_1]) ⟨pk_in s 2 h2, ?_⟩⟩⟩
    rw [c1, pk_us]
    exact hp
  | succ d ih =>
    intro v hv
    refine br_f (nI_ge (b := 4) (by omega) (by omega)) ⟨pk_in v 4 (by omega), pk_in (40 * s + 4 * i + v) 80 (by omega) (cb_r5 s i v), nm_r ?_ (nm_r (nI_1 v) (ih (v + 1) (by omega)))⟩
    rw [cb_r5, nI_clamp (by omega), nI_clamp (by omega), cb_stS]
theorem cb_yadd {post : Int32 → SY → Prop} {s i : Nat} {q : Int32} (h2 : s < 2) (hi : i < 10)
    (hp : post (nI (i + 1)) (cb_Y nv nb dl (upd sz s (nI (i + 1))) (cb_st dl cf (40 * s + 4 * i) 4) (upd rt (10 * s + i) (q &&& nI (2 ^ nb - 1))) sn)) : ∀ d v, v + d = 4 →
    wY_add_29 post (nI s) q (nI i) (nI nv) (nI nb) (nI (2 ^ nb)) (nI (2 ^ (nb * nv))) (d + 1) (nI v) dl sz (cb_st dl cf (40 * s + 4 * i) v) rt sn := by
  have c1 : (nI s).toNatClampNeg = s := nI_clamp (by omega)
  have c2 : (nI (10 * s + i)).toNatClampNeg = 10 * s + i := nI_clamp (by omega)
  intro d
  induction d with
  | zero =>
    intro v hv
    have e : v = 4 := by omega
    subst e
    refine br_t (nI_le (a := 4) (by omega) (by omega)) (cb_yr ?_)
    refine ⟨pk_in (10 * s + i) 20 (by omega) (cb_r2 s i), nm_r (by rw [cb_r2, c2]) ⟨pk_in s 2 h2, nm_r (e' := upd sz s (nI (i + 1))) (by rw [c1, nI_1]) ?_⟩⟩
    rw [nI_1]
    exact hp
  | succ d ih =>
    intro v hv
    refine br_f (nI_ge (b := 4) (by omega) (by omega)) ⟨pk_in v 4 (by omega), pk_in (40 * s + 4 * i + v) 80 (by omega) (cb_r4 s i v), nm_r ?_ (nm_r (nI_1 v) (ih (v + 1) (by omega)))⟩
    rw [cb_r4, nI_clamp (by omega), nI_clamp (by omega), cb_stS]
theorem cb_szU {s i : Nat} (Z : cb_sz sz hs) (hi : i ≤ 10) : cb_sz (upd sz s (nI i)) (fun t => if t = s then i else hs t) := by
  intro t ht
  by_cases e : t = s
  · subst e
    rw [pk_us]
    simp only [if_true]
    exact ⟨trivial, hi⟩
  · rw [pk_un e]
    simp only [if_neg e]
    exact Z t ht
theorem cb_Radd (R : cb_R nv nb co rs sz cf rt hs) {s i : Nat} {q : Int32} (h2 : s < 2) (hi : i < 10) (hh : hs s = i) :
    cb_R nv nb (cb_st dl co (40 * s + 4 * i) 4) (upd rs (10 * s + i) q) (upd sz s (nI (i + 1))) (cb_st dl cf (40 * s + 4 * i) 4) (upd rt (10 * s + i) q) (fun t => if t = s then i + 1 else hs t) := by
  refine ⟨R.1, cb_szU R.2.1 (by omega), fun t j ht hj => ?_⟩
  by_cases e : t = s ∧ j = i
  · obtain ⟨rfl, rfl⟩ := e
    refine ⟨fun v hv => ?_, ?_⟩
    · rw [cb_sti (by omega) (by omega), cb_sti (by omega) (by omega)]
    · rw [pk_us, pk_us]
  · have hj2 : j < hs t := by
      by_cases et : t = s
      · subst et
        simp only [if_true] at hj
        omega
      · simp only [if_neg et] at hj
        exact hj
    have h10 := (R.2.1 t ht).2
    obtain ⟨a, b⟩ := R.2.2 t j ht hj2
    refine ⟨fun v hv => ?_, ?_⟩
    · rw [cb_sto (by omega), cb_sto (by omega)]
      exact a v hv
    · rw [pk_un (by omega), pk_un (by omega)]
      exact b
end
end
section
section
variable {nv nb : Nat} {dl co rs sz cf rt sn : Nat → Int32} {hs : Nat → Nat}
theorem cb_xcr2 {post : SX → Prop} {a b : Nat} (ha : a < 20) (hb : b < 20) (hp : post (cb_X nv nb dl (cb_cp co (4 * a) (4 * b) 4) (upd rs b (rs a)) sz)) : ∀ d v, v + d = 4 →
    wX_copyRow_2 post (nI a) (nI b) (nI nv) (nI nb) (nI (2 ^ nb - 1)) (nI (2 ^ (nb * nv))) (d + 1) (nI v) dl (cb_cp co (4 * a) (4 * b) v) rs sz := by
  intro d
  induction d with
  | zero =>
    intro v hv
    have e : v = 4 := by omega
    subst e
    exact br_t (nI_le (a := 4) (by omega) (by omega)) ⟨pk_in a 20 ha, pk_in b 20 hb, nm_r (by rw [nI_clamp (by omega), nI_clamp (by omega)]) hp⟩
  | succ d ih =>
    intro v hv
    refine br_f (nI_ge (b := 4) (by omega) (by omega)) ⟨pk_in (4 * a + v) 80 (by omega) (cb_r6 a v), pk_in (4 * b + v) 80 (by omega) (cb_r6 b v), nm_r ?_ (nm_r (nI_1 v) (ih (v + 1) (by omega)))⟩
    rw [cb_r6, cb_r6, nI_clamp (by omega), nI_clamp (by omega), cb_cpS (by omega)]
theorem cb_xcr {post : SX → Prop} {a b : Nat} (ha : a < 20) (hb : b < 20) (hp : post (cb_X nv nb dl (cb_cp co (4 * a) (4 * b) 4) (upd rs b (rs a)) sz)) : wpX_copyRow post (cb_X nv nb dl co rs sz) (nI a) (nI b) := by
  have := cb_xcr2 ha hb hp 4 0 (by omega)
  rw [cb_cp0] at this
  exact ⟨_, this⟩
/-! drop -/
theorem cb_xdrop {post : Int32 → SX → Prop} {s i h : Nat} (h2 : s < 2) (h10 : h ≤ 10) (hi : i < h) (hz : sz s = nI h)
    (hp : post (nI (h - 1)) (cb_X nv nb dl (cb_cp co (40 * s + 4 * i + 4) (40 * s + 4 * i) (4 * (h - 1 - i))) (cb_cp rs (10 * s + i + 1) (10 * s + i) (h - 1 - i)) (upd sz s (nI (h - 1))))) :
    ∀ d k co' rs', i + k + d = h - 1 → co' = cb_cp co (40 * s + 4 * i + 4) (40 * s + 4 * i) (4 * k) → rs' = cb_cp rs (10 * s + i + 1) (10 * s + i) k →
    wX_drop_41 post (nI s) (nI (10 * s + (h - 1))) (d + 1) (nI (10 * s + i + k)) (nI nv) (nI nb) (nI (2 ^ nb - 1)) (nI (2 ^ (nb * nv))) dl co' rs' sz := by
  have c1 : (nI s).toNatClampNeg = s := nI_clamp (by omega)
  intro d
  induction d with
  | zero =>
    intro k co' rs' hk ec er
    have e : k = h - 1 - i := by omega
    subst ec er e
    refine br_t (nI_le (by omega) (by omega)) ⟨pk_in s 2 h2, pk_in s 2 h2, nm_r (e' := upd sz s (nI (h - 1))) (by rw [c1, hz]; exact congrArg (upd sz s) (pk_sub (b := 1) (by omega))) ⟨pk_in s 2 h2, ?_⟩⟩
    rw [c1, pk_us]
    exact hp
  | succ d ih =>
    intro k co' rs' hk ec er
    refine br_f (nI_ge (by omega) (by omega)) ?_
    rw [nI_1 (10 * s + i + k)]
    refine cb_xcr (by omega) (by omega) ?_
    refine nm_e (ih (k + 1) _ _ (by omega) ?_ ?_)
    · rw [ec, show 4 * (10 * s + i + k + 1) = 40 * s + 4 * i + 4 + 4 * k by omega, show 4 * (10 * s + i + k) = 40 * s + 4 * i + 4 * k by omega, cb_cpA 4 (by omega)]
      rfl
    · rw [er, show 10 * s + i + k + 1 = 10 * s + i + 1 + k by omega, cb_cpS (by omega)]
theorem cb_ydrop44 {post : Int32 → SY → Prop} {J : Int32 → (Nat → Int32) → (Nat → Int32) → (Nat → Int32) → (Nat → Int32) → (Nat → Int32) → Prop} {s j : Nat} (h2 : s < 2) (hj : j < 9)
    (hp : J (nI (j + 1)) dl sz (cb_cp cf (40 * s + 4 * (j + 1)) (40 * s + 4 * j) 4) (upd rt (10 * s + j) (rt (10 * s + j + 1))) sn) : ∀ d v, v + d = 4 →
    wY_drop_44 post J (nI s) (nI j) (nI nv) (nI nb) (nI (2 ^ nb)) (nI (2 ^ (nb * nv))) (d + 1) (nI v) dl sz (cb_cp cf (40 * s + 4 * (j + 1)) (40 * s + 4 * j) v) rt sn := by
  have e1 : 10 * nI s + nI j + 1 = nI (10 * s + j + 1) := by rw [cb_r2, nI_1]
  intro d
  induction d with
  | zero =>
    intro v hv
    have e : v = 4 := by omega
    subst e
    exact br_t (nI_le (a := 4) (by omega) (by omega)) ⟨pk_in (10 * s + j + 1) 20 (by omega) e1, pk_in (10 * s + j) 20 (by omega) (cb_r2 s j),
      nm_r (by rw [e1, cb_r2, nI_clamp (by omega), nI_clamp (by omega)]) (nm_r (nI_1 j) hp)⟩
  | succ d ih =>
    intro v hv
    have e2 : 40 * nI s + 4 * (nI j + 1) + nI v = nI (40 * s + 4 * (j + 1) + v) := by rw [nI_1, cb_r4]
    refine br_f (nI_ge (b := 4) (by omega) (by omega)) ⟨pk_in (40 * s + 4 * (j + 1) + v) 80 (by omega) e2, pk_in (40 * s + 4 * j + v) 80 (by omega) (cb_r4 s j v), nm_r ?_ (nm_r (nI_1 v) (ih (v + 1) (by omega)))⟩
    rw [e2, cb_r4, nI_clamp (by omega), nI_clamp (by omega), cb_cpS (by omega)]
theorem cb_ydrop {post : Int32 → SY → Prop} {s i h : Nat} (h2 : s < 2) (h10 : h ≤ 10) (hi : i < h) (hz : sz s = nI h)
    (hp : post (nI (h - 1)) (cb_Y nv nb dl (upd sz s (nI (h - 1))) (cb_cp cf (40 * s + 4 * i + 4) (40 * s + 4 * i) (4 * (9 - i))) (cb_cp rt (10 * s + i + 1) (10 * s + i) (9 - i)) sn)) :
    ∀ d k cf' rt', i + k + d = 9 → cf' = cb_cp cf (40 * s + 4 * i + 4) (40 * s + 4 * i) (4 * k) → rt' = cb_cp rt (10 * s + i + 1) (10 * s + i) k →
    wY_drop_35 post (nI s) (nI nv) (nI nb) (nI (2 ^ nb)) (nI (2 ^ (nb * nv))) (d + 1) (nI (i + k)) dl sz cf' rt' sn := by
  have c1 : (nI s).toNatClampNeg = s := nI_clamp (by omega)
  intro d
  induction d with
  | zero =>
    intro k cf' rt' hk ec er
    have e : k = 9 - i := by omega
    subst ec er e
    refine br_t (nI_le (a := 9) (by omega) (by omega)) ⟨pk_in s 2 h2, pk_in s 2 h2, nm_r (e' := upd sz s (nI (h - 1))) (by rw [c1, hz]; exact congrArg (upd sz s) (pk_sub (b := 1) (by omega))) ⟨pk_in s 2 h2, ?_⟩⟩
    rw [c1, pk_us]
    exact hp
  | succ d ih =>
    intro k cf' rt' hk ec er
    refine br_f (nI_ge (b := 9) (by omega) (by omega)) ⟨5, ?_⟩
    have key := cb_ydrop44 (nv := nv) (nb := nb) (dl := dl) (sz := sz) (cf := cf') (rt := rt') (sn := sn) (post := post) (J := wY_drop_35 post (nI s) (nI nv) (nI nb) (nI (2 ^ nb)) (nI (2 ^ (nb * nv))) (d + 1)) (s := s) (j := i + k) h2 (by omega)
      (ih (k + 1) _ _ (by omega)
        (by rw [ec, show 40 * s + 4 * (i + k + 1) = 40 * s + 4 * i + 4 + 4 * k by omega, show 40 * s + 4 * (i + k) = 40 * s + 4 * i + 4 * k by omega, cb_cpA 4 (by omega)]; rfl)
        (by rw [er, show 10 * s + (i + k) + 1 = 10 * s + i + 1 + k by omega, show 10 * s + (i + k) = 10 * s + i + k by omega, cb_cpS (by omega)])) 4 0 (by omega)
    rw [cb_cp0] at key
    exact key
theorem cb_Rdrop (R : cb_R nv nb co rs sz cf rt hs) {s i h : Nat} (h2 : s < 2) (hi : i < h) (hh : hs s = h) :
    cb_R nv nb (cb_cp co (40 * s + 4 * i + 4) (40 * s + 4 * i) (4 * (h - 1 - i))) (cb_cp rs (10 * s + i + 1) (10 * s + i) (h - 1 - i)) (upd sz s (nI (h - 1)))
      (cb_cp cf (40 * s + 4 * i + 4) (40 * s + 4 * i) (4 * (9 - i))) (cb_cp rt (10 * s + i + 1) (10 * s + i) (9 - i)) (fun t => if t = s then h - 1 else hs t) := by
  have h10 := (R.2.1 s h2).2
  refine ⟨R.1, cb_szU R.2.1 (by omega), fun t j ht hj => ?_⟩
  have t10 := (R.2.1 t ht).2
  by_cases et : t = s
  · subst et
    simp only [if_true] at hj
    by_cases hji : j < i
    · obtain ⟨a, b⟩ := R.2.2 t j ht (by omega)
      refine ⟨fun v hv => ?_, ?_⟩
      · rw [cb_cpo (by omega), cb_cpo (by omega)]
        exact a v hv
      · rw [cb_cpo (by omega), cb_cpo (by omega)]
        exact b
    · obtain ⟨a, b⟩ := R.2.2 t (j + 1) ht (by omega)
      refine ⟨fun v hv => ?_, ?_⟩
      · rw [cb_cpi (by omega) (by omega), cb_cpi (by omega) (by omega), show 40 * t + 4 * i + 4 + (40 * t + 4 * j + v - (40 * t + 4 * i)) = 40 * t + 4 * (j + 1) + v by omega]
        exact a v hv
      · rw [cb_cpi (by omega) (by omega), cb_cpi (by omega) (by omega), show 10 * t + i + 1 + (10 * t + j - (10 * t + i)) = 10 * t + (j + 1) by omega]
        exact b
  · simp only [if_neg et] at hj
    obtain ⟨a, b⟩ := R.2.2 t j ht hj
    refine ⟨fun v hv => ?_, ?_⟩
    · rw [cb_cpo (by omega), cb_cpo (by omega)]
      exact a v hv
    · rw [cb_cpo (by omega), cb_cpo (by omega)]
      exact b
/-! copy -/
theorem cb_xcopy {post : Int32 → SX → Prop} {s h : Nat} (h2 : s < 2) (h10 : h ≤ 10) (hz : sz s = nI h)
    (hp : post (nI h) (cb_X nv nb dl (cb_cp co (40 * s) (40 * (1 - s)) (4 * h)) (cb_cp rs (10 * s) (10 * (1 - s)) h) (upd sz (1 - s) (nI h)))) :
    ∀ d k co' rs', k + d = h → co' = cb_cp co (40 * s) (40 * (1 - s)) (4 * k) → rs' = cb_cp rs (10 * s) (10 * (1 - s)) k →
    wX_copy_26 post (nI s) (nI (10 * s)) (nI (10 * (1 - s))) (d + 1) (nI k) (nI nv) (nI nb) (nI (2 ^ nb - 1)) (nI (2 ^ (nb * nv))) dl co' rs' sz := by
  have c1 : (nI s).toNatClampNeg = s := nI_clamp (by omega)
  have c2 : (nI (1 - s)).toNatClampNeg = 1 - s := nI_clamp (by omega)
  intro d
  induction d with
  | zero =>
    intro k co' rs' hk ec er
    have e : k = h := by omega
    subst ec er e
    refine ⟨pk_in s 2 h2, br_t (by rw [c1, hz]; exact nI_le (by omega) (by omega)) ⟨pk_in s 2 h2, pk_in (1 - s) 2 (by omega) (cb_1s h2), nm_r (e' := upd sz (1 - s) (nI k)) (by rw [c1, cb_1s h2, c2, hz]) ⟨pk_in s 2 h2, ?_⟩⟩⟩
    rw [c1, pk_un (by omega), hz]
    exact hp
  | succ d ih =>
    intro k co' rs' hk ec er
    refine ⟨pk_in s 2 h2, br_f (by rw [c1, hz]; exact nI_ge (by omega) (by omega)) ?_⟩
    rw [nI_add, nI_add]
    refine cb_xcr (by omega) (by omega) ?_
    refine nm_r (nI_1 k) (ih (k + 1) _ _ (by omega) ?_ ?_)
    · rw [ec, show 4 * (10 * s + k) = 40 * s + 4 * k by omega, show 4 * (10 * (1 - s) + k) = 40 * (1 - s) + 4 * k by omega, cb_cpA 4 (by omega)]
      rfl
    · rw [er, cb_cpS (by omega)]
theorem cb_ycopy52 {post : Int32 → SY → Prop} {s h : Nat} (h2 : s < 2) (hz : sz s = nI h)
    (hp : post (nI h) (cb_Y nv nb dl (upd sz (1 - s) (nI h)) cf (cb_cp rt (10 * s) (10 * (1 - s)) 10) sn)) : ∀ d k, k + d = 10 →
    wY_copy_52 post (nI s) (nI (1 - s)) (nI nv) (nI nb) (nI (2 ^ nb)) (nI (2 ^ (nb * nv))) (d + 1) (nI k) dl sz cf (cb_cp rt (10 * s) (10 * (1 - s)) k) sn := by
  have c1 : (nI s).toNatClampNeg = s := nI_clamp (by omega)
  have c2 : (nI (1 - s)).toNatClampNeg = 1 - s := nI_clamp (by omega)
  intro d
  induction d with
  | zero =>
    intro k hk
    have e : k = 10 := by omega
    subst e
    refine br_t (nI_le (a := 10) (by omega) (by omega)) ⟨pk_in s 2 h2, pk_in (1 - s) 2 (by omega), nm_r (e' := upd sz (1 - s) (nI h)) (by rw [c1, c2, hz]) ⟨pk_in s 2 h2, ?_⟩⟩
    rw [c1, pk_un (by omega), hz]
    exact hp
  | succ d ih =>
    intro k hk
    refine br_f (nI_ge (b := 10) (by omega) (by omega)) ⟨pk_in (10 * s + k) 20 (by omega) (cb_r2 s k), pk_in (10 * (1 - s) + k) 20 (by omega) (cb_r2 (1 - s) k), nm_r ?_ (nm_r (nI_1 k) (ih (k + 1) (by omega)))⟩
    rw [cb_r2, cb_r2, nI_clamp (by omega), nI_clamp (by omega), cb_cpS (by omega)]
theorem cb_r7 (s k : Nat) : 40 * nI s + nI k = nI (40 * s + k) := by
  show nI 40 * nI s + nI k = _
  rw [pk_mul, nI_add]
theorem cb_ycopy {post : Int32 → SY → Prop} {s h : Nat} (h2 : s < 2) (hz : sz s = nI h)
    (hp : post (nI h) (cb_Y nv nb dl (upd sz (1 - s) (nI h)) (cb_cp cf (40 * s) (40 * (1 - s)) 40) (cb_cp rt (10 * s) (10 * (1 - s)) 10) sn)) : ∀ d k, k + d = 40 →
    wY_copy_16 post (nI s) (nI (1 - s)) (nI nv) (nI nb) (nI (2 ^ nb)) (nI (2 ^ (nb * nv))) (d + 1) (nI k) dl sz (cb_cp cf (40 * s) (40 * (1 - s)) k) rt sn := by
  intro d
  induction d with
  | zero =>
    intro k hk
    have e : k = 40 := by omega
    subst e
    have key := cb_ycopy52 h2 hz hp 10 0 (by omega)
    rw [cb_cp0] at key
    exact br_t (nI_le (a := 40) (by omega) (by omega)) ⟨_, key⟩
  | succ d ih =>
    intro k hk
    refine br_f (nI_ge (b := 40) (by omega) (by omega)) ⟨pk_in (40 * s + k) 80 (by omega) (cb_r7 s k), pk_in (40 * (1 - s) + k) 80 (by omega) (cb_r7 (1 - s) k), nm_r ?_ (nm_r (nI_1 k) (ih (k + 1) (by omega)))⟩
    rw [cb_r7, cb_r7, nI_clamp (by omega), nI_clamp (by omega), cb_cpS (by omega)]
theorem cb_Rcopy (R : cb_R nv nb co rs sz cf rt hs) {s h : Nat} (h2 : s < 2) (hh : hs s = h) :
    cb_R nv nb (cb_cp co (40 * s) (40 * (1 - s)) (4 * h)) (cb_cp rs (10 * s) (10 * (1 - s)) h) (upd sz (1 - s) (nI h))
      (cb_cp cf (40 * s) (40 * (1 - s)) 40) (cb_cp rt (10 * s) (10 * (1 - s)) 10) (fun t => if t = 1 - s then h else hs t) := by
  have h10 := (R.2.1 s h2).2
  refine ⟨R.1, cb_szU R.2.1 (by omega), fun t j ht hj => ?_⟩
  have t10 := (R.2.1 t ht).2
  by_cases et : t = 1 - s
  · subst et
    simp only [if_true] at hj
    obtain ⟨a, b⟩ := R.2.2 s j h2 (by omega)
    refine ⟨fun v hv => ?_, ?_⟩
    · rw [cb_cpi (by omega) (by omega), cb_cpi (by omega) (by omega), show 40 * s + (40 * (1 - s) + 4 * j + v - 40 * (1 - s)) = 40 * s + 4 * j + v by omega]
      exact a v hv
    · rw [cb_cpi (by omega) (by omega), cb_cpi (by omega) (by omega), show 10 * s + (10 * (1 - s) + j - 10 * (1 - s)) = 10 * s + j by omega]
      exact b
  · simp only [if_neg et] at hj
    obtain ⟨a, b⟩ := R.2.2 t j ht hj
    refine ⟨fun v hv => ?_, ?_⟩
    · rw [cb_cpo (by omega), cb_cpo (by omega)]
      exact a v hv
    · rw [cb_cpo (by omega), cb_cpo (by omega)]
      exact b
end
end
section
section
variable {nv nb : Nat} {dl co rs sz cf rt sn : Nat → Int32} {hs : Nat → Nat}
/-! wrappers -/
theorem cb_xaddE {post : Int32 → SX → Prop} {s i : Nat} {q : Int32} (h2 : s < 2) (hi : i < 10) (hz : sz s = nI i)
    (hp : post (nI (i + 1)) (cb_X nv nb dl (cb_st dl co (40 * s + 4 * i) 4) (upd rs (10 * s + i) (q &&& nI (2 ^ nb - 1))) (upd sz s (nI (i + 1))))) :
    ∃ n, wX_add_37 post (nI s) q (nI (10 * s + i)) (nI nv) (nI nb) (nI (2 ^ nb - 1)) (nI (2 ^ (nb * nv))) n 0 dl co rs sz := by
  have key := cb_xadd h2 hi hz hp 4 0 (by omega)
  rw [cb_st0] at key
  exact ⟨_, key⟩
theorem cb_yaddE {post : Int32 → SY → Prop} {s i : Nat} {q : Int32} (h2 : s < 2) (hi : i < 10)
    (hp : post (nI (i + 1)) (cb_Y nv nb dl (upd sz s (nI (i + 1))) (cb_st dl cf (40 * s + 4 * i) 4) (upd rt (10 * s + i) (q &&& nI (2 ^ nb - 1))) sn)) :
    ∃ n, wY_add_29 post (nI s) q (nI i) (nI nv) (nI nb) (nI (2 ^ nb)) (nI (2 ^ (nb * nv))) n 0 dl sz cf rt sn := by
  have key := cb_yadd h2 hi hp 4 0 (by omega)
  rw [cb_st0] at key
  exact ⟨_, key⟩
theorem cb_xdropE {post : Int32 → SX → Prop} {s i h : Nat} (h2 : s < 2) (h10 : h ≤ 10) (hi : i < h) (hz : sz s = nI h)
    (hp : post (nI (h - 1)) (cb_X nv nb dl (cb_cp co (40 * s + 4 * i + 4) (40 * s + 4 * i) (4 * (h - 1 - i))) (cb_cp rs (10 * s + i + 1) (10 * s + i) (h - 1 - i)) (upd sz s (nI (h - 1))))) :
    ∃ n, wX_drop_41 post (nI s) (nI (10 * s + (h - 1))) n (nI (10 * s + i)) (nI nv) (nI nb) (nI (2 ^ nb - 1)) (nI (2 ^ (nb * nv))) dl co rs sz :=
  ⟨_, cb_xdrop h2 h10 hi hz hp (h - 1 - i) 0 co rs (by omega) cb_cp0.symm cb_cp0.symm⟩
theorem cb_ydropE {post : Int32 → SY → Prop} {s i h : Nat} (h2 : s < 2) (h10 : h ≤ 10) (hi : i < h) (hz : sz s = nI h)
    (hp : post (nI (h - 1)) (cb_Y nv nb dl (upd sz s (nI (h - 1))) (cb_cp cf (40 * s + 4 * i + 4) (40 * s + 4 * i) (4 * (9 - i))) (cb_cp rt (10 * s + i + 1) (10 * s + i) (9 - i)) sn)) :
    ∃ n, wY_drop_35 post (nI s) (nI nv) (nI nb) (nI (2 ^ nb)) (nI (2 ^ (nb * nv))) n (nI i) dl sz cf rt sn :=
  ⟨_, cb_ydrop h2 h10 hi hz hp (9 - i) 0 cf rt (by omega) cb_cp0.symm cb_cp0.symm⟩
theorem cb_xcopyE {post : Int32 → SX → Prop} {s h : Nat} (h2 : s < 2) (h10 : h ≤ 10) (hz : sz s = nI h)
    (hp : post (nI h) (cb_X nv nb dl (cb_cp co (40 * s) (40 * (1 - s)) (4 * h)) (cb_cp rs (10 * s) (10 * (1 - s)) h) (upd sz (1 - s) (nI h)))) :
    ∃ n, wX_copy_26 post (nI s) (nI (10 * s)) (nI (10 * (1 - s))) n 0 (nI nv) (nI nb) (nI (2 ^ nb - 1)) (nI (2 ^ (nb * nv))) dl co rs sz :=
  ⟨_, cb_xcopy h2 h10 hz hp h 0 co rs (by omega) cb_cp0.symm cb_cp0.symm⟩
theorem cb_ycopyE {post : Int32 → SY → Prop} {s h : Nat} (h2 : s < 2) (hz : sz s = nI h)
    (hp : post (nI h) (cb_Y nv nb dl (upd sz (1 - s) (nI h)) (cb_cp cf (40 * s) (40 * (1 - s)) 40) (cb_cp rt (10 * s) (10 * (1 - s)) 10) sn)) :
    ∃ n, wY_copy_16 post (nI s) (nI (1 - s)) (nI nv) (nI nb) (nI (2 ^ nb)) (nI (2 ^ (nb * nv))) n 0 dl sz cf rt sn := by
  have key := cb_ycopy h2 hz hp 40 0 (by omega)
  rw [cb_cp0] at key
  exact ⟨_, key⟩
/-! the constructors -/
def cb_cl (p : Int32) (m n : Nat) : Prop := (1 ≤ p ∧ p ≤ nI m ∧ p = nI n) ∨ (1 ≤ p ∧ ¬ p ≤ nI m ∧ n = m) ∨ (¬ 1 ≤ p ∧ n = 1)
theorem cb_clE (p : Int32) {m : Nat} (h1 : 1 ≤ m) (h4 : m ≤ 4) : ∃ n, 1 ≤ n ∧ n ≤ m ∧ cb_cl p m n := by
  by_cases a : 1 ≤ p
  · by_cases b : p ≤ nI m
    · have h0 : ¬ p < 0 := fun h => absurd (Int32.lt_of_le_of_lt a h) (by decide)
      obtain ⟨n, hn, rfl⟩ := nI_of h0
      exact ⟨n, (nI_leI (a := 1) (by decide) hn).mp a, (nI_leI hn (by omega)).mp b, Or.inl ⟨a, b, rfl⟩⟩
    · exact ⟨m, h1, Nat.le_refl m, Or.inr (Or.inl ⟨a, b, rfl⟩)⟩
  · exact ⟨1, Nat.le_refl 1, h1, Or.inr (Or.inr ⟨a, rfl⟩)⟩
theorem cb_c3 {Q : Int32 → Prop} {p : Int32} {m n : Nat} (h : cb_cl p m n) (hq : Q (nI n)) :
    ((1 ≤ p → ((p ≤ nI m → Q p) ∧ (¬ p ≤ nI m → Q (nI m)))) ∧ (¬ 1 ≤ p → Q 1)) := by
  rcases h with ⟨a, b, e⟩ | ⟨a, b, e⟩ | ⟨a, e⟩
  · exact br_t a (br_t b (by rw [e]; exact hq))
  · exact br_t a (br_f b (by rw [← e]; exact hq))
  · subst e
    exact br_f a hq
theorem cb_xcl {post : Int32 → Prop} {p : Int32} {m n : Nat} (h : cb_cl p m n) (hq : post (nI n)) : wpX_clamped post p (nI m) := cb_c3 (Q := post) h hq
theorem cb_mb {n : Nat} (h1 : 1 ≤ n) (h4 : n ≤ 4) : ∃ m, 1 ≤ m ∧ m ≤ 4 ∧ m * n ≤ 9 ∧ (∀ post : Int32 → Prop, post (nI m) → wpX_mostBitsFor post (nI n)) ∧
    (∀ (post : SY → Prop) (x2 a0 a1 a2 a3 : Int32) (a4 a5 a6 a7 a8 : Nat → Int32), wY_init_90 post x2 (nI m) (nI n) a1 a2 a3 a4 a5 a6 a7 a8 → wY_init_62 post x2 (nI n) a0 a1 a2 a3 a4 a5 a6 a7 a8) := by
  rcases (by omega : n = 1 ∨ n = 2 ∨ n = 3 ∨ n = 4) with rfl | rfl | rfl | rfl
  · exact ⟨4, by omega, by omega, by omega, fun _ hp => br_f (by decide) (br_f (by decide) hp), fun _ _ _ _ _ _ _ _ _ _ _ hp => br_f (by decide) hp⟩
  · exact ⟨4, by omega, by omega, by omega, fun _ hp => br_f (by decide) (br_f (by decide) hp), fun _ _ _ _ _ _ _ _ _ _ _ hp => br_f (by decide) hp⟩
  · exact ⟨3, by omega, by omega, by omega, fun _ hp => br_t rfl hp, fun _ _ _ _ _ _ _ _ _ _ _ hp => br_t (by decide) (br_t rfl hp)⟩
  · exact ⟨2, by omega, by omega, by omega, fun _ hp => br_f (by decide) (br_t rfl hp), fun _ _ _ _ _ _ _ _ _ _ _ hp => br_t (by decide) (br_f (by decide) hp)⟩
theorem cb_sh1 {k : Nat} (h : k ≤ 16) : (1 : Int32) <<< (nI k &&& 31) = nI (2 ^ k) := by
  have : 2 ^ k ≤ 65536 := Nat.pow_le_pow_right (n := 2) (by decide) h
  show nI 1 <<< (nI k &&& 31) = _
  rw [pk_shlN _ k (s_l k (by omega)) (by omega), Nat.one_mul]
theorem cb_y132 (ok : cb_ok nv nb) {post : SY → Prop} (hp : post (cb_Y nv nb dl sz cf rt sn)) : ∀ d i, i + d = nv →
    wY_init_132 post (nI nv) (nI nb) (nI (2 ^ nb)) dl sz cf rt sn (d + 1) (nI i) (nI (2 ^ (nb * i))) := by
  have h4 := ok.2.1
  intro d
  induction d with
  | zero =>
    intro i hi
    have e : i = nv := by omega
    subst e
    exact br_t (nI_le (by omega) (by omega)) hp
  | succ d ih =>
    intro i hi
    refine br_f (nI_ge (by omega) (by omega)) (nm_r ?_ (nm_r (nI_1 i) (ih (i + 1) (by omega))))
    rw [pk_mul, ← Nat.pow_add, Nat.mul_succ]
theorem cb_y111 (ok : cb_ok nv nb) {post : SY → Prop} {a1 a2 a3 : Int32} (hp : post (cb_Y nv nb dl sz cf rt sn)) : wY_init_111 post (nI nb) (nI nv) a1 a2 a3 dl sz cf rt sn := by
  have key := cb_y132 ok hp nv 0 (by omega)
  rw [Nat.mul_zero, Nat.pow_zero] at key
  unfold wY_init_111
  rw [cb_sh1 (by have := ok.2.2.2.1; omega)]
  exact nm_e ⟨_, key⟩
end
theorem i_vc0 (k0 : Int32) (k1 : Int32) : wpX_init (fun u => wpY_init (fun v => i_Rel 2 u v) k0 k1) k0 k1 := by
  obtain ⟨nv, hv1, hv4, hc⟩ := cb_clE k0 (m := 4) (by omega) (by omega)
  obtain ⟨m, hm1, hm4, hm9, hX, hY⟩ := cb_mb hv1 hv4
  obtain ⟨nb, hb1, hbm, hd⟩ := cb_clE k1 hm1 hm4
  have hb9 : nb * nv ≤ 9 := Nat.le_trans (Nat.mul_le_mul_right nv hbm) hm9
  have ok : cb_ok nv nb := ⟨hv1, hv4, hb1, by omega, hb9⟩
  unfold wpX_init
  refine cb_xcl hc ?_
  refine hX _ ?_
  refine cb_xcl hd ?_
  rw [cb_low (by omega), pk_mul, cb_sh1 (by omega)]
  refine nm_e (nm_e ?_)
  unfold wpY_init
  refine cb_c3 (Q := fun z => wY_init_62 _ k1 z 0 0 0 0 (fun _ => 0) (fun _ => 0) (fun _ => 0) (fun _ => 0) (fun _ => 0)) hc ?_
  refine hY _ _ _ _ _ _ _ _ _ _ _ ?_
  unfold wY_init_90
  refine cb_c3 (Q := fun z => wY_init_111 _ z (nI nv) 0 0 0 (fun _ => 0) (fun _ => 0) (fun _ => 0) (fun _ => 0) (fun _ => 0)) hd ?_
  exact cb_y111 ok (cb_i (hs := fun _ => 0) ⟨ok, fun s _ => ⟨rfl, Nat.zero_le 10⟩, fun s i _ hi => absurd hi (Nat.not_lt_zero i)⟩)
end
section
theorem i_vc_unknowns {k : Nat} {u : SX} {v : SY} (I : i_Rel k u v) (hk : k + 3 ≤ 1538) : wpX_unknowns (fun r => wpY_unknowns (fun r' => r' = r ∧ i_Rel (k + 3) u v) v) u := by
  obtain ⟨nv, nb, dl, co, rs, sz, cf, rt, sn, hs, rfl, rfl, R⟩ := I
  exact ⟨rfl, cb_i R⟩
theorem i_vc_modulus {k : Nat} {u : SX} {v : SY} (I : i_Rel k u v) (hk : k + 3 ≤ 1538) : wpX_modulus (fun r => wpY_modulus (fun r' => r' = r ∧ i_Rel (k + 3) u v) v) u := by
  obtain ⟨nv, nb, dl, co, rs, sz, cf, rt, sn, hs, rfl, rfl, R⟩ := I
  refine ⟨?_, cb_i R⟩
  have := cb_pM0 (nb := nb)
  rw [nI_1]
  exact congrArg nI (by omega)
theorem i_vc_draft {k : Nat} {u : SX} {v : SY} (I : i_Rel k u v) (hk : k + 3 ≤ 1538) (v1 : Int32) (v2 : Int32) : wpX_draft (fun r u' => wpY_draft (fun r' v' => r' = r ∧ i_Rel (k + 3) u' v') v v1 v2) u v1 v2 := by
  obtain ⟨nv, nb, dl, co, rs, sz, cf, rt, sn, hs, rfl, rfl, R⟩ := I
  unfold wpX_draft wpY_draft
  dsimp only
  rcases cb_unkc R.1 v1 with ⟨v, hv, rfl⟩ | hb
  · have h4 := R.1.2.1
    have c : (nI v).toNatClampNeg = v := nI_clamp (by omega)
    rw [c]
    refine cb_xu R.1 hv ?_
    refine br_f (by decide) ?_
    refine ⟨pk_in v 4 (by omega), nm_e ⟨pk_in v 4 (by omega), ?_⟩⟩
    refine cb_yu R.1 hv ?_
    refine br_t rfl ?_
    refine cb_yr ?_
    exact ⟨pk_in v 4 (by omega), nm_e ⟨pk_in v 4 (by omega), rfl, cb_i R⟩⟩
  · refine cb_xu0 hb ?_
    refine br_t rfl ?_
    refine cb_yu1 hb ?_
    exact br_f (by decide) ⟨rfl, cb_i R⟩
theorem i_vc_drafted {k : Nat} {u : SX} {v : SY} (I : i_Rel k u v) (hk : k + 3 ≤ 1538) (v1 : Int32) : wpX_drafted (fun r => wpY_drafted (fun r' => r' = r ∧ i_Rel (k + 3) u v) v v1) u v1 := by
  obtain ⟨nv, nb, dl, co, rs, sz, cf, rt, sn, hs, rfl, rfl, R⟩ := I
  unfold wpX_drafted wpY_drafted
  dsimp only
  rcases cb_unkc R.1 v1 with ⟨v, hv, rfl⟩ | hb
  · have h4 := R.1.2.1
    refine cb_xu R.1 hv ?_
    refine br_f (by decide) ⟨pk_in v 4 (by omega), ?_⟩
    refine cb_yu R.1 hv ?_
    exact br_t rfl ⟨pk_in v 4 (by omega), rfl, cb_i R⟩
  · refine cb_xu0 hb ?_
    refine br_t rfl ?_
    refine cb_yu1 hb ?_
    exact br_f (by decide) ⟨rfl, cb_i R⟩
theorem i_vc_add {k : Nat} {u : SX} {v : SY} (I : i_Rel k u v) (hk : k + 3 ≤ 1538) (v1 : Int32) (v2 : Int32) : wpX_add (fun r u' => wpY_add (fun r' v' => r' = r ∧ i_Rel (k + 3) u' v') v v1 v2) u v1 v2 := by
  obtain ⟨nv, nb, dl, co, rs, sz, cf, rt, sn, hs, rfl, rfl, R⟩ := I
  unfold wpX_add wpY_add
  dsimp only
  rcases cb_sysc v1 with ⟨s, h2, rfl⟩ | hb
  · have c := cb_szc R.2.1 h2
    obtain ⟨hz, h10⟩ := R.2.1 s h2
    rw [c]
    refine cb_xy h2 ?_
    refine br_f (by decide) ⟨pk_in s 2 h2, ?_⟩
    by_cases hf : hs s < 10
    · refine br_t (nI_lt (b := 10) hf (by decide)) ⟨pk_in s 2 h2, cb_ro ?_⟩
      refine cb_xaddE h2 hf hz ?_
      refine cb_yy h2 ?_
      refine br_t rfl ⟨pk_in s 2 h2, nm_e ?_⟩
      refine br_t (nI_lt (b := 10) hf (by decide)) ?_
      exact cb_yaddE h2 hf ⟨rfl, cb_i (cb_Radd R h2 hf rfl)⟩
    · refine br_f (nI_nlt (b := 10) (by omega) (by omega)) ?_
      refine cb_yy h2 ?_
      refine br_t rfl ⟨pk_in s 2 h2, nm_e ?_⟩
      exact br_f (nI_nlt (b := 10) (by omega) (by omega)) ⟨rfl, cb_i R⟩
  · refine cb_xn hb ?_
    refine br_t rfl ?_
    refine cb_ybad hb ?_
    exact br_f (by decide) ⟨rfl, cb_i R⟩
theorem i_vc_drop {k : Nat} {u : SX} {v : SY} (I : i_Rel k u v) (hk : k + 3 ≤ 1538) (v1 : Int32) (v2 : Int32) : wpX_drop (fun r u' => wpY_drop (fun r' v' => r' = r ∧ i_Rel (k + 3) u' v') v v1 v2) u v1 v2 := by
  obtain ⟨nv, nb, dl, co, rs, sz, cf, rt, sn, hs, rfl, rfl, R⟩ := I
  unfold wpX_drop wpY_drop wpX_isPosition
  dsimp only
  rcases cb_sysc v1 with ⟨s, h2, rfl⟩ | hb
  · have c := cb_szc R.2.1 h2
    obtain ⟨hz, h10⟩ := R.2.1 s h2
    rw [c]
    refine cb_xy h2 ?_
    refine br_f (by decide) ?_
    by_cases h0 : v2 < 0
    · refine br_t h0 ?_
      refine br_t rfl ?_
      refine cb_yy h2 ?_
      refine br_t rfl ?_
      exact br_t h0 ⟨rfl, cb_i R⟩
    · refine br_f h0 ⟨pk_in s 2 h2, ?_⟩
      obtain ⟨j, hj, rfl⟩ := nI_of h0
      by_cases hh : j < hs s
      · refine br_f (nI_ge hh (by omega)) ?_
        refine br_f (by decide) ⟨pk_in s 2 h2, ?_⟩
        rw [show nI (hs s) - 1 = nI (hs s - 1) from pk_sub (b := 1) (by omega)]
        refine cb_ro ?_
        refine cb_ro ?_
        refine cb_xdropE h2 h10 hh hz ?_
        refine cb_yy h2 ?_
        refine br_t rfl ?_
        refine br_f h0 ⟨pk_in s 2 h2, ?_⟩
        refine br_f (nI_ge hh (by omega)) ?_
        refine br_t (nI_lt (b := 10) (by omega) (by decide)) ?_
        exact cb_ydropE h2 h10 hh hz ⟨rfl, cb_i (cb_Rdrop R h2 hh rfl)⟩
      · refine br_t (nI_le (by omega) hj) ?_
        refine br_t rfl ?_
        refine cb_yy h2 ?_
        refine br_t rfl ?_
        refine br_f h0 ⟨pk_in s 2 h2, ?_⟩
        exact br_t (nI_le (by omega) hj) ⟨rfl, cb_i R⟩
  · refine cb_xn hb ?_
    refine br_t rfl ?_
    refine cb_ybad hb ?_
    exact br_f (by decide) ⟨rfl, cb_i R⟩
theorem i_vc_copy {k : Nat} {u : SX} {v : SY} (I : i_Rel k u v) (hk : k + 3 ≤ 1538) (v1 : Int32) : wpX_copy (fun r u' => wpY_copy (fun r' v' => r' = r ∧ i_Rel (k + 3) u' v') v v1) u v1 := by
  obtain ⟨nv, nb, dl, co, rs, sz, cf, rt, sn, hs, rfl, rfl, R⟩ := I
  unfold wpX_copy wpY_copy
  dsimp only
  rcases cb_sysc v1 with ⟨s, h2, rfl⟩ | hb
  · obtain ⟨hz, h10⟩ := R.2.1 s h2
    rw [cb_1s h2]
    refine cb_xy h2 ?_
    refine br_f (by decide) ?_
    refine cb_ro (i := 0) ?_
    refine cb_ro (i := 0) ?_
    refine cb_xcopyE h2 h10 hz ?_
    refine cb_yy h2 ?_
    refine br_t rfl (nm_e ?_)
    exact cb_ycopyE h2 hz ⟨rfl, cb_i (cb_Rcopy R h2 rfl)⟩
  · refine cb_xn hb ?_
    refine br_t rfl ?_
    refine cb_ybad hb ?_
    exact br_f (by decide) ⟨rfl, cb_i R⟩
theorem i_vc_size {k : Nat} {u : SX} {v : SY} (I : i_Rel k u v) (hk : k + 3 ≤ 1538) (v1 : Int32) : wpX_size (fun r => wpY_size (fun r' => r' = r ∧ i_Rel (k + 3) u v) v v1) u v1 := by
  obtain ⟨nv, nb, dl, co, rs, sz, cf, rt, sn, hs, rfl, rfl, R⟩ := I
  unfold wpX_size wpY_size
  dsimp only
  rcases cb_sysc v1 with ⟨s, h2, rfl⟩ | hb
  · refine cb_xy h2 ?_
    refine br_f (by decide) ⟨pk_in s 2 h2, ?_⟩
    refine cb_yy h2 ?_
    exact br_t rfl ⟨pk_in s 2 h2, rfl, cb_i R⟩
  · refine cb_xn hb ?_
    refine br_t rfl ?_
    refine cb_ybad hb ?_
    exact br_f (by decide) ⟨rfl, cb_i R⟩
theorem i_vc_solutions {k : Nat} {u : SX} {v : SY} (I : i_Rel k u v) (hk : k + 3 ≤ 1538) (v1 : Int32) : wpX_solutions (fun r => wpY_solutions (fun r' => r' = r ∧ i_Rel (k + 3) u v) v v1) u v1 := by
  obtain ⟨nv, nb, dl, co, rs, sz, cf, rt, sn, hs, rfl, rfl, R⟩ := I
  unfold wpX_solutions wpY_solutions wpX_below
  dsimp only
  rcases cb_sysc v1 with ⟨s, h2, rfl⟩ | hb
  · obtain ⟨r, hX, hY⟩ := cb_solL (dl := dl) (sn := sn) R h2 (2 ^ (nb * nv)) 0 0 (by omega)
    refine cb_xy h2 ?_
    refine br_f (by decide) ?_
    refine ⟨_, hX _ ?_⟩
    refine cb_yy h2 ?_
    exact br_t rfl ⟨_, hY _ ⟨rfl, cb_i R⟩⟩
  · refine cb_xn hb ?_
    refine br_t rfl ?_
    refine cb_ybad hb ?_
    exact br_f (by decide) ⟨rfl, cb_i R⟩
theorem i_vc_nth {k : Nat} {u : SX} {v : SY} (I : i_Rel k u v) (hk : k + 3 ≤ 1538) (v1 : Int32) (v2 : Int32) : wpX_nth (fun r => wpY_nth (fun r' => r' = r ∧ i_Rel (k + 3) u v) v v1 v2) u v1 v2 := by
  obtain ⟨nv, nb, dl, co, rs, sz, cf, rt, sn, hs, rfl, rfl, R⟩ := I
  unfold wpX_nth wpY_nth
  dsimp only
  rcases cb_sysc v1 with ⟨s, h2, rfl⟩ | hb
  · obtain ⟨r, hX, hY⟩ := cb_nthL (dl := dl) (sn := sn) R h2 v2 (2 ^ (nb * nv)) 0 0 (by omega)
    refine cb_xy h2 ?_
    refine br_f (by decide) ?_
    refine ⟨_, hX _ ?_⟩
    refine cb_yy h2 ?_
    exact br_t rfl ⟨_, hY _ ⟨rfl, cb_i R⟩⟩
  · refine cb_xn hb ?_
    refine br_t rfl ?_
    refine cb_ybad hb ?_
    exact br_f (by decide) ⟨rfl, cb_i R⟩
theorem i_vc_below {k : Nat} {u : SX} {v : SY} (I : i_Rel k u v) (hk : k + 3 ≤ 1538) (v1 : Int32) (v2 : Int32) : wpX_below (fun r => wpY_below (fun r' => r' = r ∧ i_Rel (k + 3) u v) v v1 v2) u v1 v2 := by
  obtain ⟨nv, nb, dl, co, rs, sz, cf, rt, sn, hs, rfl, rfl, R⟩ := I
  unfold wpX_below wpY_below
  dsimp only
  rcases cb_sysc v1 with ⟨s, h2, rfl⟩ | hb
  · obtain ⟨r, hX, hY⟩ := cb_belL (dl := dl) (sn := sn) R h2 v2 (2 ^ (nb * nv)) 0 0 (by omega)
    refine cb_xy h2 ?_
    refine br_f (by decide) ?_
    refine ⟨_, hX _ ?_⟩
    refine cb_yy h2 ?_
    exact br_t rfl ⟨_, hY _ ⟨rfl, cb_i R⟩⟩
  · refine cb_xn hb ?_
    refine br_t rfl ?_
    refine cb_ybad hb ?_
    exact br_f (by decide) ⟨rfl, cb_i R⟩
theorem i_vc_entails {k : Nat} {u : SX} {v : SY} (I : i_Rel k u v) (hk : k + 3 ≤ 1538) (v1 : Int32) (v2 : Int32) : wpX_entails (fun r => wpY_entails (fun r' => r' = r ∧ i_Rel (k + 3) u v) v v1 v2) u v1 v2 := by
  obtain ⟨nv, nb, dl, co, rs, sz, cf, rt, sn, hs, rfl, rfl, R⟩ := I
  unfold wpX_entails wpY_entails
  dsimp only
  rcases cb_sysc v1 with ⟨s, h2, rfl⟩ | hb
  · obtain ⟨r, hX, hY⟩ := cb_entL (dl := dl) (sn := sn) R h2 v2 (2 ^ (nb * nv)) 0 (by omega)
    refine cb_xy h2 ?_
    refine br_f (by decide) ?_
    refine ⟨_, hX _ ?_⟩
    refine cb_yy h2 ?_
    exact br_t rfl ⟨_, hY _ ⟨rfl, cb_i R⟩⟩
  · refine cb_xn hb ?_
    refine br_t rfl ?_
    refine cb_ybad hb ?_
    exact br_f (by decide) ⟨rfl, cb_i R⟩
theorem i_vc_countAt {k : Nat} {u : SX} {v : SY} (I : i_Rel k u v) (hk : k + 3 ≤ 1538) (v1 : Int32) (v2 : Int32) : wpX_countAt (fun r => wpY_countAt (fun r' => r' = r ∧ i_Rel (k + 3) u v) v v1 v2) u v1 v2 := by
  obtain ⟨nv, nb, dl, co, rs, sz, cf, rt, sn, hs, rfl, rfl, R⟩ := I
  unfold wpX_countAt wpY_countAt
  dsimp only
  rcases cb_sysc v1 with ⟨s, h2, rfl⟩ | hb
  · obtain ⟨r, _, _, _, hX, hY⟩ := cb_catL (dl := dl) (sn := sn) R h2 v2 (2 ^ (nb * nv)) 0 0 (by omega)
    refine cb_xy h2 ?_
    refine br_f (by decide) ?_
    refine ⟨_, hX _ ?_⟩
    refine cb_yy h2 ?_
    exact br_t rfl ⟨_, hY _ ⟨rfl, cb_i R⟩⟩
  · refine cb_xn hb ?_
    refine br_t rfl ?_
    refine cb_ybad hb ?_
    exact br_f (by decide) ⟨rfl, cb_i R⟩
theorem i_vc_values {k : Nat} {u : SX} {v : SY} (I : i_Rel k u v) (hk : k + 3 ≤ 1538) (v1 : Int32) : wpX_values (fun r => wpY_values (fun r' v' => r' = r ∧ i_Rel (k + 3) u v') v v1) u v1 := by
  obtain ⟨nv, nb, dl, co, rs, sz, cf, rt, sn, hs, rfl, rfl, R⟩ := I
  unfold wpX_values wpY_values
  dsimp only
  rcases cb_sysc v1 with ⟨s, h2, rfl⟩ | hb
  · obtain ⟨r, hX, hY⟩ := cb_valL (dl := dl) R h2 (2 ^ nb) 0 0 (by omega)
    refine cb_xy h2 ?_
    refine br_f (by decide) ?_
    refine ⟨_, hX _ ?_⟩
    refine cb_yy h2 ?_
    refine br_t rfl ?_
    refine cb_mark R h2 (fun sn' hm => ?_)
    exact ⟨_, hY sn' hm _ ⟨rfl, cb_i R⟩ 16 (by omega)⟩
  · refine cb_xn hb ?_
    refine br_t rfl ?_
    refine cb_ybad hb ?_
    exact br_f (by decide) ⟨rfl, cb_i R⟩
theorem i_vc_leastValue {k : Nat} {u : SX} {v : SY} (I : i_Rel k u v) (hk : k + 3 ≤ 1538) (v1 : Int32) : wpX_leastValue (fun r => wpY_leastValue (fun r' v' => r' = r ∧ i_Rel (k + 3) u v') v v1) u v1 := by
  obtain ⟨nv, nb, dl, co, rs, sz, cf, rt, sn, hs, rfl, rfl, R⟩ := I
  unfold wpX_leastValue wpY_leastValue
  dsimp only
  rcases cb_sysc v1 with ⟨s, h2, rfl⟩ | hb
  · obtain ⟨r, hX, hY⟩ := cb_lstL (dl := dl) R h2 (2 ^ nb) 0 (by omega)
    refine cb_xy h2 ?_
    refine br_f (by decide) ?_
    refine ⟨_, hX _ ?_⟩
    refine cb_yy h2 ?_
    refine br_t rfl ?_
    refine cb_mark R h2 (fun sn' hm => ?_)
    exact ⟨_, hY sn' hm _ ⟨rfl, cb_i R⟩ 16 (by omega)⟩
  · refine cb_xn hb ?_
    refine br_t rfl ?_
    refine cb_ybad hb ?_
    exact br_f (by decide) ⟨rfl, cb_i R⟩
theorem i_vc_within {k : Nat} {u : SX} {v : SY} (I : i_Rel k u v) (hk : k + 3 ≤ 1538) (v1 : Int32) : wpX_within (fun r => wpY_within (fun r' => r' = r ∧ i_Rel (k + 3) u v) v v1) u v1 := by
  obtain ⟨nv, nb, dl, co, rs, sz, cf, rt, sn, hs, rfl, rfl, R⟩ := I
  unfold wpX_within wpY_within
  dsimp only
  rcases cb_sysc v1 with ⟨s, h2, rfl⟩ | hb
  · obtain ⟨r, hX, hY⟩ := cb_witL (dl := dl) (sn := sn) R h2 (2 ^ (nb * nv)) 0 (by omega)
    refine cb_xy h2 ?_
    refine br_f (by decide) ?_
    refine ⟨_, hX _ ?_⟩
    refine cb_yy h2 ?_
    exact br_t rfl ⟨_, hY _ ⟨rfl, cb_i R⟩⟩
  · refine cb_xn hb ?_
    refine br_t rfl ?_
    refine cb_ybad hb ?_
    exact br_f (by decide) ⟨rfl, cb_i R⟩
theorem i_vc_common {k : Nat} {u : SX} {v : SY} (I : i_Rel k u v) (hk : k + 3 ≤ 1538) : wpX_common (fun r => wpY_common (fun r' => r' = r ∧ i_Rel (k + 3) u v) v) u := by
  obtain ⟨nv, nb, dl, co, rs, sz, cf, rt, sn, hs, rfl, rfl, R⟩ := I
  obtain ⟨r, hX, hY⟩ := cb_comL (dl := dl) (sn := sn) R (2 ^ (nb * nv)) 0 0 (by omega)
  exact ⟨_, hX _ ⟨_, hY _ ⟨rfl, cb_i R⟩⟩⟩
theorem i_vc_withoutUnknown {k : Nat} {u : SX} {v : SY} (I : i_Rel k u v) (hk : k + 3 ≤ 1538) (v1 : Int32) (v2 : Int32) : wpX_withoutUnknown (fun r => wpY_withoutUnknown (fun r' => r' = r ∧ i_Rel (k + 3) u v) v v1 v2) u v1 v2 := by
  obtain ⟨nv, nb, dl, co, rs, sz, cf, rt, sn, hs, rfl, rfl, R⟩ := I
  unfold wpX_withoutUnknown wpY_withoutUnknown
  dsimp only
  rcases cb_sysc v1 with ⟨s, h2, rfl⟩ | hb
  · refine cb_xy h2 ?_
    refine br_f (by decide) ?_
    rcases cb_unkc R.1 v2 with ⟨v, hv, rfl⟩ | hu
    · have h4 := R.1.2.1
      obtain ⟨r, hX, hY⟩ := cb_witoL (dl := dl) (sn := sn) R h2 (show v ≤ 4 by omega) (2 ^ (nb * nv)) 0 0 (by omega)
      refine cb_xu R.1 hv ?_
      refine br_f (by decide) ?_
      refine ⟨_, hX _ ?_⟩
      refine cb_yy h2 ?_
      refine br_t rfl ?_
      refine cb_yu R.1 hv ?_
      exact br_t rfl ⟨_, hY _ ⟨rfl, cb_i R⟩⟩
    · refine cb_xu0 hu ?_
      refine br_t rfl ?_
      refine cb_yy h2 ?_
      refine br_t rfl ?_
      refine cb_yu1 hu ?_
      exact br_f (by decide) ⟨rfl, cb_i R⟩
  · refine cb_xn hb ?_
    refine br_t rfl ?_
    refine cb_ybad hb ?_
    exact br_f (by decide) ⟨rfl, cb_i R⟩
theorem i_vc_settledBits {k : Nat} {u : SX} {v : SY} (I : i_Rel k u v) (hk : k + 3 ≤ 1538) (v1 : Int32) (v2 : Int32) : wpX_settledBits (fun r => wpY_settledBits (fun r' => r' = r ∧ i_Rel (k + 3) u v) v v1 v2) u v1 v2 := by
  obtain ⟨nv, nb, dl, co, rs, sz, cf, rt, sn, hs, rfl, rfl, R⟩ := I
  unfold wpX_settledBits wpY_settledBits wpX_nth wpY_nth wpX_differingBits
  dsimp only
  rcases cb_sysc v1 with ⟨s, h2, rfl⟩ | hb
  · refine cb_xy h2 ?_
    refine br_f (by decide) ?_
    rcases cb_unkc R.1 v2 with ⟨v, hv, rfl⟩ | hu
    · have h4 := R.1.2.1
      have hA := cb_pA R.1
      refine cb_xu R.1 hv ?_
      refine br_f (by decide) ?_
      refine cb_xy h2 ?_
      refine br_f (by decide) ?_
      rcases cb_nth0 (dl := dl) (sn := sn) R h2 (2 ^ (nb * nv)) 0 (by omega) with ⟨a, ha, hS, hlow, hX, hY⟩ | ⟨hX, hY⟩
      · have hf := cb_dg_lt (nb := nb) (num := a) (v := v)
        obtain ⟨D, hD, hbits, hDX⟩ := cb_dif16 (dl := dl) R h2 (show v ≤ 4 by omega) hf ((2 ^ (nb * nv)) - (a + 1)) (a + 1) 0 (by omega) (by decide)
        obtain ⟨J, hJ, hJ1, hJ2, hJX⟩ := cb_set46 (dl := dl) (co := co) (rs := rs) (sz := sz) R.1 hD nb 0 (by omega) (fun t ht => absurd ht (by omega))
        refine ⟨_, hX _ ?_⟩
        refine br_t (nI_pos' (by omega)) ?_
        refine cb_xd R.1 (by omega) (by omega) ?_
        refine nm_r (nI_1 a) ⟨_, hDX _ ?_⟩
        refine ⟨_, hJX _ ?_⟩
        refine cb_yy h2 ?_
        refine br_t rfl ?_
        refine cb_yu R.1 hv ?_
        refine br_t rfl ?_
        refine cb_yy h2 ?_
        refine br_t rfl ?_
        refine ⟨_, hY _ ?_⟩
        refine br_t (nI_pos' (by omega)) ?_
        refine cb_yd R.1 (by omega) (by omega) ?_
        refine ⟨_, cb_set49 (J := J) R h2 (by omega) hf ⟨rfl, cb_i R⟩ (fun b hb hSb => ?_) (fun j hj hjn => ?_) nb hJ (by omega)⟩
        · apply Nat.eq_of_testBit_eq
          intro t
          rw [Nat.testBit_mod_two_pow, Nat.testBit_mod_two_pow]
          by_cases ht : t < J
          · refine congrArg _ (Decidable.byContradiction fun hne => ?_)
            by_cases e : b = a
            · subst e
              exact hne rfl
            · by_cases hlt : b < a
              · rw [hlow b (by omega) hlt] at hSb
                exact absurd hSb (by decide)
              · have := (hbits t).mpr (Or.inr ⟨b, by omega, hb, hSb, hne⟩)
                rw [hJ1 t ht] at this
                exact absurd this (by decide)
          · rw [decide_eq_false ht, Bool.false_and, Bool.false_and]
        · rcases (hbits J).mp (hJ2 (by omega)) with z | ⟨b, h1, h3, h5, h6⟩
          · rw [Nat.zero_testBit] at z
            exact absurd z (by decide)
          · refine ⟨b, h3, h5, fun e => h6 ?_⟩
            have e2 := congrArg (fun x => x.testBit J) e
            rw [Nat.testBit_mod_two_pow, Nat.testBit_mod_two_pow, decide_eq_true hj, Bool.true_and, Bool.true_and] at e2
            exact e2
      · refine ⟨_, hX _ ?_⟩
        refine br_f (by decide) ?_
        refine cb_yy h2 ?_
        refine br_t rfl ?_
        refine cb_yu R.1 hv ?_
        refine br_t rfl ?_
        refine cb_yy h2 ?_
        refine br_t rfl ?_
        refine ⟨_, hY _ ?_⟩
        exact br_f (by decide) ⟨rfl, cb_i R⟩
    · refine cb_xu0 hu ?_
      refine br_t rfl ?_
      refine cb_yy h2 ?_
      refine br_t rfl ?_
      refine cb_yu1 hu ?_
      exact br_f (by decide) ⟨rfl, cb_i R⟩
  · refine cb_xn hb ?_
    refine br_t rfl ?_
    refine cb_ybad hb ?_
    exact br_f (by decide) ⟨rfl, cb_i R⟩
theorem i_vc_redundant {k : Nat} {u : SX} {v : SY} (I : i_Rel k u v) (hk : k + 3 ≤ 1538) (v1 : Int32) (v2 : Int32) : wpX_redundant (fun r => wpY_redundant (fun r' => r' = r ∧ i_Rel (k + 3) u v) v v1 v2) u v1 v2 := by
  obtain ⟨nv, nb, dl, co, rs, sz, cf, rt, sn, hs, rfl, rfl, R⟩ := I
  unfold wpX_redundant wpY_redundant wpX_isPosition
  dsimp only
  rcases cb_sysc v1 with ⟨s, h2, rfl⟩ | hb
  · have c := cb_szc R.2.1 h2
    obtain ⟨hz, h10⟩ := R.2.1 s h2
    rw [c]
    refine cb_xy h2 ?_
    refine br_f (by decide) ?_
    by_cases h0 : v2 < 0
    · refine br_t h0 ?_
      refine br_t rfl ?_
      refine cb_yy h2 ?_
      refine br_t rfl ?_
      exact br_t h0 ⟨rfl, cb_i R⟩
    · refine br_f h0 ⟨pk_in s 2 h2, ?_⟩
      obtain ⟨j, hj, rfl⟩ := nI_of h0
      by_cases hh : j < hs s
      · obtain ⟨r, hX, hY⟩ := cb_redL (dl := dl) (sn := sn) R h2 (nI j) (2 ^ (nb * nv)) 0 (by omega)
        refine br_f (nI_ge hh (by omega)) ?_
        refine br_f (by decide) ?_
        refine ⟨_, hX _ ?_⟩
        refine cb_yy h2 ?_
        refine br_t rfl ?_
        refine br_f h0 ⟨pk_in s 2 h2, ?_⟩
        exact br_t (nI_lt hh (by omega)) ⟨_, hY _ ⟨rfl, cb_i R⟩⟩
      · refine br_t (nI_le (by omega) hj) ?_
        refine br_t rfl ?_
        refine cb_yy h2 ?_
        refine br_t rfl ?_
        refine br_f h0 ⟨pk_in s 2 h2, ?_⟩
        exact br_f (nI_nlt (by omega) hj) ⟨rfl, cb_i R⟩
  · refine cb_xn hb ?_
    refine br_t rfl ?_
    refine cb_ybad hb ?_
    exact br_f (by decide) ⟨rfl, cb_i R⟩
end
