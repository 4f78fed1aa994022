/-! rows of kit/rows (PURE-ROWS, BITS), pasted -/
theorem pk_us {f : Nat → Int32} {k : Nat} {x : Int32} : upd f k x k = x := if_pos rfl
theorem pk_un {f : Nat → Int32} {k j : Nat} {x : Int32} (h : j ≠ k) : upd f k x j = f j := if_neg h
theorem pk_sub {a b : Nat} (h : b ≤ a) : nI a - nI b = nI (a - b) := by
  obtain ⟨c, rfl⟩ : ∃ c, a = c + b := ⟨a - b, by omega⟩
  rw [← nI_add, Int32.add_sub_cancel, Nat.add_sub_cancel]
theorem pk_m1 (n : Nat) : nI (n + 1) + (-1) = nI n := by
  rw [← nI_1, Int32.add_assoc, show (1 : Int32) + (-1) = 0 from rfl, Int32.add_zero]
theorem pk_mul (a b : Nat) : nI a * nI b = nI (a * b) := (Int32.ofNat_mul a b).symm
theorem pk_ix (x : Int32) {n : Nat} (hn : n < 2 ^ 31) : x < 0 ∨ nI n ≤ x ∨ ∃ j : Nat, j < n ∧ x = nI j := by
  by_cases h : x < 0
  · exact Or.inl h
  · obtain ⟨j, hj, rfl⟩ := nI_of h
    by_cases h2 : j < n
    · exact Or.inr (Or.inr ⟨j, h2, rfl⟩)
    · exact Or.inr (Or.inl (nI_le (by omega) hj))
theorem pk_in {x : Int32} (n N : Nat) (h : n < N) (hx : x = nI n := by rfl) (hN : N < 2 ^ 31 := by omega) : vp_in x N := by
  subst hx
  exact vp_in_nI h hN
theorem pk_cl {x : Int32} (n : Nat) (hx : x = nI n := by rfl) (h : n < 2 ^ 31 := by omega) : x.toNatClampNeg = n := by
  subst hx
  exact nI_clamp h
theorem pk_tn {n : Nat} (h : n < 2 ^ 32) : (nI n).toBitVec.toNat = n := Nat.mod_eq_of_lt h
theorem pk_and (x : Int32) {m : Int32} (k : Nat) (hm : m.toBitVec.toNat = 2 ^ k - 1) : x &&& m = nI (x.toBitVec.toNat % 2 ^ k) := by
  apply Int32.toBitVec_inj.mp
  apply BitVec.eq_of_toNat_eq
  rw [Int32.toBitVec_and, BitVec.toNat_and, hm, Nat.and_two_pow_sub_one_eq_mod]
  show _ = (BitVec.ofNat 32 _).toNat
  rw [BitVec.toNat_ofNat]
  exact (Nat.mod_eq_of_lt (Nat.lt_of_le_of_lt (Nat.mod_le _ _) x.toBitVec.isLt)).symm
theorem pk_andN {n : Nat} (h : n < 2 ^ 32) {m : Int32} (k : Nat) (hm : m.toBitVec.toNat = 2 ^ k - 1) : nI n &&& m = nI (n % 2 ^ k) := by
  rw [pk_and _ k hm, pk_tn h]
theorem pk_andE (x : Int32) {m : Int32} (k : Nat) (hm : m.toBitVec.toNat = 2 ^ k - 1) : ∃ j : Nat, j < 2 ^ k ∧ x &&& m = nI j := ⟨_, Nat.mod_lt _ (Nat.two_pow_pos k), pk_and x k hm⟩
theorem pk_shl (a s : Int32) (k : Nat) (hs : (s.toBitVec.smod 32).toNat = k) : (a <<< s).toBitVec.toNat = a.toBitVec.toNat * 2 ^ k % 2 ^ 32 := by
  show (a.toBitVec <<< (s.toBitVec.smod 32).toNat).toNat = _
  rw [hs, BitVec.toNat_shiftLeft, Nat.shiftLeft_eq]
theorem pk_shlN {n : Nat} (s : Int32) (k : Nat) (hs : (s.toBitVec.smod 32).toNat = k) (h : n * 2 ^ k < 2 ^ 32) : nI n <<< s = nI (n * 2 ^ k) := by
  apply Int32.toBitVec_inj.mp
  apply BitVec.eq_of_toNat_eq
  have hn : n < 2 ^ 32 := Nat.lt_of_le_of_lt (Nat.le_mul_of_pos_right n (Nat.two_pow_pos k)) h
  rw [pk_shl _ _ k hs, pk_tn hn, pk_tn h, Nat.mod_eq_of_lt h]
theorem pk_shr (a s : Int32) (k : Nat) (hs : (s.toBitVec.smod 32).toNat = k) : (a >>> s).toInt = a.toInt >>> k := by
  show (a.toBitVec.sshiftRight (s.toBitVec.smod 32).toNat).toInt = _
  rw [hs, BitVec.toInt_sshiftRight]
  rfl
theorem pk_shrN {n : Nat} (h : n < 2 ^ 31) (s : Int32) (k : Nat) (hs : (s.toBitVec.smod 32).toNat = k) : nI n >>> s = nI (n / 2 ^ k) := by
  apply Int32.toInt_inj.mp
  have h2 : n / 2 ^ k ≤ n := Nat.div_le_self _ _
  rw [pk_shr _ _ k hs, nI_toInt h, nI_toInt (by omega), Int.shiftRight_eq_div_pow]
  rfl
theorem s_l : ∀ n, n < 32 → ((nI n &&& 31).toBitVec.smod 32).toNat = n := by decide +kernel
theorem nx_and (a b : Nat) : nI a &&& nI b = nI (a &&& b) := by
  apply Int32.toBitVec_inj.1
  show BitVec.ofNat 32 a &&& BitVec.ofNat 32 b = BitVec.ofNat 32 (a &&& b)
  apply BitVec.eq_of_getLsbD_eq
  intro i hi
  simp [hi]
theorem nx_xor (a b : Nat) : nI a ^^^ nI b = nI (a ^^^ b) := by
  apply Int32.toBitVec_inj.1
  show BitVec.ofNat 32 a ^^^ BitVec.ofNat 32 b = BitVec.ofNat 32 (a ^^^ b)
  apply BitVec.eq_of_getLsbD_eq
  intro i hi
  simp [hi]
/-! the two states -/
abbrev cb_X (nv nb : Nat) (dl co rs sz : Nat → Int32) : SX := (nI nv, nI nb, nI (2 ^ nb - 1), nI (2 ^ (nb * nv)), dl, co, rs, sz)
abbrev cb_Y (nv nb : Nat) (dl sz cf rt sn : Nat → Int32) : SY := (nI nv, nI nb, nI (2 ^ nb), nI (2 ^ (nb * nv)), dl, sz, cf, rt, sn)
/-- how many unknowns, how many bits -/
def cb_ok (nv nb : Nat) : Prop := 1 ≤ nv ∧ nv ≤ 4 ∧ 1 ≤ nb ∧ nb ≤ 4 ∧ nb * nv ≤ 9
/-- the sizes of the two systems -/
def cb_sz (sz : Nat → Int32) (hs : Nat → Nat) : Prop := ∀ s, s < 2 → sz s = nI (hs s) ∧ hs s ≤ 10
/-- both sides hold the same congruences, below the sizes -/
def cb_ag (hs : Nat → Nat) (co rs cf rt : Nat → Int32) : Prop :=
  ∀ s i, s < 2 → i < hs s → (∀ v, v < 4 → cf (40 * s + 4 * i + v) = co (40 * s + 4 * i + v)) ∧ rt (10 * s + i) = rs (10 * s + i)
def cb_R (nv nb : Nat) (co rs sz cf rt : Nat → Int32) (hs : Nat → Nat) : Prop := cb_ok nv nb ∧ cb_sz sz hs ∧ cb_ag hs co rs cf rt
def i_Rel (_ : Nat) (u : SX) (v : SY) : Prop :=
  ∃ (nv nb : Nat) (dl co rs sz cf rt sn : Nat → Int32) (hs : Nat → Nat), u = cb_X nv nb dl co rs sz ∧ v = cb_Y nv nb dl sz cf rt sn ∧ cb_R nv nb co rs sz cf rt hs
theorem i_up {k : Nat} {u : SX} {v : SY} (h : i_Rel k u v) : i_Rel (k + 3) u v := h
theorem cb_i {k nv nb : Nat} {dl co rs sz cf rt sn : Nat → Int32} {hs : Nat → Nat} (R : cb_R nv nb co rs sz cf rt hs) : i_Rel k (cb_X nv nb dl co rs sz) (cb_Y nv nb dl sz cf rt sn) :=
  ⟨nv, nb, dl, co, rs, sz, cf, rt, sn, hs, rfl, rfl, R⟩
section
variable {nv nb : Nat} {dl co rs sz cf rt sn : Nat → Int32} {hs : Nat → Nat}
theorem cb_pA (ok : cb_ok nv nb) : 2 ^ (nb * nv) ≤ 512 := Nat.pow_le_pow_right (n := 2) (by decide) ok.2.2.2.2
theorem cb_pA0 : 0 < 2 ^ (nb * nv) := Nat.two_pow_pos _
theorem cb_pM (ok : cb_ok nv nb) : 2 ^ nb ≤ 16 := Nat.pow_le_pow_right (n := 2) (by decide) ok.2.2.2.1
theorem cb_pM0 : 0 < 2 ^ nb := Nat.two_pow_pos _
theorem cb_nbv (ok : cb_ok nv nb) {v : Nat} (h : v ≤ 4) : nb * v ≤ 16 := Nat.mul_le_mul ok.2.2.2.1 h
theorem cb_pV (ok : cb_ok nv nb) {v : Nat} (h : v ≤ 4) : 2 ^ (nb * v) ≤ 65536 := Nat.pow_le_pow_right (n := 2) (by decide) (cb_nbv ok h)
theorem cb_mk : nI (2 ^ nb) - 1 = nI (2 ^ nb - 1) := pk_sub (a := 2 ^ nb) (b := 1) (Nat.two_pow_pos nb)
theorem cb_mtn (ok : cb_ok nv nb) : (nI (2 ^ nb - 1)).toBitVec.toNat = 2 ^ nb - 1 := pk_tn (by have := cb_pM ok; omega)
theorem cb_and (ok : cb_ok nv nb) {num : Nat} (h : num < 2 ^ 31) : nI num &&& nI (2 ^ nb - 1) = nI (num % 2 ^ nb) :=
  pk_andN (by omega) nb (cb_mtn ok)
def cb_dg (nb num v : Nat) : Nat := num / 2 ^ (nb * v) % 2 ^ nb
theorem cb_dg_lt {num v : Nat} : cb_dg nb num v < 2 ^ nb := Nat.mod_lt _ (Nat.two_pow_pos nb)
theorem cb_xdg (ok : cb_ok nv nb) {num v : Nat} (hv : v ≤ 4) (h : num < 2 ^ 31) : (nI num >>> ((nI nb * nI v) &&& 31)) &&& nI (2 ^ nb - 1) = nI (cb_dg nb num v) := by
  rw [pk_mul, pk_shrN h _ (nb * v) (s_l _ (by have := cb_nbv ok hv; omega)), cb_and ok (Nat.lt_of_le_of_lt (Nat.div_le_self _ _) h)]
  rfl
theorem cb_xd (ok : cb_ok nv nb) {post : Int32 → Prop} {num v : Nat} (hv : v ≤ 4) (h : num < 2 ^ 31) (hp : post (nI (cb_dg nb num v))) : wpX_digit post (cb_X nv nb dl co rs sz) (nI num) (nI v) := by
  show post _
  rw [cb_xdg ok hv h]
  exact hp
theorem cb_yd5 (ok : cb_ok nv nb) {post : Int32 → Prop} {num v : Nat} (hv : v ≤ 4) (h : num < 2 ^ 31) (hp : post (nI (cb_dg nb num v))) :
    ∀ d k, k + d = v → wY_digit_5 post (nI v) (nI nv) (nI nb) (nI (2 ^ nb)) (nI (2 ^ (nb * nv))) dl sz cf rt sn (d + 1) (nI (num / 2 ^ (nb * k))) (nI k) := by
  intro d
  induction d with
  | zero =>
    intro k hk
    have e : k = v := by omega
    subst e
    refine br_t (nI_le (by omega) (by omega)) ?_
    show post _
    rw [cb_mk, cb_and ok (Nat.lt_of_le_of_lt (Nat.div_le_self _ _) h)]
    exact hp
  | succ d ih =>
    intro k hk
    refine br_f (nI_ge (by omega) (by omega)) (br_f (nI_ge (b := 4) (by omega) (by decide)) (nm_r ?_ (nm_r (nI_1 k) (ih (k + 1) (by omega)))))
    rw [pk_shrN (Nat.lt_of_le_of_lt (Nat.div_le_self _ _) h) _ nb (s_l _ (by have := ok.2.2.2.1; omega)), Nat.div_div_eq_div_mul, ← Nat.pow_add, Nat.mul_succ]
theorem cb_yd (ok : cb_ok nv nb) {post : Int32 → Prop} {num v : Nat} (hv : v ≤ 4) (h : num < 2 ^ 31) (hp : post (nI (cb_dg nb num v))) : wpY_digit post (cb_Y nv nb dl sz cf rt sn) (nI num) (nI v) := by
  have := cb_yd5 (dl := dl) (sz := sz) (cf := cf) (rt := rt) (sn := sn) ok hv h hp v 0 (by omega)
  rw [Nat.mul_zero, Nat.pow_zero, Nat.div_one] at this
  exact ⟨_, this⟩
end
