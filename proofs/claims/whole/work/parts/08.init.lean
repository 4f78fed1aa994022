section
variable {nv nb : Nat} {dl co rs sz cf rt sn : Nat → Int32} {hs : Nat → Nat}
/-! wrappers -/
theorem cb_xaddE {post : Int32 → SX → Prop} {s i : Nat} {q : Int32} (h2 : s < 2) (hi : i < 10) (hz : sz s = nI i)
    (hp : post (nI (i + 1)) (cb_X nv nb dl (cb_st dl co (40 * s + 4 * i) 4) (upd rs (10 * s + i) (q &&& nI (2 ^ nb - 1))) (upd sz s (nI (i + 1))))) :
    ∃ n, wX_add_37 post (nI s) q (nI (10 * s + i)) (nI nv) (nI nb) (nI (2 ^ nb - 1)) (nI (2 ^ (nb * nv))) n 0 dl co rs sz := by
  have key := cb_xadd h2 hi hz hp 4 0 (by omega)
  rw [cb_st0] at key
  exact ⟨_, key⟩
theorem cb_yaddE {post : Int32 → SY → Prop} {s i : Nat} {q : Int32} (h2 : s < 2) (hi : i < 10)
    (hp : post (nI (i + 1)) (cb_Y nv nb dl (upd sz s (nI (i + 1))) (cb_st dl cf (40 * s + 4 * i) 4) (upd rt (10 * s + i) (q &&& nI (2 ^ nb - 1))) sn)) :
    ∃ n, wY_add_29 post (nI s) q (nI i) (nI nv) (nI nb) (nI (2 ^ nb)) (nI (2 ^ (nb * nv))) n 0 dl sz cf rt sn := by
  have key := cb_yadd h2 hi hp 4 0 (by omega)
  rw [cb_st0] at key
  exact ⟨_, key⟩
theorem cb_xdropE {post : Int32 → SX → Prop} {s i h : Nat} (h2 : s < 2) (h10 : h ≤ 10) (hi : i < h) (hz : sz s = nI h)
    (hp : post (nI (h - 1)) (cb_X nv nb dl (cb_cp co (40 * s + 4 * i + 4) (40 * s + 4 * i) (4 * (h - 1 - i))) (cb_cp rs (10 * s + i + 1) (10 * s + i) (h - 1 - i)) (upd sz s (nI (h - 1))))) :
    ∃ n, wX_drop_41 post (nI s) (nI (10 * s + (h - 1))) n (nI (10 * s + i)) (nI nv) (nI nb) (nI (2 ^ nb - 1)) (nI (2 ^ (nb * nv))) dl co rs sz :=
  ⟨_, cb_xdrop h2 h10 hi hz hp (h - 1 - i) 0 co rs (by omega) cb_cp0.symm cb_cp0.symm⟩
theorem cb_ydropE {post : Int32 → SY → Prop} {s i h : Nat} (h2 : s < 2) (h10 : h ≤ 10) (hi : i < h) (hz : sz s = nI h)
    (hp : post (nI (h - 1)) (cb_Y nv nb dl (upd sz s (nI (h - 1))) (cb_cp cf (40 * s + 4 * i + 4) (40 * s + 4 * i) (4 * (9 - i))) (cb_cp rt (10 * s + i + 1) (10 * s + i) (9 - i)) sn)) :
    ∃ n, wY_drop_35 post (nI s) (nI nv) (nI nb) (nI (2 ^ nb)) (nI (2 ^ (nb * nv))) n (nI i) dl sz cf rt sn :=
  ⟨_, cb_ydrop h2 h10 hi hz hp (9 - i) 0 cf rt (by omega) cb_cp0.symm cb_cp0.symm⟩
theorem cb_xcopyE {post : Int32 → SX → Prop} {s h : Nat} (h2 : s < 2) (h10 : h ≤ 10) (hz : sz s = nI h)
    (hp : post (nI h) (cb_X nv nb dl (cb_cp co (40 * s) (40 * (1 - s)) (4 * h)) (cb_cp rs (10 * s) (10 * (1 - s)) h) (upd sz (1 - s) (nI h)))) :
    ∃ n, wX_copy_26 post (nI s) (nI (10 * s)) (nI (10 * (1 - s))) n 0 (nI nv) (nI nb) (nI (2 ^ nb - 1)) (nI (2 ^ (nb * nv))) dl co rs sz :=
  ⟨_, cb_xcopy h2 h10 hz hp h 0 co rs (by omega) cb_cp0.symm cb_cp0.symm⟩
theorem cb_ycopyE {post : Int32 → SY → Prop} {s h : Nat} (h2 : s < 2) (hz : sz s = nI h)
    (hp : post (nI h) (cb_Y nv nb dl (upd sz (1 - s) (nI h)) (cb_cp cf (40 * s) (40 * (1 - s)) 40) (cb_cp rt (10 * s) (10 * (1 - s)) 10) sn)) :
    ∃ n, wY_copy_16 post (nI s) (nI (1 - s)) (nI nv) (nI nb) (nI (2 ^ nb)) (nI (2 ^ (nb * nv))) n 0 dl sz cf rt sn := by
  have key := cb_ycopy h2 hz hp 40 0 (by omega)
  rw [cb_cp0] at key
  exact ⟨_, key⟩
/-! the constructors -/
def cb_cl (p : Int32) (m n : Nat) : Prop := (1 ≤ p ∧ p ≤ nI m ∧ p = nI n) ∨ (1 ≤ p ∧ ¬ p ≤ nI m ∧ n = m) ∨ (¬ 1 ≤ p ∧ n = 1)
theorem cb_clE (p : Int32) {m : Nat} (h1 : 1 ≤ m) (h4 : m ≤ 4) : ∃ n, 1 ≤ n ∧ n ≤ m ∧ cb_cl p m n := by
  by_cases a : 1 ≤ p
  · by_cases b : p ≤ nI m
    · have h0 : ¬ p < 0 := fun h => absurd (Int32.lt_of_le_of_lt a h) (by decide)
      obtain ⟨n, hn, rfl⟩ := nI_of h0
      exact ⟨n, (nI_leI (a := 1) (by decide) hn).mp a, (nI_leI hn (by omega)).mp b, Or.inl ⟨a, b, rfl⟩⟩
    · exact ⟨m, h1, Nat.le_refl m, Or.inr (Or.inl ⟨a, b, rfl⟩)⟩
  · exact ⟨1, Nat.le_refl 1, h1, Or.inr (Or.inr ⟨a, rfl⟩)⟩
theorem cb_c3 {Q : Int32 → Prop} {p : Int32} {m n : Nat} (h : cb_cl p m n) (hq : Q (nI n)) :
    ((1 ≤ p → ((p ≤ nI m → Q p) ∧ (¬ p ≤ nI m → Q (nI m)))) ∧ (¬ 1 ≤ p → Q 1)) := by
  rcases h with ⟨a, b, e⟩ | ⟨a, b, e⟩ | ⟨a, e⟩
  · exact br_t a (br_t b (by rw [e]; exact hq))
  · exact br_t a (br_f b (by rw [← e]; exact hq))
  · subst e
    exact br_f a hq
theorem cb_xcl {post : Int32 → Prop} {p : Int32} {m n : Nat} (h : cb_cl p m n) (hq : post (nI n)) : wpX_clamped post p (nI m) := cb_c3 (Q := post) h hq
theorem cb_mb {n : Nat} (h1 : 1 ≤ n) (h4 : n ≤ 4) : ∃ m, 1 ≤ m ∧ m ≤ 4 ∧ m * n ≤ 9 ∧ (∀ post : Int32 → Prop, post (nI m) → wpX_mostBitsFor post (nI n)) ∧
    (∀ (post : SY → Prop) (x2 a0 a1 a2 a3 : Int32) (a4 a5 a6 a7 a8 : Nat → Int32), wY_init_90 post x2 (nI m) (nI n) a1 a2 a3 a4 a5 a6 a7 a8 → wY_init_62 post x2 (nI n) a0 a1 a2 a3 a4 a5 a6 a7 a8) := by
  rcases (by omega : n = 1 ∨ n = 2 ∨ n = 3 ∨ n = 4) with rfl | rfl | rfl | rfl
  · exact ⟨4, by omega, by omega, by omega, fun _ hp => br_f (by decide) (br_f (by decide) hp), fun _ _ _ _ _ _ _ _ _ _ _ hp => br_f (by decide) hp⟩
  · exact ⟨4, by omega, by omega, by omega, fun _ hp => br_f (by decide) (br_f (by decide) hp), fun _ _ _ _ _ _ _ _ _ _ _ hp => br_f (by decide) hp⟩
  · exact ⟨3, by omega, by omega, by omega, fun _ hp => br_t rfl hp, fun _ _ _ _ _ _ _ _ _ _ _ hp => br_t (by decide) (br_t rfl hp)⟩
  · exact ⟨2, by omega, by omega, by omega, fun _ hp => br_f (by decide) (br_t rfl hp), fun _ _ _ _ _ _ _ _ _ _ _ hp => br_t (by decide) (br_f (by decide) hp)⟩
theorem cb_sh1 {k : Nat} (h : k ≤ 16) : (1 : Int32) <<< (nI k &&& 31) = nI (2 ^ k) := by
  have : 2 ^ k ≤ 65536 := Nat.pow_le_pow_right (n := 2) (by decide) h
  show nI 1 <<< (nI k &&& 31) = _
  rw [pk_shlN _ k (s_l k (by omega)) (by omega), Nat.one_mul]
theorem cb_y132 (ok : cb_ok nv nb) {post : SY → Prop} (hp : post (cb_Y nv nb dl sz cf rt sn)) : ∀ d i, i + d = nv →
    wY_init_132 post (nI nv) (nI nb) (nI (2 ^ nb)) dl sz cf rt sn (d + 1) (nI i) (nI (2 ^ (nb * i))) := by
  have h4 := ok.2.1
  intro d
  induction d with
  | zero =>
    intro i hi
    have e : i = nv := by omega
    subst e
    exact br_t (nI_le (by omega) (by omega)) hp
  | succ d ih =>
    intro i hi
    refine br_f (nI_ge (by omega) (by omega)) (nm_r ?_ (nm_r (nI_1 i) (ih (i + 1) (by omega))))
    rw [pk_mul, ← Nat.pow_add, Nat.mul_succ]
theorem cb_y111 (ok : cb_ok nv nb) {post : SY → Prop} {a1 a2 a3 : Int32} (hp : post (cb_Y nv nb dl sz cf rt sn)) : wY_init_111 post (nI nb) (nI nv) a1 a2 a3 dl sz cf rt sn := by
  have key := cb_y132 ok hp nv 0 (by omega)
  rw [Nat.mul_zero, Nat.pow_zero] at key
  unfold wY_init_111
  rw [cb_sh1 (by have := ok.2.2.2.1; omega)]
  exact nm_e ⟨_, key⟩
end
theorem i_vc0 (k0 : Int32) (k1 : Int32) : wpX_init (fun u => wpY_init (fun v => i_Rel 2 u v) k0 k1) k0 k1 := by
  obtain ⟨nv, hv1, hv4, hc⟩ := cb_clE k0 (m := 4) (by omega) (by omega)
  obtain ⟨m, hm1, hm4, hm9, hX, hY⟩ := cb_mb hv1 hv4
  obtain ⟨nb, hb1, hbm, hd⟩ := cb_clE k1 hm1 hm4
  have hb9 : nb * nv ≤ 9 := Nat.le_trans (Nat.mul_le_mul_right nv hbm) hm9
  have ok : cb_ok nv nb := ⟨hv1, hv4, hb1, by omega, hb9⟩
  unfold wpX_init
  refine cb_xcl hc ?_
  refine hX _ ?_
  refine cb_xcl hd ?_
  rw [cb_low (by omega), pk_mul, cb_sh1 (by omega)]
  refine nm_e (nm_e ?_)
  unfold wpY_init
  refine cb_c3 (Q := fun z => wY_init_62 _ k1 z 0 0 0 0 (fun _ => 0) (fun _ => 0) (fun _ => 0) (fun _ => 0) (fun _ => 0)) hc ?_
  refine hY _ _ _ _ _ _ _ _ _ _ _ ?_
  unfold wY_init_90
  refine cb_c3 (Q := fun z => wY_init_111 _ z (nI nv) 0 0 0 (fun _ => 0) (fun _ => 0) (fun _ => 0) (fun _ => 0) (fun _ => 0)) hd ?_
  exact cb_y111 ok (cb_i (hs := fun _ => 0) ⟨ok, fun s _ => ⟨rfl, Nat.zero_le 10⟩, fun s i _ hi => absurd hi (Nat.not_lt_zero i)⟩)
