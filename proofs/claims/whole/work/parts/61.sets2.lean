/-! spreading, to its end -/
theorem cl_idem {O S A : Nat → Prop} (h : ∀ q, q < 256 → A q → Cl O S q) {p : Nat} (hc : Cl O A p) : Cl O S p := hc (Cl O S) h (fun _ _ hq hr hx hn ho => cl_step hq hr hx hn ho)
theorem c_spreadOnce {c cb : Nat → Int32} {O A : Nat → Prop} (hA : RB c A) (hO : RB cb O) : Rt (f_X3_spreadOnce FU c cb) (fun q => ∃ gr A', q.1 = nI gr ∧ RB q.2 A' ∧ SP O A A' 16 gr) := by
  unfold f_X3_spreadOnce
  refine c_so4 hO 16 0 FU 0 c A (by omega) (by unfold FU; omega) hA ⟨fun _ _ z => z, fun q hq z => cl_seed hq z, Or.inl ⟨rfl, fun _ _ => Iff.rfl, fun p hp => by omega⟩⟩ ?_
  intro z gr c' A' h1 h2
  unfold rz
  refine rt_t ?_ (rt_some ⟨gr, A', rfl, h1, h2⟩)
  rcases h2.2.2 with q | q
  · left; rw [q.1]; rfl
  · right; rw [q.1]; rfl
theorem c_sp4 {cb : Nat → Int32} {O S : Nat → Prop} (hO : RB cb O) :
    ∀ (d r fuel gr : Nat) (c : Nat → Int32) (A : Nat → Prop), r + d = 256 → d < fuel → RB c A → (∀ q, q < 256 → S q → A q) → (∀ q, q < 256 → A q → Cl O S q) → ((gr = 1 ∧ r ≤ cnt A) ∨ (gr = 0 ∧ ∀ p, p < 256 → O p → (∃ q, q < 256 ∧ A q ∧ nb q p) → A p)) →
      Rt (f_X3_spread_L4 FU cb (fun (x2_1 : Int32) (x3_2 : Int32) (c_a_3 : (Nat → Int32)) => some c_a_3) fuel (nI gr) (nI r) c) (fun c' => RB c' (Cl O S)) := by
  intro d
  induction d with
  | zero =>
    intro r fuel gr c A e1 e2 hA h1 h2 h3
    obtain ⟨f, rfl⟩ : ∃ f, fuel = f + 1 := ⟨fuel - 1, by omega⟩
    rw [f_X3_spread_L4]
    refine rt_t (by rw [show (256 : Int32) = nI 256 from rfl]; exact (by rw [n_le (by omega) (by omega)]; omega)) (rt_some (rb_cong hA (cl_is h1 h2 ?_)))
    intro q p hq hp ha hn ho
    rcases h3 with ⟨_, h4⟩ | ⟨_, h4⟩
    · exact cnt_all (by omega) hp
    · exact h4 p hp ho ⟨q, hq, ha, hn⟩
  | succ d ih =>
    intro r fuel gr c A e1 e2 hA h1 h2 h3
    obtain ⟨f, rfl⟩ : ∃ f, fuel = f + 1 := ⟨fuel - 1, by omega⟩
    rw [f_X3_spread_L4]
    refine rt_f (by rw [show (256 : Int32) = nI 256 from rfl]; exact (by rw [n_le (by omega) (by omega)]; omega)) ?_
    rcases h3 with ⟨h3, h4⟩ | ⟨h3, h4⟩
    · subst h3
      refine rt_f (by decide) ?_
      refine rt_bd2 (c_spreadOnce hA hO) ?_
      intro a1 a2 hz
      obtain ⟨gr, A', z1, z2, z3, z4, z5⟩ := hz
      dsimp only at z1 z2
      subst z1
      rw [nI_1]
      refine ih (r + 1) f gr a2 A' (by omega) (by omega) z2 (fun q hq z => z3 q hq (h1 q hq z)) (fun q hq z => cl_idem h2 (z4 q hq z)) ?_
      rcases z5 with ⟨z6, z7, z8⟩ | ⟨z6, z7⟩
      · right
        refine ⟨z6, fun p hp ho he => ?_⟩
        obtain ⟨q, hq, ha, hn⟩ := he
        exact (z7 p hp).mpr (z8 p (by omega) ho ⟨q, hq, (z7 q hq).mp ha, hn⟩)
      · left
        exact ⟨z6, by omega⟩
    · subst h3
      refine rt_t rfl (rt_some (rb_cong hA (cl_is h1 h2 ?_)))
      intro q p hq hp ha hn ho
      exact h4 p hp ho ⟨q, hq, ha, hn⟩
theorem c_spread {c cb : Nat → Int32} {O A : Nat → Prop} (hA : RB c A) (hO : RB cb O) : Rt (f_X3_spread FU c cb) (fun c' => RB c' (Cl O A)) := by
  unfold f_X3_spread
  exact c_sp4 hO 256 0 FU 1 c A (by omega) (by unfold FU; omega) hA (fun _ _ z => z) (fun q hq z => cl_seed hq z) (Or.inl ⟨rfl, Nat.zero_le _⟩)
/-! how many bits -/
theorem bt_n {n i : Nat} (hi : i < 32) : bt (nI n) i = n.testBit i := by
  unfold bt nI
  show (BitVec.ofNat 32 n).getLsbD i = _
  rw [BitVec.getLsbD_ofNat]
  simp [hi]
theorem ush_n {k j : Nat} (hk : k < 4294967296) (hj : j < 32) : ((nI k).toUInt32 >>> ((nI j).toUInt32 &&& Int32.toUInt32 31)).toInt32 = nI (k >>> j) := by
  apply b_ext
  intro i hi
  rw [b_ushr j hj, bt_n hi, Nat.testBit_shiftRight]
  by_cases c : j + i < 32
  · rw [bt_n c]
  · rw [b_big (by omega)]
    symm
    exact Nat.testBit_lt_two_pow (Nat.lt_of_lt_of_le hk (Nat.pow_le_pow_right (n := 2) (by omega : 2 > 0) (by omega : 32 ≤ j + i)))
theorem shr_le (n k : Nat) : n >>> k ≤ n := by rw [Nat.shiftRight_eq_div_pow]; exact Nat.div_le_self _ _
theorem pN_bits {n : Nat} (hn : n < 65536) : pNp n = fb_ct (fun i => n.testBit i) 16 := by
  have h1 := pN_cut (n / 256) (by omega) (n % 256) (by omega)
  rw [show 256 * (n / 256) + n % 256 = n by omega, pN_low (n / 256) (by omega), pN_low (n % 256) (by omega)] at h1
  have h2 := fb_ct_split (fun i => n.testBit i) 8 8
  rw [h1, h2, Nat.add_comm]
  congr 1
  · refine fb_ct_cong (fun i hi => ?_)
    show (n % 2 ^ 8).testBit i = n.testBit i
    rw [Nat.testBit_mod_two_pow]; simp [hi]
  · refine fb_ct_cong (fun i hi => ?_)
    show (n / 2 ^ 8).testBit i = n.testBit (8 + i)
    rw [Nat.testBit_div_two_pow, Nat.add_comm]
theorem bc_n {FU n : Nat} (hn : n < 65536) : f_J6_bitCount_0f7a4 FU (nI n) = some (nI (pNp n)) := by
  have l1 : pN1 n ≤ n := by unfold pN1; omega
  have l2 : pN2 (pN1 n) ≤ 2 * n := by
    have a := Nat.and_le_left (n := pN1 n) (m := 858993459)
    have b := Nat.and_le_left (n := pN1 n >>> 2) (m := 858993459)
    have c := shr_le (pN1 n) 2
    unfold pN2; omega
  have l3 : pN3 (pN2 (pN1 n)) ≤ 4 * n := by
    have a := Nat.and_le_left (n := pN2 (pN1 n) + pN2 (pN1 n) >>> 4) (m := 252645135)
    have c := shr_le (pN2 (pN1 n)) 4
    unfold pN3; omega
  have l4 : pN4 (pN3 (pN2 (pN1 n))) ≤ 8 * n := by
    have c := shr_le (pN3 (pN2 (pN1 n))) 8
    unfold pN4; omega
  have s1 : ((n >>> 1) &&& 1431655765) ≤ n := Nat.le_trans Nat.and_le_left (shr_le n 1)
  unfold f_J6_bitCount_0f7a4
  rw [show (1 : Int32) = nI 1 from rfl, ush_n (by omega) (by omega), show (1431655765 : Int32) = nI 1431655765 from rfl, nx_and, pk_sub s1]
  rw [show n - (n >>> 1 &&& 1431655765) = pN1 n from rfl, show (858993459 : Int32) = nI 858993459 from rfl, nx_and, show (2 : Int32) = nI 2 from rfl, ush_n (by omega) (by omega), nx_and, nI_add]
  rw [show (pN1 n &&& 858993459) + (pN1 n >>> 2 &&& 858993459) = pN2 (pN1 n) from rfl, show (4 : Int32) = nI 4 from rfl, ush_n (by omega) (by omega), nI_add, show (252645135 : Int32) = nI 252645135 from rfl, nx_and]
  rw [show (pN2 (pN1 n) + pN2 (pN1 n) >>> 4 &&& 252645135) = pN3 (pN2 (pN1 n)) from rfl, show (8 : Int32) = nI 8 from rfl, ush_n (by omega) (by omega), nI_add]
  rw [show pN3 (pN2 (pN1 n)) + pN3 (pN2 (pN1 n)) >>> 8 = pN4 (pN3 (pN2 (pN1 n))) from rfl, show (16 : Int32) = nI 16 from rfl, ush_n (by omega) (by omega), nI_add, show (63 : Int32) = nI 63 from rfl, nx_and]
  rfl
theorem bc_bits {FU : Nat} {y : Int32} (h : ∀ i, 16 ≤ i → i < 32 → bt y i = false) : f_J6_bitCount_0f7a4 FU y = some (nI (fb_ct (fun i => bt y i) 16)) := by
  obtain ⟨n, hn, rfl⟩ := wb_of32 y
  have hb : n < 65536 := by
    refine Nat.lt_pow_two_of_testBit (n := 16) n (fun i hi => ?_)
    by_cases c : i < 32
    · rw [← bt_n c]; exact h i hi c
    · exact Nat.testBit_lt_two_pow (Nat.lt_of_lt_of_le hn (Nat.pow_le_pow_right (n := 2) (by omega : 2 > 0) (by omega)))
  rw [bc_n hb, pN_bits hb]
  congr 2
  exact fb_ct_cong (fun i hi => (bt_n (by omega)).symm)
theorem rb_hi {c : Nat → Int32} {A : Nat → Prop} (h : RB c A) {y : Nat} (hy : y < 16) : ∀ i, 16 ≤ i → i < 32 → bt (c y) i = false := by
  intro i h1 h2
  rw [← Bool.not_eq_true, h y hy i h2]
  omega
theorem rb_row {c : Nat → Int32} {A : Nat → Prop} (h : RB c A) {y : Nat} (hy : y < 16) : fb_ct (fun i => bt (c y) i) 16 = fb_ct (fun i => dB A (16 * y + i)) 16 := by
  refine fb_ct_cong (fun i hi => ?_)
  rw [Bool.eq_iff_iff, dB_t, h y hy i (by omega)]
  exact ⟨fun z => z.2, fun z => ⟨hi, z⟩⟩
theorem c_size {c : Nat → Int32} {A : Nat → Prop} (hA : RB c A) : f_X3_size FU c = some (nI (cnt A)) := by
  have go : ∀ (d y fuel : Nat), y + d = 16 → d < fuel → f_X3_size_L4 FU c (fun (x1_1 : Int32) (x2_2 : Int32) => some x1_1) fuel (nI (fb_ct (dB A) (16 * y))) (nI y) = some (nI (cnt A)) := by
    intro d
    induction d with
    | zero =>
      intro y fuel e1 e2
      obtain ⟨f, rfl⟩ : ∃ f, fuel = f + 1 := ⟨fuel - 1, by omega⟩
      have ey : y = 16 := by omega
      subst ey
      rw [f_X3_size_L4, if_pos (by rw [show (16 : Int32) = nI 16 from rfl]; exact (by rw [n_le (by omega) (by omega)]; omega))]
      rfl
    | succ d ih =>
      intro y fuel e1 e2
      obtain ⟨f, rfl⟩ : ∃ f, fuel = f + 1 := ⟨fuel - 1, by omega⟩
      rw [f_X3_size_L4, if_neg (by rw [show (16 : Int32) = nI 16 from rfl]; exact (by rw [n_le (by omega) (by omega)]; omega)), rd_ok (by omega) (by omega), bc_bits (rb_hi hA (by omega)), bd1_s, rb_row hA (by omega), nI_add, nI_1, ← fb_ct_split]
      exact ih (y + 1) f (by omega) (by omega)
  unfold f_X3_size
  exact go 16 0 FU (by omega) (by unfold FU; omega)
