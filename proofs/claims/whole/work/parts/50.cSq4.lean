/-! kinds -/
theorem nk_6 {N a b : Nat} {P F : Nat → Nat} {co cro cr0 cf0 ct0 : Nat → Int32} {k : _} {Q : _} (hN : N ≤ 225) (hb : b ≤ N) (hP : ∀ i, i < N → P i < 256) (hI : ∀ i j, i < N → j < N → P i = P j → i = j) (hO : ∀ i, i < N → co i = nI (P i)) (hR : ∀ i, a ≤ i → i < b → cro (P i) = nI (F i)) (hF : ∀ i, i < N → F i ≤ 1) :
    ∀ (d j fuel : Nat) (cr cf ct : Nat → Int32), j + d = b → a ≤ j → d < fuel →
      (∀ i, a ≤ i → i < j → cr (P i) = nI i ∧ cf (P i) = nI a ∧ ct (P i) = nI b) → (∀ i, i < a → cr (P i) = cr0 (P i) ∧ cf (P i) = cf0 (P i) ∧ ct (P i) = ct0 (P i)) →
      (∀ (x : Int32) (cr' cf' ct' : Nat → Int32), (∀ i, a ≤ i → i < b → cr' (P i) = nI i ∧ cf' (P i) = nI a ∧ ct' (P i) = nI b) → (∀ i, i < a → cr' (P i) = cr0 (P i) ∧ cf' (P i) = cf0 (P i) ∧ ct' (P i) = ct0 (P i)) → Rt (k (nI (fb_sm (fun z => 1 - F (a + z)) (b - a))) x cr' cf' ct') Q) →
      Rt (f_X5_noteKind_L6 FU (nI a) (nI b) co cro k fuel (nI (fb_sm (fun z => 1 - F (a + z)) (j - a))) (nI j) cr cf ct) Q := by
  intro d
  induction d with
  | zero =>
    intro j fuel cr cf ct e1 e2 e3 h1 h2 hk
    obtain ⟨f, rfl⟩ : ∃ f, fuel = f + 1 := ⟨fuel - 1, by omega⟩
    have ej : j = b := by omega
    subst ej
    rw [f_X5_noteKind_L6]
    exact rt_t (by rw [n_le (by omega) (by omega)]; omega) (hk _ _ _ _ h1 h2)
  | succ d ih =>
    intro j fuel cr cf ct e1 e2 e3 h1 h2 hk
    obtain ⟨f, rfl⟩ : ∃ f, fuel = f + 1 := ⟨fuel - 1, by omega⟩
    rw [f_X5_noteKind_L6]
    refine rt_f (by rw [n_le (by omega) (by omega)]; omega) ?_
    have hp := hP j (by omega)
    have hf := hF j (by omega)
    rw [rd_ok (by omega) (by omega), hO j (by omega), wr_ok hp (by omega), wr_ok hp (by omega), wr_ok hp (by omega), rd_ok hp (by omega), hR j (by omega) (by omega)]
    have es : fb_sm (fun z => 1 - F (a + z)) (j + 1 - a) = fb_sm (fun z => 1 - F (a + z)) (j - a) + (1 - F j) := by
      rw [show j + 1 - a = (j - a) + 1 by omega, fb_sm_succ, show a + (j - a) = j by omega]
    refine rt_jn ?_
    have key : Rt (f_X5_noteKind_L6 FU (nI a) (nI b) co cro k f (nI (fb_sm (fun z => 1 - F (a + z)) (j + 1 - a))) (nI (j + 1)) (upd cr (P j) (nI j)) (upd cf (P j) (nI a)) (upd ct (P j) (nI b))) Q := by
      refine ih (j + 1) f _ _ _ (by omega) (by omega) (by omega) ?_ ?_ hk
      · intro i q1 q2
        by_cases e : i = j
        · subst e; simp [upd]
        · have ne : P i ≠ P j := fun z => e (hI i j (by omega) (by omega) z)
          simp only [upd, ne, if_false]
          exact h1 i q1 (by omega)
      · intro i q1
        have ne : P i ≠ P j := fun z => by have := hI i j (by omega) (by omega) z; omega
        simp only [upd, ne, if_false]
        exact h2 i q1
    rw [es] at key
    rw [nI_1]
    refine rt_if (fun c => ?_) (fun c => ?_)
    · rw [show (1 : Int32) = nI 1 from rfl, n_inj (by omega) (by omega)] at c
      rw [c, ← nI_add] at key
      exact key
    · rw [show (1 : Int32) = nI 1 from rfl, n_inj (by omega) (by omega)] at c
      rw [show 1 - F j = 1 by omega, ← nI_add] at key
      exact key
theorem nk_83 {N a b : Nat} {P F : Nat → Nat} {co r0 : Nat → Int32} {k : _} {Q : _} (hN : N ≤ 225) (hb : b ≤ N) (hP : ∀ i, i < N → P i < 256) (hI : ∀ i j, i < N → j < N → P i = P j → i = j) (hO : ∀ i, i < N → co i = nI (P i)) (hR : ∀ i, a ≤ i → i < b → r0 (P i) = nI (F i)) (hF : ∀ i, i < N → F i ≤ 1) :
    ∀ (d j fuel : Nat) (cr : Nat → Int32), j + d = b → a ≤ j → d < fuel →
      (∀ i, a ≤ i → i < j → cr (P i) = nI (if F i = 1 then 1 else 2)) → (∀ i, i < N → (i < a ∨ j ≤ i) → cr (P i) = r0 (P i)) →
      (∀ (x : Int32) (cr' : Nat → Int32), (∀ i, a ≤ i → i < b → cr' (P i) = nI (if F i = 1 then 1 else 2)) → (∀ i, i < N → (i < a ∨ b ≤ i) → cr' (P i) = r0 (P i)) → Rt (k x cr') Q) →
      Rt (f_X5_noteKind_L83 FU (nI b) co k fuel (nI j) cr) Q := by
  intro d
  induction d with
  | zero =>
    intro j fuel cr e1 e2 e3 h1 h2 hk
    obtain ⟨f, rfl⟩ : ∃ f, fuel = f + 1 := ⟨fuel - 1, by omega⟩
    have ej : j = b := by omega
    subst ej
    rw [f_X5_noteKind_L83]
    exact rt_t (by rw [n_le (by omega) (by omega)]; omega) (hk _ _ h1 h2)
  | succ d ih =>
    intro j fuel cr e1 e2 e3 h1 h2 hk
    obtain ⟨f, rfl⟩ : ∃ f, fuel = f + 1 := ⟨fuel - 1, by omega⟩
    rw [f_X5_noteKind_L83]
    refine rt_f (by rw [n_le (by omega) (by omega)]; omega) ?_
    have hp := hP j (by omega)
    have hf := hF j (by omega)
    rw [rd_ok (by omega) (by omega), hO j (by omega), rd_ok hp (by omega), h2 j (by omega) (by omega), hR j (by omega) (by omega), nI_1]
    refine rt_if (fun c => ?_) (fun c => ?_)
    · rw [show (1 : Int32) = nI 1 from rfl, n_inj (by omega) (by omega)] at c
      refine ih (j + 1) f _ (by omega) (by omega) (by omega) ?_ ?_ hk
      · intro i q1 q2
        by_cases e : i = j
        · subst e; rw [h2 i (by omega) (by omega), hR i (by omega) (by omega), if_pos c, c]
        · exact h1 i q1 (by omega)
      · intro i q1 q2; exact h2 i q1 (by omega)
    · rw [show (1 : Int32) = nI 1 from rfl, n_inj (by omega) (by omega)] at c
      rw [rd_ok (by omega) (by omega), hO j (by omega), wr_ok hp (by omega)]
      refine ih (j + 1) f _ (by omega) (by omega) (by omega) ?_ ?_ hk
      · intro i q1 q2
        by_cases e : i = j
        · subst e; simp [upd, c]; rfl
        · have ne : P i ≠ P j := fun z => e (hI i j (by omega) (by omega) z)
          simp only [upd, ne, if_false]
          exact h1 i q1 (by omega)
      · intro i q1 q2
        have ne : P i ≠ P j := fun z => by have := hI i j (by omega) (by omega) z; omega
        simp only [upd, ne, if_false]
        exact h2 i q1 (by omega)
theorem c_noteKind {N a b cw : Nat} {P F : Nat → Nat} {co r0 cr0 cf0 ct0 : Nat → Int32} {cc : Int32} (hN : N ≤ 225) (hab : a ≤ b) (hb : b ≤ N) (hw : cw ≤ 20) (hP : ∀ i, i < N → P i < 256) (hI : ∀ i j, i < N → j < N → P i = P j → i = j) (hO : ∀ i, i < N → co i = nI (P i)) (hR : ∀ i, a ≤ i → i < b → r0 (P i) = nI (F i)) (hF : ∀ i, i < N → F i ≤ 1) :
    Rt (f_X5_noteKind FU co r0 cr0 cf0 ct0 cc (nI a) (nI b) (nI cw)) (fun q =>
      (∀ i, a ≤ i → i < b → q.1 (P i) = nI (if F i = 1 then 1 else if cw < fb_sm (fun z => 1 - F (a + z)) (b - a) then 2 else 0) ∧ q.2.1 (P i) = nI i ∧ q.2.2.1 (P i) = nI a ∧ q.2.2.2.1 (P i) = nI b) ∧
      (∀ i, i < a → q.2.1 (P i) = cr0 (P i) ∧ q.2.2.1 (P i) = cf0 (P i) ∧ q.2.2.2.1 (P i) = ct0 (P i)) ∧
      (∀ i, i < N → (i < a ∨ b ≤ i) → q.1 (P i) = r0 (P i)) ∧
      q.2.2.2.2 = cc + nI (if cw < fb_sm (fun z => 1 - F (a + z)) (b - a) then fb_sm (fun z => 1 - F (a + z)) (b - a) else 0)) := by
  unfold f_X5_noteKind
  have e0 : (0 : Int32) = nI (fb_sm (fun z => 1 - F (a + z)) (a - a)) := by rw [Nat.sub_self]; rfl
  refine rt_eq (congrArg (fun z => f_X5_noteKind_L6 FU (nI a) (nI b) co r0 _ FU z (nI a) cr0 cf0 ct0) e0) ?_
  have hsm : fb_sm (fun z => 1 - F (a + z)) (b - a) ≤ (b - a) * 1 := fb_sm_bound (fun _ _ => by omega)
  refine nk_6 (cr0 := cr0) (cf0 := cf0) (ct0 := ct0) hN hb hP hI hO hR hF (b - a) a FU cr0 cf0 ct0 (by omega) (Nat.le_refl _) (by unfold FU; omega) (fun i h1 h2 => by omega) (fun i _ => ⟨rfl, rfl, rfl⟩) ?_
  intro x cr' cf' ct' h1 h2
  generalize fb_sm (fun z => 1 - F (a + z)) (b - a) = S at *
  refine rt_if (fun c => ?_) (fun c => ?_)
  · rw [n_lt (by omega) (by omega)] at c
    refine nk_83 (r0 := r0) hN hb hP hI hO hR hF (b - a) a FU r0 (by omega) (Nat.le_refl _) (by unfold FU; omega) (fun i h1 h2 => by omega) (fun i _ _ => rfl) ?_
    intro x2 cr2 h3 h4
    refine rt_some ⟨fun i q1 q2 => ⟨?_, h1 i q1 q2⟩, h2, h4, ?_⟩
    · dsimp only
      rw [h3 i q1 q2, if_pos c]
    · rw [if_pos c]
  · rw [n_lt (by omega) (by omega)] at c
    refine rt_some ⟨fun i q1 q2 => ⟨?_, h1 i q1 q2⟩, h2, fun i _ _ => rfl, ?_⟩
    · dsimp only
      rw [if_neg c, hR i q1 q2]
      have := hF i (by omega)
      by_cases e : F i = 1
      · rw [if_pos e, e]
      · rw [if_neg e, show F i = 0 by omega]
    · rw [if_neg c]; exact (Int32.add_zero _).symm
/-- a sum of which only the terms from a to b are not 0 -/
theorem sm_mid {f : Nat → Nat} {N a b : Nat} (hab : a ≤ b) (hb : b ≤ N) (h : ∀ i, i < N → (i < a ∨ b ≤ i) → f i = 0) : fb_sm f N = fb_sm (fun z => f (a + z)) (b - a) := by
  have z : ∀ (n : Nat) (g : Nat → Nat), (∀ i, i < n → g i = 0) → fb_sm g n = 0 := by
    intro n g hg
    rw [fb_sm_cong (g := fun _ => 0) hg, fb_sm_const]
    omega
  have e1 := fb_sm_split f b (N - b)
  have e2 := fb_sm_split f a (b - a)
  rw [show b + (N - b) = N by omega] at e1
  rw [show a + (b - a) = b by omega] at e2
  have z1 := z a f (fun i hi => h i (by omega) (by omega))
  have z2 := z (N - b) (fun k => f (b + k)) (fun i hi => h (b + i) (by omega) (by omega))
  omega
/-- how many of those with the key of i are not flat -/
def nlP (N : Nat) (κ F : Nat → Nat) (i : Nat) : Nat := fb_sm (fun j => if κ j = κ i then 1 - F j else 0) N
def roP (N cw : Nat) (κ F : Nat → Nat) (i : Nat) : Nat := if F i = 1 then 1 else if cw < nlP N κ F i then 2 else 0
def c2P (N cw : Nat) (κ F : Nat → Nat) (i : Nat) : Nat := if roP N cw κ F i = 2 then 1 else 0
def fsP (κ : Nat → Nat) (i : Nat) : Nat := if ∀ j, j < i → κ j ≠ κ i then 1 else 0
/-- those with the key of i are from a to b -/
def KD (N : Nat) (κ : Nat → Nat) (i a b : Nat) : Prop := a ≤ i ∧ i < b ∧ b ≤ N ∧ ∀ j, j < N → (κ j = κ i ↔ a ≤ j ∧ j < b)
def SK (N cw a : Nat) (P κ F : Nat → Nat) (cro cr cf ct : Nat → Int32) (cc ck : Int32) : Prop :=
  (∀ i, i < a → ∃ a' b', KD N κ i a' b' ∧ cro (P i) = nI (roP N cw κ F i) ∧ cr (P i) = nI i ∧ cf (P i) = nI a' ∧ ct (P i) = nI b') ∧
  (∀ i, a ≤ i → i < N → cro (P i) = nI (F i)) ∧ (∀ i j, i < a → a ≤ j → j < N → κ i ≠ κ j) ∧
  cc = nI (fb_sm (c2P N cw κ F) a) ∧ ck = nI (fb_sm (fsP κ) a)
theorem sk_step {N cw a b : Nat} {P κ F : Nat → Nat} {co cro cr cf ct : Nat → Int32} {cc ck : Int32} (hN : N ≤ 225) (hab : a < b) (hb : b ≤ N) (hw : cw ≤ 20) (hP : ∀ i, i < N → P i < 256) (hI : ∀ i j, i < N → j < N → P i = P j → i = j) (hO : ∀ i, i < N → co i = nI (P i)) (hF : ∀ i, i < N → F i ≤ 1)
    (hS : SK N cw a P κ F cro cr cf ct cc ck) (hE : ∀ i, a ≤ i → i < b → κ i = κ a) (hX : ∀ i j, i < b → b ≤ j → j < N → κ i ≠ κ j) :
    Rt (f_X5_noteKind FU co cro cr cf ct cc (nI a) (nI b) (nI cw)) (fun q => SK N cw b P κ F q.1 q.2.1 q.2.2.1 q.2.2.2.1 q.2.2.2.2 (ck + 1)) := by
  obtain ⟨s1, s2, s3, s4, s5⟩ := hS
  refine rt_mono (c_noteKind hN (by omega) hb hw hP hI hO (fun i h1 h2 => s2 i h1 (by omega)) hF) ?_
  intro q hq
  obtain ⟨q1, q2, q3, q4⟩ := hq
  have kd : ∀ i, a ≤ i → i < b → KD N κ i a b := by
    intro i h1 h2
    refine ⟨h1, h2, hb, fun j hj => ⟨fun e => ?_, fun e => ?_⟩⟩
    · rcases Nat.lt_or_ge j a with z | z
      · exact absurd e (s3 j i z h1 (by omega))
      · rcases Nat.lt_or_ge j b with z2 | z2
        · exact ⟨z, z2⟩
        · exact absurd e.symm (hX i j h2 z2 hj)
    · rw [hE i h1 h2, hE j e.1 e.2]
  have nl : ∀ i, a ≤ i → i < b → nlP N κ F i = fb_sm (fun z => 1 - F (a + z)) (b - a) := by
    intro i h1 h2
    have hk := (kd i h1 h2).2.2.2
    unfold nlP
    rw [sm_mid (a := a) (b := b) (by omega) hb]
    · refine fb_sm_cong (fun z hz => ?_)
      rw [if_pos ((hk (a + z) (by omega)).mpr ⟨(by omega), (by omega)⟩)]
    · intro j h3 h4
      rw [if_neg (fun e => by have := (hk j h3).mp e; omega)]
  have hsm : fb_sm (fun z => 1 - F (a + z)) (b - a) ≤ (b - a) * 1 := fb_sm_bound (fun _ _ => by omega)
  refine ⟨?_, ?_, ?_, ?_, ?_⟩
  · intro i hi
    rcases Nat.lt_or_ge i a with z | z
    · obtain ⟨a', b', k1, k2, k3, k4, k5⟩ := s1 i z
      obtain ⟨r1, r2, r3⟩ := q2 i z
      exact ⟨a', b', k1, by rw [q3 i (by omega) (Or.inl z)]; exact k2, r1.trans k3, r2.trans k4, r3.trans k5⟩
    · obtain ⟨r0, r1, r2, r3⟩ := q1 i z hi
      refine ⟨a, b, kd i z hi, ?_, r1, r2, r3⟩
      rw [r0]
      unfold roP
      rw [nl i z hi]
  · intro i h1 h2
    rw [q3 i h2 (Or.inr h1)]
    exact s2 i (by omega) h2
  · exact hX
  · rw [q4, s4, nI_add]
    congr 1
    have e2 := fb_sm_split (c2P N cw κ F) a (b - a)
    rw [show a + (b - a) = b by omega] at e2
    rw [e2]
    congr 1
    by_cases c : cw < fb_sm (fun z => 1 - F (a + z)) (b - a)
    · rw [if_pos c]
      refine fb_sm_cong (fun z hz => ?_)
      have := hF (a + z) (by omega)
      have en := nl (a + z) (by omega) (by omega)
      unfold c2P roP
      rw [en]
      by_cases e : F (a + z) = 1
      · rw [if_pos e, e]; rfl
      · rw [if_neg e, if_pos c, show F (a + z) = 0 by omega]; rfl
    · rw [if_neg c]
      symm
      rw [fb_sm_cong (g := fun _ => 0), fb_sm_const]
      · omega
      · intro z hz
        have en := nl (a + z) (by omega) (by omega)
        unfold c2P roP
        rw [en]
        by_cases e : F (a + z) = 1
        · rw [if_pos e]; rfl
        · rw [if_neg e, if_neg c]; rfl
  · rw [s5, nI_1]
    congr 1
    have e2 := fb_sm_split (fsP κ) a (b - a)
    rw [show a + (b - a) = b by omega] at e2
    rw [e2]
    congr 1
    have e3 : fb_sm (fun k => fsP κ (a + k)) (b - a) = fb_sm (fun k => if k = 0 then 1 else (fun _ => 0) k) (b - a) := by
      refine fb_sm_cong (fun z hz => ?_)
      unfold fsP
      by_cases e : z = 0
      · subst e
        rw [if_pos, if_pos rfl]
        intro j hj
        exact s3 j (a + 0) (by omega) (by omega) (by omega)
      · rw [if_neg, if_neg e]
        intro h
        exact h a (by omega) (hE (a + z) (by omega) (by omega)).symm
    have e4 : fb_sm (fun k => if k = 0 then 1 else (fun _ => 0) k) (b - a) + 0 = fb_sm (fun _ => 0) (b - a) + 1 := fb_sm_upd (fun _ => 0) 1 (i := 0) (n := b - a) (by omega)
    have e5 := fb_sm_const 0 (b - a)
    rw [e3]
    omega
theorem sk_14 {N cw : Nat} {P κ F : Nat → Nat} {co : Nat → Int32} {ch ctl : Nat → Int64} {k : _} {Q : _} (hN : N ≤ 225) (hw : cw ≤ 20) (hP : ∀ i, i < N → P i < 256) (hI : ∀ i j, i < N → j < N → P i = P j → i = j) (hO : ∀ i, i < N → co i = nI (P i)) (hF : ∀ i, i < N → F i ≤ 1)
    (hA : ∀ i j, i < N → j < N → f_X5_areAlike FU ch ctl (nI (P i)) (nI (P j)) = some (if κ i = κ j then 1 else 0)) (hM : ∀ i j, i < j → j < N → κ i ≤ κ j) :
    ∀ (d t a fuel : Nat) (cro cr cf ct : Nat → Int32) (cc ck : Int32), t + d = N + 1 → a < t → d < fuel → (t = N + 1 → a = N) → (∀ i, a ≤ i → i < t → i < N → κ i = κ a) → SK N cw a P κ F cro cr cf ct cc ck →
      (∀ (x y : Int32) (cro cr cf ct : Nat → Int32) (cc ck : Int32), SK N cw N P κ F cro cr cf ct cc ck → Rt (k x y cro cr cf ct cc ck) Q) →
      Rt (f_X5_splitKinds_L14 FU (nI cw) co ch ctl (nI N) k fuel (nI a) (nI t) cro cr cf ct cc ck) Q := by
  intro d
  induction d with
  | zero =>
    intro t a fuel cro cr cf ct cc ck e1 e2 e3 e4 hE hS hk
    obtain ⟨f, rfl⟩ : ∃ f, fuel = f + 1 := ⟨fuel - 1, by omega⟩
    rw [f_X5_splitKinds_L14]
    rw [e4 (by omega)] at hS
    exact rt_t (by rw [n_lt (by omega) (by omega)]; omega) (hk _ _ _ _ _ _ _ _ hS)
  | succ d ih =>
    intro t a fuel cro cr cf ct cc ck e1 e2 e3 e4 hE hS hk
    obtain ⟨f, rfl⟩ : ∃ f, fuel = f + 1 := ⟨fuel - 1, by omega⟩
    rw [f_X5_splitKinds_L14]
    refine rt_f (by rw [n_lt (by omega) (by omega)]; omega) ?_
    have close : (∀ i j, i < t → t ≤ j → j < N → κ i ≠ κ j) → Rt (bd5 (f_X5_noteKind FU co cro cr cf ct cc (nI a) (nI t) (nI cw)) (fun c_role_15 c_rank_16 c_kindFrom_17 c_kindTo_18 c_crowded_19 => f_X5_splitKinds_L14 FU (nI cw) co ch ctl (nI N) k f (nI t) (nI t + 1) c_role_15 c_rank_16 c_kindFrom_17 c_kindTo_18 c_crowded_19 (ck + 1))) Q := by
      intro hX
      refine rt_bd5 (sk_step hN e2 (by omega) hw hP hI hO hF hS (fun i h1 h2 => hE i h1 h2 (by omega)) hX) ?_
      intro a1 a2 a3 a4 a5 hz
      rw [nI_1]
      refine ih (t + 1) t f a1 a2 a3 a4 a5 (ck + 1) (by omega) (by omega) (by omega) (by omega) ?_ hz hk
      intro i h1 h2 h3
      rw [show i = t by omega]
    refine rt_jn ?_
    refine rt_if (fun c => ?_) (fun c => ?_)
    · rw [n_inj (by omega) (by omega)] at c
      exact close (fun i j h1 h2 h3 => by omega)
    · rw [n_inj (by omega) (by omega)] at c
      rw [rd_ok (by omega) (by omega), rd_ok (by omega) (by omega), hO a (by omega), hO t (by omega), hA a t (by omega) (by omega), bd1_s]
      by_cases e : κ a = κ t
      · rw [if_pos e]
        refine rt_f (by decide) ?_
        rw [nI_1]
        refine ih (t + 1) a f _ _ _ _ _ _ (by omega) (by omega) (by omega) (by omega) ?_ hS hk
        intro i h1 h2 h3
        by_cases e2 : i = t
        · rw [e2]; exact e.symm
        · exact hE i h1 (by omega) h3
      · rw [if_neg e]
        refine rt_t rfl (close ?_)
        intro i j h1 h2 h3 q
        have m1 := hM a t e2 (by omega)
        rcases Nat.lt_or_ge i a with z | z
        · exact hS.2.2.1 i j z (by omega) h3 q
        · have q1 := hE i z h1 (by omega)
          have m2 : κ t ≤ κ j := by
            rcases Nat.lt_or_ge t j with z2 | z2
            · exact hM t j z2 h3
            · rw [show t = j by omega]; exact Nat.le_refl _
          omega
theorem c_splitKinds {N cw : Nat} {P κ F : Nat → Nat} {co cro cr cf ct : Nat → Int32} {ch ctl : Nat → Int64} {cc ck : Int32} (hN : N ≤ 225) (hw : cw ≤ 20) (hP : ∀ i, i < N → P i < 256) (hI : ∀ i j, i < N → j < N → P i = P j → i = j) (hO : ∀ i, i < N → co i = nI (P i)) (hF : ∀ i, i < N → F i ≤ 1)
    (hA : ∀ i j, i < N → j < N → f_X5_areAlike FU ch ctl (nI (P i)) (nI (P j)) = some (if κ i = κ j then 1 else 0)) (hM : ∀ i j, i < j → j < N → κ i ≤ κ j) (hR : ∀ i, i < N → cro (P i) = nI (F i)) :
    Rt (f_X5_splitKinds FU co cro ch ctl cr cf ct (nI N) cc ck (nI cw)) (fun q => SK N cw N P κ F q.1 q.2.1 q.2.2.1 q.2.2.2.1 q.2.2.2.2.1 q.2.2.2.2.2) := by
  unfold f_X5_splitKinds
  refine sk_14 (P := P) (κ := κ) (F := F) hN hw hP hI hO hF hA hM N 1 0 FU cro cr cf ct 0 0 (by omega) (by omega) (by unfold FU; omega) (by omega) ?_ ⟨fun i h => by omega, fun i _ h => hR i h, fun i j h => by omega, rfl, rfl⟩ ?_
  · intro i h1 h2 h3
    rw [show i = 0 by omega]
  · intro x y cro cr cf ct cc ck hS
    exact rt_some hS
/-! sums do not know the order -/
theorem sm_list (f : Nat → Nat) : ∀ n, fb_sm f n = ((List.range n).map f).sum
  | 0 => rfl
  | n + 1 => by rw [fb_sm_succ, sm_list f n, List.range_succ, List.map_append, List.sum_append]; simp
theorem sm_perm {o : Nat → Nat} {N : Nat} (f : Nat → Nat) (h : ∀ i, i < N → o i < N) (h2 : ∀ i j, i < j → j < N → o i ≠ o j) : fb_sm (fun i => f (o i)) N = fb_sm f N := by
  rw [sm_list, sm_list]
  have hp : List.Perm ((List.range N).map o) (List.range N) := by
    rw [List.perm_ext_iff_of_nodup]
    · intro y
      rw [List.mem_map, List.mem_range]
      constructor
      · rintro ⟨i, hi, rfl⟩
        exact h i (List.mem_range.mp hi)
      · intro hy
        obtain ⟨i, hi, e⟩ := fb_onto h h2 hy
        exact ⟨i, List.mem_range.mpr hi, e⟩
    · rw [List.nodup_iff_pairwise_ne, List.pairwise_map, List.pairwise_iff_getElem]
      intro i j hi hj hij
      simp only [List.getElem_range]
      simp only [List.length_range] at hi hj
      exact h2 i j hij hj
    · exact List.nodup_range
  have := (hp.map f).sum_nat
  rw [List.map_map] at this
  exact this
