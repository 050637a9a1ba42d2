/-! sorting -/
theorem cp_ok {β : Type} {f g : Nat → Int32} {n0 n1 n : Nat} {k : (Nat → Int32) → Option β} (h0 : n ≤ n0) (h1 : n ≤ n1) (hn : n < 2147483648) : cpa f g n0 n1 0 0 (nI n) k = k (va_cpy f g 0 0 n) := by
  unfold cpa
  rw [show (0 : Int32) = nI 0 from rfl, nI_clamp (by omega), nI_clamp (by omega), if_neg]
  intro q
  rcases q with q | q | q | q | q
  · exact nI_pos (by omega) q
  · exact nI_pos (by omega) q
  · exact nI_pos (by omega) q
  · omega
  · omega
def BL (κ : Nat → Nat) (N W C : Nat) (o : Nat → Nat) : Prop := ∀ c, c < C → ∀ i, c * W ≤ i → i < c * W + W → i < N → (c * W ≤ o i ∧ o i < c * W + W ∧ o i < N) ∧ ∀ j, i < j → j < c * W + W → j < N → bef κ (o i) (o j)
theorem bl_N {κ o : Nat → Nat} {N W : Nat} (hW : 1 ≤ W) (hC : ∀ C, BL κ N W C o) {i : Nat} (hi : i < N) : o i < N := by
  have h1 : i / W * W ≤ i := Nat.div_mul_le_self i W
  have h2 : i < i / W * W + W := Nat.lt_div_mul_add (by omega)
  exact (hC (i / W + 1) (i / W) (by omega) i h1 h2 hi).1.2.2
theorem so_12 {N W : Nat} {pl κ o : Nat → Nat} {c_order : Nat → Int32} {c_head c_tail : Nat → Int64} {k : _} {P : _} (hN : N ≤ 225) (hW : 1 ≤ W) (hWN : W < N) (hC : ∀ C, BL κ N W C o)
    (hO : ∀ i, i < N → c_order i = nI (pl (o i)))
    (hB : ∀ s t, s < N → t < N → f_X5_isBefore FU c_head c_tail (nI (pl s)) (nI (pl t)) = some (if κ s < κ t then 1 else 0)) :
    ∀ (d c fuel : Nat) (cm : Nat → Int32) (m : Nat → Nat), N ≤ c * (2 * W) + d → d < fuel → c * (2 * W) < 4096 → BL κ N (2 * W) c m → (∀ i, i < c * (2 * W) → i < N → cm i = nI (pl (m i))) →
      (∀ (x : Int32) (cm' : Nat → Int32) (m' : Nat → Nat), (∀ C, BL κ N (2 * W) C m') → (∀ i, i < N → cm' i = nI (pl (m' i))) → Rt (k x cm') P) →
      Rt (f_X5_sort_L12 FU (nI W) c_order c_head c_tail (nI N) k fuel (nI (c * (2 * W))) cm) P := by
  intro d
  induction d with
  | zero =>
    intro c fuel cm m e1 e2 e3 hb hc hk
    obtain ⟨f, rfl⟩ : ∃ f, fuel = f + 1 := ⟨fuel - 1, by omega⟩
    rw [f_X5_sort_L12]
    refine rt_t (by rw [n_le (by omega) (by omega)]; omega) (hk _ _ m ?_ (fun i hi => hc i (by omega) hi))
    intro C c' hc' i h1 h2 h3
    refine hb c' ?_ i h1 h2 h3
    rcases Nat.lt_or_ge c' c with q | q
    · exact q
    · have := Nat.mul_le_mul_right (2 * W) q
      omega
  | succ d ih =>
    intro c fuel cm m e1 e2 e3 hb hc hk
    obtain ⟨f, rfl⟩ : ∃ f, fuel = f + 1 := ⟨fuel - 1, by omega⟩
    rw [f_X5_sort_L12]
    refine rt_if (fun q => ?_) (fun q => ?_)
    · rw [n_le (by omega) (by omega)] at q
      refine hk _ _ m ?_ (fun i hi => hc i (by omega) hi)
      intro C c' hc' i h1 h2 h3
      refine hb c' ?_ i h1 h2 h3
      rcases Nat.lt_or_ge c' c with q | q
      · exact q
      · have := Nat.mul_le_mul_right (2 * W) q
        omega
    · rw [n_le (by omega) (by omega)] at q
      have ec : (c + 1) * (2 * W) = c * (2 * W) + 2 * W := by rw [Nat.add_mul, Nat.one_mul]
      have e4 : (2 * c) * W = c * (2 * W) := by rw [Nat.mul_comm 2 c, Nat.mul_assoc]
      have e5 : (2 * c + 1) * W = c * (2 * W) + W := by rw [Nat.add_mul, e4, Nat.one_mul]
      have hb1 := hC (2 * c + 1) (2 * c) (by omega)
      have hb2 := hC (2 * c + 2) (2 * c + 1) (by omega)
      rw [e4] at hb1
      rw [e5] at hb2
      generalize eA : c * (2 * W) = A at *
      rw [show (2 : Int32) = nI 2 from rfl, pk_mul, nI_add, nI_add]
      rw [show (if nI N < nI (A + W) then nI N else nI (A + W)) = nI (min (A + W) N) from if_min (by omega) (by omega), show (if nI N < nI (A + 2 * W) then nI N else nI (A + 2 * W)) = nI (min (A + 2 * W) N) from if_min (by omega) (by omega)]
      refine rt_bd1 (Z := fun cm' => ∃ mm' : Nat → Nat, (∀ i, i < min (A + 2 * W) N → cm' i = nI (pl (mm' i))) ∧ (∀ i, i < A → mm' i = m i) ∧ (∀ i, A ≤ i → i < min (A + 2 * W) N → ∃ j, A ≤ j ∧ j < min (A + 2 * W) N ∧ mm' i = o j) ∧ (∀ i j, A ≤ i → i < j → j < min (A + 2 * W) N → bef κ (mm' i) (mm' j))) ?_ ?_
      · unfold f_X5_merge
        have hoN : ∀ i, i < N → o i < N := fun i hi => bl_N hW hC hi
        refine rt_eq (congrArg (fun z => f_X5_merge_L9 FU (nI (min (A + W) N)) (nI (min (A + 2 * W) N)) c_order c_head c_tail _ FU (nI A) (nI (min (A + W) N)) (nI z) cm) (show A = A + min (A + W) N - min (A + W) N by omega)) ?_
        refine mg_L9 (N := min (A + 2 * W) N) (from_ := A) (mid := min (A + W) N) (to := min (A + 2 * W) N) (pl := pl) (κ := κ) (o := o) (m0 := m) (by omega) (by omega) (by omega) (by omega) ?_ ?_ ?_ ?_ ?_ (min (A + 2 * W) N - A) A (min (A + W) N) FU cm m (by omega) (by unfold FU; omega) (Nat.le_refl _) (by omega) (Nat.le_refl _) (by omega) ?_ (fun _ _ => rfl) ?_ ?_ ?_ ?_
        · intro i hi; exact hO i (by omega)
        · intro i j hi hj; exact hB _ _ (hoN i (by omega)) (hoN j (by omega))
        · intro i j h1 h2 h3; exact (hb1 i h1 (by omega) (by omega)).2 j h2 (by omega) (by omega)
        · intro i j h1 h2 h3; exact (hb2 i (by omega) (by omega) (by omega)).2 j h2 (by omega) (by omega)
        · intro i j h1 h2 h3 h4
          have y1 := (hb1 i h1 (by omega) (by omega)).1
          have y2 := (hb2 j (by omega) (by omega) (by omega)).1
          omega
        · intro i hi; exact hc i (by omega) (by omega)
        · intro i h1 h2; omega
        · intro i j h1 h2 h3; omega
        · intro i j h1 h2 h3; omega
        · intro x y z c' mm' y1 y2 y3 y4
          exact rt_some ⟨mm', y1, y2, y3, y4⟩
      · intro cm' hz
        obtain ⟨mm, z1, z2, z3, z4⟩ := hz
        have hz := ih (c + 1) f cm' mm
        rw [ec] at hz
        refine hz (by omega) (by omega) (by omega) ?_ ?_ hk
        · intro c' hc' i h1 h2 h3
          rcases Nat.lt_or_ge c' c with q2 | q2
          · have q3 : (c' + 1) * (2 * W) ≤ c * (2 * W) := Nat.mul_le_mul_right (2 * W) q2
            rw [Nat.add_mul, Nat.one_mul, eA] at q3
            obtain ⟨y1, y2⟩ := hb c' q2 i h1 h2 h3
            rw [z2 i (by omega)]
            refine ⟨y1, fun j j1 j2 j3 => ?_⟩
            rw [z2 j (by omega)]
            exact y2 j j1 j2 j3
          · have q3 : c' = c := by omega
            subst q3
            rw [eA] at h1 h2 ⊢
            refine ⟨?_, fun j j1 j2 j3 => z4 i j h1 j1 (by omega)⟩
            obtain ⟨j, j1, j2, j3⟩ := z3 i h1 (by omega)
            rw [j3]
            rcases Nat.lt_or_ge j (A + W) with z | z
            · have := (hb1 j j1 z (by omega)).1
              omega
            · have := (hb2 j z (by omega) (by omega)).1
              omega
        · intro i h1 h2
          exact z1 i (by omega)
theorem so_2 {N : Nat} {pl κ : Nat → Nat} {c_head c_tail : Nat → Int64} {k : _} {P : _} (hN : N ≤ 225)
    (hB : ∀ s t, s < N → t < N → f_X5_isBefore FU c_head c_tail (nI (pl s)) (nI (pl t)) = some (if κ s < κ t then 1 else 0)) :
    ∀ (d W fuel : Nat) (co cm : Nat → Int32) (o : Nat → Nat), N ≤ W + d → d < fuel → W < 1024 → 1 ≤ W → (∀ C, BL κ N W C o) → (∀ i, i < N → co i = nI (pl (o i))) →
      (∀ (x : Int32) (co' cm' : Nat → Int32) (o' : Nat → Nat), (∀ i, i < N → o' i < N) → (∀ i j, i < j → j < N → bef κ (o' i) (o' j)) → (∀ i, i < N → co' i = nI (pl (o' i))) → Rt (k x co' cm') P) →
      Rt (f_X5_sort_L2 FU c_head c_tail (nI N) k fuel (nI W) co cm) P := by
  intro d
  have fin : ∀ (W : Nat) (o : Nat → Nat), N ≤ W → (∀ C, BL κ N W C o) → (∀ i, i < N → o i < N) ∧ (∀ i j, i < j → j < N → bef κ (o i) (o j)) := by
    intro W o h hb
    have h1 := hb 1 0 (by omega)
    rw [Nat.zero_mul] at h1
    exact ⟨fun i hi => (h1 i (by omega) (by omega) hi).1.2.2, fun i j a b => (h1 i (by omega) (by omega) (by omega)).2 j a (by omega) b⟩
  induction d with
  | zero =>
    intro W fuel co cm o e1 e2 e3 e4 hb hc hk
    obtain ⟨f, rfl⟩ : ∃ f, fuel = f + 1 := ⟨fuel - 1, by omega⟩
    rw [f_X5_sort_L2]
    obtain ⟨f1, f2⟩ := fin W o (by omega) hb
    exact rt_t (by rw [n_le (by omega) (by omega)]; omega) (hk _ _ _ o f1 f2 hc)
  | succ d ih =>
    intro W fuel co cm o e1 e2 e3 e4 hb hc hk
    obtain ⟨f, rfl⟩ : ∃ f, fuel = f + 1 := ⟨fuel - 1, by omega⟩
    rw [f_X5_sort_L2]
    refine rt_if (fun q => ?_) (fun q => ?_)
    · rw [n_le (by omega) (by omega)] at q
      obtain ⟨f1, f2⟩ := fin W o q hb
      exact hk _ _ _ o f1 f2 hc
    · rw [n_le (by omega) (by omega)] at q
      have h0 : (0 : Int32) = nI (0 * (2 * W)) := by rw [Nat.zero_mul]; rfl
      refine rt_eq (congrArg (fun z => f_X5_sort_L12 FU (nI W) co c_head c_tail (nI N) _ FU z cm) h0) ?_
      refine so_12 (o := o) (κ := κ) (pl := pl) hN e4 (by omega) hb hc hB N 0 FU cm (fun i => i) (by omega) (by unfold FU; omega) (by omega) ?_ ?_ ?_
      · intro c hc'; omega
      · intro i hi; omega
      · intro x cm' m' hb' hc'
        rw [cp_ok (by omega) (by omega) (by omega), show (2 : Int32) = nI 2 from rfl, pk_mul, Nat.mul_comm W 2]
        refine ih (2 * W) f _ _ m' (by omega) (by omega) (by omega) (by omega) hb' ?_ hk
        intro i hi
        rw [← hc' i hi]
        unfold va_cpy
        simp [hi]
theorem c_sort {N : Nat} {pl κ : Nat → Nat} {co cm : Nat → Int32} {c_head c_tail : Nat → Int64} (hN : N ≤ 225)
    (hB : ∀ s t, s < N → t < N → f_X5_isBefore FU c_head c_tail (nI (pl s)) (nI (pl t)) = some (if κ s < κ t then 1 else 0)) (hc : ∀ i, i < N → co i = nI (pl i)) :
    Rt (f_X5_sort FU co cm c_head c_tail (nI N)) (fun q => ∃ o : Nat → Nat, (∀ i, i < N → o i < N) ∧ (∀ i j, i < j → j < N → bef κ (o i) (o j)) ∧ ∀ i, i < N → q.1 i = nI (pl (o i))) := by
  unfold f_X5_sort
  refine so_2 (κ := κ) (pl := pl) hN hB 225 1 FU co cm (fun i => i) (by omega) (by unfold FU; omega) (by omega) (by omega) ?_ hc ?_
  · intro C c _ i h1 h2 h3
    exact ⟨⟨h1, h2, h3⟩, fun j h4 h5 h6 => by omega⟩
  · intro x co' cm' o' h1 h2 h3
    exact rt_some ⟨o', h1, h2, h3⟩
