/-! the first of a set, in an order -/
def STO (ah : Nat → Nat → Prop) : Prop := (∀ a, ¬ ah a a) ∧ (∀ a b c, ah a b → ah b c → ah a c) ∧ (∀ a b, a ≠ b → ah a b ∨ ah b a)
def Top (cap : Nat) (ah : Nat → Nat → Prop) (C : Nat → Prop) (n K : Nat) (T : Nat → Nat) : Prop :=
  K ≤ cap ∧ (∀ j, j < K → T j < n ∧ C (T j)) ∧ (∀ i j, i < j → j < K → ah (T i) (T j)) ∧ (∀ u, u < n → C u → (∃ j, j < K ∧ T j = u) ∨ (K = cap ∧ ∀ j, j < K → ah (T j) u))
theorem top_one {cap n : Nat} {ah : Nat → Nat → Prop} {C : Nat → Prop} {K K' : Nat} {T T' : Nat → Nat} (hs : STO ah) (h : Top cap ah C n K T) (h' : Top cap ah C n K' T') : K = K' ∧ ∀ j, j < K → T j = T' j := by
  have half : ∀ (K K' : Nat) (T T' : Nat → Nat), Top cap ah C n K T → Top cap ah C n K' T' → ∀ j, j < K → j < K' → (∀ i, i < j → T i = T' i) → ¬ ah (T j) (T' j) := by
    intro K K' T T' h h' j h1 h2 h3 h4
    rcases h'.2.2.2 (T j) (h.2.1 j h1).1 (h.2.1 j h1).2 with ⟨i, hi, e⟩ | ⟨_, e⟩
    · rcases Nat.lt_trichotomy i j with q | q | q
      · have := h.2.2.1 i j q h1
        rw [h3 i q, e] at this
        exact hs.1 _ this
      · subst q; rw [e] at h4; exact hs.1 _ h4
      · have := h'.2.2.1 j i q hi
        rw [e] at this
        exact hs.1 _ (hs.2.1 _ _ _ h4 this)
    · exact hs.1 _ (hs.2.1 _ _ _ h4 (e j h2))
  have eq : ∀ j, j < K → j < K' → T j = T' j := by
    intro j
    induction j using Nat.strongRecOn with
    | _ j ih =>
      intro h1 h2
      by_cases e : T j = T' j
      · exact e
      · rcases hs.2.2 _ _ e with q | q
        · exact absurd q (half K K' T T' h h' j h1 h2 (fun i hi => ih i hi (by omega) (by omega)))
        · exact absurd q (half K' K T' T h' h j h2 h1 (fun i hi => (ih i hi (by omega) (by omega)).symm))
  have le : ∀ (K K' : Nat) (T T' : Nat → Nat), Top cap ah C n K T → Top cap ah C n K' T' → (∀ j, j < K → j < K' → T j = T' j) → ¬ K < K' := by
    intro K K' T T' h h' he hl
    rcases h.2.2.2 (T' K) (h'.2.1 K hl).1 (h'.2.1 K hl).2 with ⟨i, hi, e⟩ | ⟨e, _⟩
    · have := h'.2.2.1 i K hi hl
      rw [← he i hi (by omega), e] at this
      exact hs.1 _ this
    · have := h'.1; omega
  have l1 := le K K' T T' h h' eq
  have l2 := le K' K T' T h' h (fun j a b => (eq j b a).symm)
  have ek : K = K' := by omega
  exact ⟨ek, fun j hj => eq j hj (by omega)⟩
def insT (T : Nat → Nat) (x p : Nat) : Nat → Nat := fun j => if j < p then T j else if j = p then x else T (j - 1)
theorem ins_lt {T : Nat → Nat} {x p j : Nat} (h : j < p) : insT T x p j = T j := if_pos h
theorem ins_eq {T : Nat → Nat} {x p : Nat} : insT T x p p = x := by unfold insT; rw [if_neg (Nat.lt_irrefl _), if_pos rfl]
theorem ins_gt {T : Nat → Nat} {x p j : Nat} (h : p < j) : insT T x p j = T (j - 1) := by unfold insT; rw [if_neg (by omega), if_neg (by omega)]
theorem top_no {cap n : Nat} {ah : Nat → Nat → Prop} {C : Nat → Prop} {K : Nat} {T : Nat → Nat} (h : Top cap ah C n K T) (hc : ¬ C n) : Top cap ah C (n + 1) K T := by
  obtain ⟨h1, h2, h3, h4⟩ := h
  refine ⟨h1, fun j hj => ⟨by have := (h2 j hj).1; omega, (h2 j hj).2⟩, h3, fun u hu c => ?_⟩
  by_cases e : u = n
  · subst e; exact absurd c hc
  · exact h4 u (by omega) c
theorem ins_sorted {ah : Nat → Nat → Prop} {K p x : Nat} {T : Nat → Nat} (h3 : ∀ i j, i < j → j < K → ah (T i) (T j)) (hb : ∀ j, j < p → j < K → ah (T j) x) (ha : ∀ j, p ≤ j → j < K → ah x (T j)) (hp : p ≤ K) : ∀ i j, i < j → j < K + 1 → ah (insT T x p i) (insT T x p j) := by
  intro i j h h2
  rcases Nat.lt_trichotomy i p with q | q | q
  · rw [ins_lt q]
    rcases Nat.lt_trichotomy j p with q2 | q2 | q2
    · rw [ins_lt q2]; exact h3 i j h (by omega)
    · subst q2; rw [ins_eq]; exact hb i q (by omega)
    · rw [ins_gt q2]; exact h3 i (j - 1) (by omega) (by omega)
  · subst q
    rw [ins_eq, ins_gt h]
    exact ha (j - 1) (by omega) (by omega)
  · rw [ins_gt q, ins_gt (by omega : p < j)]
    exact h3 (i - 1) (j - 1) (by omega) (by omega)
theorem top_ins {cap n : Nat} {ah : Nat → Nat → Prop} {C : Nat → Prop} {K p : Nat} {T : Nat → Nat} (hs : STO ah) (h : Top cap ah C n K T) (hc : C n) (hp : p ≤ K) (hb : ∀ j, j < p → j < K → ah (T j) n) (ha : ∀ j, p ≤ j → j < K → ah n (T j)) : Top cap ah C (n + 1) (min (K + 1) cap) (insT T n p) := by
  obtain ⟨h1, h2, h3, h4⟩ := h
  have hsort := ins_sorted h3 hb ha hp
  refine ⟨by omega, ?_, fun i j a b => hsort i j a (by omega), ?_⟩
  · intro j hj
    rcases Nat.lt_trichotomy j p with q | q | q
    · rw [ins_lt q]; have := h2 j (by omega); exact ⟨by omega, this.2⟩
    · subst q; rw [ins_eq]; exact ⟨by omega, hc⟩
    · rw [ins_gt q]; have := h2 (j - 1) (by omega); exact ⟨by omega, this.2⟩
  · have all : ∀ u, (∃ j, j < K + 1 ∧ insT T n p j = u) → (∃ j, j < min (K + 1) cap ∧ insT T n p j = u) ∨ (min (K + 1) cap = cap ∧ ∀ j, j < min (K + 1) cap → ah (insT T n p j) u) := by
      intro u he
      obtain ⟨j, hj, e⟩ := he
      rcases Nat.lt_or_ge j (min (K + 1) cap) with q | q
      · exact Or.inl ⟨j, q, e⟩
      · right
        refine ⟨by omega, fun i hi => ?_⟩
        rw [← e]
        exact hsort i j (by omega) hj
    intro u hu c
    by_cases e : u = n
    · subst e; exact all u ⟨p, by omega, ins_eq⟩
    · rcases h4 u (by omega) c with ⟨j, hj, e2⟩ | ⟨e1, e2⟩
      · refine all u ?_
        rcases Nat.lt_or_ge j p with q | q
        · exact ⟨j, by omega, by rw [ins_lt q]; exact e2⟩
        · exact ⟨j + 1, by omega, by rw [ins_gt (by omega : p < j + 1)]; exact e2⟩
      · right
        refine ⟨by omega, fun i hi => ?_⟩
        rcases Nat.lt_trichotomy i p with q | q | q
        · rw [ins_lt q]; exact e2 i (by omega)
        · subst q
          rw [ins_eq]
          exact hs.2.1 _ _ _ (ha i (Nat.le_refl _) (by omega)) (e2 i (by omega))
        · rw [ins_gt q]; exact e2 (i - 1) (by omega)
/-- choosing the best one behind another -/
theorem top_sel {n : Nat} {ah : Nat → Nat → Prop} {C : Nat → Prop} {K x : Nat} {T : Nat → Nat} (h2 : ∀ j, j < K → T j < n ∧ C (T j)) (h3 : ∀ i j, i < j → j < K → ah (T i) (T j)) (h4 : ∀ u, u < n → C u → (∃ j, j < K ∧ T j = u) ∨ (∀ j, j < K → ah (T j) u))
    (hx : x < n) (cx : C x) (nx : ∀ j, j < K → T j ≠ x) (bx : ∀ u, u < n → C u → (∀ j, j < K → T j ≠ u) → u = x ∨ ah x u) :
    (∀ j, j < K + 1 → put T K x j < n ∧ C (put T K x j)) ∧ (∀ i j, i < j → j < K + 1 → ah (put T K x i) (put T K x j)) ∧ (∀ u, u < n → C u → (∃ j, j < K + 1 ∧ put T K x j = u) ∨ (∀ j, j < K + 1 → ah (put T K x j) u)) := by
  have pl : ∀ j, j < K → put T K x j = T j := fun j hj => by unfold put; rw [if_neg (by omega)]
  have pe : put T K x K = x := by unfold put; rw [if_pos rfl]
  refine ⟨?_, ?_, ?_⟩
  · intro j hj
    by_cases e : j = K
    · subst e; rw [pe]; exact ⟨hx, cx⟩
    · rw [pl j (by omega)]; exact h2 j (by omega)
  · intro i j hi hj
    rw [pl i (by omega)]
    by_cases e : j = K
    · subst e; rw [pe]
      rcases h4 x hx cx with ⟨q, q1, q2⟩ | q
      · exact absurd q2 (nx q q1)
      · exact q i (by omega)
    · rw [pl j (by omega)]; exact h3 i j hi (by omega)
  · intro u hu c
    rcases h4 u hu c with ⟨q, q1, q2⟩ | q
    · exact Or.inl ⟨q, by omega, by rw [pl q q1]; exact q2⟩
    · by_cases e : ∃ j, j < K ∧ T j = u
      · obtain ⟨q, q1, q2⟩ := e
        exact Or.inl ⟨q, by omega, by rw [pl q q1]; exact q2⟩
      · rcases bx u hu c (fun j hj z => e ⟨j, hj, z⟩) with z | z
        · exact Or.inl ⟨K, by omega, by rw [pe]; exact z.symm⟩
        · right
          intro j hj
          by_cases e2 : j = K
          · subst e2; rw [pe]; exact z
          · rw [pl j (by omega)]; exact q j (by omega)
/-- the first of the whole set, all of it in order: how many are ahead -/
theorem ct_img {T : Nat → Nat} {n : Nat} : ∀ (k : Nat) (p : Nat → Bool), (∀ j, j < k → T j < n) → (∀ i j, i < j → j < k → T i ≠ T j) → (∀ u, u < n → (p u = true ↔ ∃ j, j < k ∧ T j = u)) → fb_ct p n = k
  | 0, p, _, _, hp => by
    rw [fb_ct_zero]
    intro u hu
    cases e : p u
    · rfl
    · obtain ⟨j, hj, _⟩ := (hp u hu).mp e
      omega
  | k + 1, p, h1, h2, hp => by
    have ih := ct_img (T := T) (n := n) k (fun u => if u = T k then false else p u) (fun j hj => h1 j (by omega)) (fun i j a b => h2 i j a (by omega)) (fun u hu => by
      by_cases e : u = T k
      · rw [if_pos e]
        constructor
        · intro q; cases q
        · rintro ⟨j, hj, q⟩
          exact absurd (q.trans e) (h2 j k hj (by omega))
      · rw [if_neg e, hp u hu]
        constructor
        · rintro ⟨j, hj, q⟩
          by_cases e2 : j = k
          · subst e2; exact absurd q.symm e
          · exact ⟨j, by omega, q⟩
        · rintro ⟨j, hj, q⟩
          exact ⟨j, by omega, q⟩)
    have hu := fb_ct_upd p false (h1 k (by omega))
    rw [ih, (hp (T k) (h1 k (by omega))).mpr ⟨k, by omega, rfl⟩] at hu
    simp at hu
    exact hu.symm
