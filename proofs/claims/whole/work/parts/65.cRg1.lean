/-! the class: a region is taken out of what is left -/
theorem rb_0 {c : Nat → Int32} (h : ∀ y, y < 16 → c y = 0) : RB c (fun _ => False) := by
  intro y hy i hi
  rw [h y hy, b_0]
  exact ⟨fun z => absurd z (by decide), fun z => absurd z.2 (fun y => y)⟩
theorem rb_set {c : Nat → Int32} {A : Nat → Prop} {p : Nat} {v : Int32} (hA : RB c A) (hp : p < 256) (hv : v = c (p / 16) ||| (1 <<< (nI (p % 16) &&& 31))) : RB (upd c (p / 16) v) (fun q => A q ∨ q = p) := by
  intro y hy i hi
  by_cases e : y = p / 16
  · subst e
    simp only [upd, if_true]
    rw [hv, b_or, Bool.or_eq_true, hA (p / 16) hy i hi, b_one (by omega) hi, decide_eq_true_eq]
    constructor
    · rintro (⟨h1, h2⟩ | h1)
      · exact ⟨h1, Or.inl h2⟩
      · exact ⟨by omega, Or.inr (by omega)⟩
    · rintro ⟨h1, h2 | h2⟩
      · exact Or.inl ⟨h1, h2⟩
      · exact Or.inr (by omega)
  · simp only [upd, e, if_false]
    rw [hA y hy i hi]
    constructor
    · rintro ⟨h1, h2⟩; exact ⟨h1, Or.inl h2⟩
    · rintro ⟨h1, h2 | h2⟩
      · exact ⟨h1, h2⟩
      · omega
theorem va_up_e {β : Type} {f : Nat → β} {i : Nat} {v : β} : va_up f i v i = v := by simp [va_up]
theorem va_up_n {β : Type} {f : Nat → β} {i j : Nat} {v : β} (h : j ≠ i) : va_up f i v j = f j := by simp [va_up, h]
theorem c_be71 {ob k : Nat} {cr : Nat → Nat → Int32} {S A : Nat → Prop} {kk : _} {P : _} (hA : RB (cr ob) A) :
    ∀ (d y fuel : Nat) (cl : Nat → Nat → Int32), y + d = 16 → d < fuel → (∀ y2, y2 < 16 → ∀ i, i < 32 → (bt (cl k y2) i = true ↔ i < 16 ∧ S (16 * y2 + i) ∧ (y2 < y → ¬ A (16 * y2 + i)))) →
      (∀ (z : Int32) (cl' : Nat → Nat → Int32), RB (cl' k) (fun q => S q ∧ ¬ A q) → (∀ k', k' ≠ k → cl' k' = cl k') → Rt (kk z cl') P) →
      Rt (f_X0_begin_L71 FU cr ob k kk fuel (nI y) cl) P := by
  intro d
  induction d with
  | zero =>
    intro y fuel cl e1 e2 hc hk
    obtain ⟨f, rfl⟩ : ∃ f, fuel = f + 1 := ⟨fuel - 1, by omega⟩
    rw [f_X0_begin_L71]
    refine rt_t (by rw [show (16 : Int32) = nI 16 from rfl]; exact (by rw [n_le (by omega) (by omega)]; omega)) (hk _ cl (fun y2 hy2 i hi => ?_) (fun _ _ => rfl))
    rw [hc y2 hy2 i hi]
    exact ⟨fun z => ⟨z.1, z.2.1, z.2.2 (by omega)⟩, fun z => ⟨z.1, z.2.1, fun _ => z.2.2⟩⟩
  | succ d ih =>
    intro y fuel cl e1 e2 hc hk
    obtain ⟨f, rfl⟩ : ∃ f, fuel = f + 1 := ⟨fuel - 1, by omega⟩
    have hy : y < 16 := by omega
    rw [f_X0_begin_L71]
    refine rt_f (by rw [show (16 : Int32) = nI 16 from rfl]; exact (by rw [n_le (by omega) (by omega)]; omega)) ?_
    rw [rd_ok (by omega) (by omega), rd_ok (by omega) (by omega), wr_ok (by omega) (by omega), nI_1]
    refine ih (y + 1) f _ (by omega) (by omega) ?_ ?_
    · intro y2 hy2 i hi
      rw [va_up_e]
      by_cases e : y2 = y
      · subst e
        simp only [upd, if_true]
        rw [b_and, Bool.and_eq_true, hc y2 hy2 i hi, b_not _ hi, Bool.not_eq_true', ← Bool.not_eq_true, hA y2 hy2 i hi]
        constructor
        · rintro ⟨⟨h1, h2, h3⟩, h4⟩; exact ⟨h1, h2, fun _ z => h4 ⟨h1, z⟩⟩
        · rintro ⟨h1, h2, h3⟩; exact ⟨⟨h1, h2, fun z => by omega⟩, fun z => h3 (by omega) z.2⟩
      · simp only [upd, e, if_false]
        rw [hc y2 hy2 i hi]
        constructor
        · rintro ⟨h1, h2, h3⟩; exact ⟨h1, h2, fun z => h3 (by omega)⟩
        · rintro ⟨h1, h2, h3⟩; exact ⟨h1, h2, fun z => h3 (by omega)⟩
    · intro z cl' h1 h2
      exact hk z cl' h1 (fun k' hk' => (h2 k' hk').trans (va_up_n hk'))
theorem c_begin {k p ob v : Nat} {cl cr : Nat → Nat → Int32} {fs fx fy fp fn : Nat → Int32} {S : Nat → Prop} (hp : p < 256) (hv : v < 496) (hS : RB (cl k) S) :
    Rt (f_X0_begin FU cl cr fs fx fy fp fn ob k (nI k) (nI v) (nI p)) (fun q =>
      RB (q.1 k) (fun x => S x ∧ ¬ Cl S (fun x => x = p) x) ∧ (∀ k', k' ≠ k → q.1 k' = cl k') ∧
      RB (q.2.1 ob) (Cl S (fun x => x = p)) ∧ (∀ o, o ≠ ob → q.2.1 o = cr o) ∧
      q.2.2.1 = upd fs ob (nI k) ∧ q.2.2.2.1 = upd fx ob (nI (v % 31) - 15) ∧ q.2.2.2.2.1 = upd fy ob (nI (v / 31)) ∧ q.2.2.2.2.2.1 = upd fp ob (nI p) ∧ q.2.2.2.2.2.2 = upd fn ob (nI (cnt (Cl S (fun x => x = p))))) := by
  unfold f_X0_begin f_X7_acrossOf f_X7_downOf
  rw [bd1_s, bd1_s, md31 (by omega), dv31 (by omega)]
  refine rt_bd1 c_clear ?_
  intro g3 hg3
  rw [va_up_e, md16 (by omega), dv16 (by omega), wr_ok (by omega) (by omega)]
  have h4 : RB (upd g3 (p / 16) (1 <<< (nI (p % 16) &&& 31))) (fun x => x = p) := by
    refine rb_cong (rb_set (rb_0 hg3) hp (v := 1 <<< (nI (p % 16) &&& 31)) ?_) (fun q _ => ⟨fun z => z.resolve_left (fun y => y), fun z => Or.inr z⟩)
    rw [hg3 _ (by omega)]
    apply b_ext
    intro i hi
    rw [b_or, b_0]; simp
  refine rt_bd1 (Z := fun c' => RB c' (Cl S (fun x => x = p))) ?_ ?_
  · rw [va_up_e]
    exact c_spread h4 hS
  · intro g5 hg5
    have hsz : f_X3_size FU ((va_up (va_up (va_up cr ob g3) ob (upd g3 (p / 16) (1 <<< (nI (p % 16) &&& 31)))) ob g5) ob) = some (nI (cnt (Cl S (fun x => x = p)))) := by
      rw [va_up_e]; exact c_size hg5
    rw [hsz, bd1_s]
    refine c_be71 (S := S) (A := Cl S (fun x => x = p)) (by rw [va_up_e]; exact hg5) 16 0 FU cl (by omega) (by unfold FU; omega) (fun y2 hy2 i hi => ?_) ?_
    · rw [hS y2 hy2 i hi]
      exact ⟨fun z => ⟨z.1, z.2, fun y => by omega⟩, fun z => ⟨z.1, z.2.1⟩⟩
    · intro z cl' h1 h2
      refine rt_some ⟨h1, h2, ?_, ?_, rfl, rfl, rfl, rfl, rfl⟩
      · show RB (va_up _ ob g5 ob) _
        rw [va_up_e]; exact hg5
      · intro o ho
        show va_up _ ob g5 o = _
        rw [va_up_n ho, va_up_n ho, va_up_n ho]
/-! a list of objects, in order -/
def LPm (l : Nat → Nat) : Prop := (∀ i, i < 25 → l i < 25) ∧ (∀ i j, i < j → j < 25 → l i ≠ l j)
theorem LPm.inj {l : Nat → Nat} (h : LPm l) {i j : Nat} (hi : i < 25) (hj : j < 25) (e : l i = l j) : i = j := by
  rcases Nat.lt_trichotomy i j with q | q | q
  · exact absurd e (h.2 i j q hj)
  · exact q
  · exact absurd e.symm (h.2 j i q hi)
def rho (K p i : Nat) : Nat := if K < i then i else if i < p then i else if i = p then K else i - 1
theorem ins_rho {l l' : Nat → Nat} {K p : Nat} (hp : p ≤ K) (h1 : ∀ i, i ≤ K → l' i = insT l (l K) p i) (h2 : ∀ i, K < i → i < 25 → l' i = l i) {i : Nat} (hi : i < 25) : l' i = l (rho K p i) := by
  unfold rho
  by_cases e : K < i
  · rw [if_pos e]; exact h2 i e hi
  · rw [if_neg e, h1 i (by omega)]
    unfold insT
    by_cases e2 : i < p
    · rw [if_pos e2, if_pos e2]
    · rw [if_neg e2, if_neg e2]
      by_cases e3 : i = p
      · rw [if_pos e3, if_pos e3]
      · rw [if_neg e3, if_neg e3]
theorem LPm_ins {l l' : Nat → Nat} {K p : Nat} (hl : LPm l) (hK : K < 25) (hp : p ≤ K) (h1 : ∀ i, i ≤ K → l' i = insT l (l K) p i) (h2 : ∀ i, K < i → i < 25 → l' i = l i) : LPm l' := by
  have r25 : ∀ i, i < 25 → rho K p i < 25 := by intro i hi; unfold rho; split; omega; split; omega; split <;> omega
  refine ⟨fun i hi => ?_, fun i j hij hj e => ?_⟩
  · rw [ins_rho hp h1 h2 hi]; exact hl.1 _ (r25 i hi)
  · rw [ins_rho hp h1 h2 (by omega : i < 25), ins_rho hp h1 h2 hj] at e
    have := hl.inj (r25 i (by omega)) (r25 j hj) e
    unfold rho at this
    split at this <;> split at this <;> (try split at this) <;> (try split at this) <;> (try split at this) <;> (try split at this) <;> omega
theorem c_set1 {K x x2 : Nat} {T l : Nat → Nat} {fs fp fn fc : Nat → Int32} {ah : Nat → Nat → Prop} {kk : _} {P : _} (hK : K ≤ 24) (hl : LPm l) (hcmp : ∀ i, i < K → Rt (f_X0_isAhead FU fs fp fn fc (l K) (l i) (nI x2)) (fun r => r = 0 ↔ ¬ ah x (T i))) :
    ∀ (j fuel : Nat) (c : Nat → Nat), j ≤ K → j < fuel → (∀ i, i ≤ K → c i = insT l (l K) j i) → (∀ i, K < i → i < 25 → c i = l i) → (∀ i, j ≤ i → i < K → ah x (T i)) →
      (∀ (z : Int32) (c' : Nat → Nat) (p : Nat), p ≤ K → (∀ i, i ≤ K → c' i = insT l (l K) p i) → (∀ i, K < i → i < 25 → c' i = l i) → (∀ i, p ≤ i → i < K → ah x (T i)) → (p = 0 ∨ ¬ ah x (T (p - 1))) → Rt (kk z c') P) →
      Rt (f_X1_settle_L2 FU (nI x2) fs fp fn fc kk fuel (nI j) c) P := by
  intro j
  induction j with
  | zero =>
    intro fuel c e1 e2 hc hr ha hk
    obtain ⟨f, rfl⟩ : ∃ f, fuel = f + 1 := ⟨fuel - 1, by omega⟩
    rw [f_X1_settle_L2]
    exact rt_t (by decide) (hk _ _ 0 (by omega) hc hr ha (Or.inl rfl))
  | succ j ih =>
    intro fuel c e1 e2 hc hr ha hk
    obtain ⟨f, rfl⟩ : ∃ f, fuel = f + 1 := ⟨fuel - 1, by omega⟩
    rw [f_X1_settle_L2]
    refine rt_f (by rw [show (0 : Int32) = nI 0 from rfl]; exact (by rw [n_le (by omega) (by omega)]; omega)) ?_
    have c1 : c (j + 1) = l K := by rw [hc _ e1, ins_eq]
    have c0 : c j = l j := by rw [hc j (by omega), ins_lt (by omega : j < j + 1)]
    have b1 := hl.1 K (by omega)
    have b0 := hl.1 j (by omega)
    rw [show (1 : Int32) = nI 1 from rfl, pk_sub (by omega : 1 ≤ j + 1), show j + 1 - 1 = j by omega, rdn_ok (by omega) (by omega), c1, lt25_ok b1, rdn_ok (by omega) (by omega), c0, lt25_ok b0]
    refine rt_bd1 (hcmp j (by omega)) ?_
    intro r hrr
    refine rt_if (fun q => ?_) (fun q => ?_)
    · exact hk _ _ (j + 1) e1 hc hr ha (Or.inr (by rw [show j + 1 - 1 = j by omega]; exact hrr.mp q))
    · rw [rdn_ok (by omega) (by omega), c1, lt25_ok b1, rdn_ok (by omega) (by omega), c0, lt25_ok b0, wrn_ok (by omega) (by omega), wrn_ok (by omega) (by omega)]
      have em : nI (j + 1) + -nI 1 = nI j := by
        have := pk_sub (a := j + 1) (b := 1) (by omega)
        rw [show j + 1 - 1 = j by omega] at this
        rw [← this, Int32.sub_eq_add_neg]
      rw [em]
      have hq : ah x (T j) := Classical.byContradiction (fun z => q (hrr.mpr z))
      refine ih f _ (by omega) (by omega) ?_ ?_ ?_ hk
      · intro i hi
        rw [ins_swap]
        by_cases e3 : i = j + 1
        · subst e3; simp [va_up]
        · by_cases e4 : i = j
          · subst e4; simp [va_up]
          · rw [va_up_n e4, va_up_n e3, if_neg e3, if_neg e4]; exact hc i hi
      · intro i h1 h2
        rw [va_up_n (by omega), va_up_n (by omega)]
        exact hr i h1 h2
      · intro i h1 h2
        by_cases e3 : i = j
        · rw [e3]; exact hq
        · exact ha i (by omega) h2
theorem c_settle1 {K x x2 : Nat} {T l : Nat → Nat} {fs fp fn fc : Nat → Int32} {ah : Nat → Nat → Prop} (hK : K ≤ 24) (hl : LPm l) (hcmp : ∀ i, i < K → Rt (f_X0_isAhead FU fs fp fn fc (l K) (l i) (nI x2)) (fun r => r = 0 ↔ ¬ ah x (T i))) :
    Rt (f_X1_settle FU l fs fp fn fc (nI K) (nI x2)) (fun l' => ∃ p, p ≤ K ∧ (∀ i, i ≤ K → l' i = insT l (l K) p i) ∧ (∀ i, K < i → i < 25 → l' i = l i) ∧ (∀ i, p ≤ i → i < K → ah x (T i)) ∧ (p = 0 ∨ ¬ ah x (T (p - 1)))) := by
  unfold f_X1_settle
  refine c_set1 (ah := ah) (x := x) (T := T) hK hl hcmp K FU l (by omega) (by unfold FU; omega) (fun i hi => ?_) (fun _ _ _ => rfl) (fun i h1 h2 => by omega) ?_
  · by_cases e : i = K
    · subst e; rw [ins_eq]
    · rw [ins_lt (by omega)]
  · intro z c' p h1 h2 h3 h4 h5
    exact rt_some ⟨p, h1, h2, h3, h4, h5⟩
/-- those ahead of where it has settled -/
theorem set_ahead {K p x : Nat} {T : Nat → Nat} {ah : Nat → Nat → Prop} (hs : STO ah) (hp : p ≤ K) (h3 : ∀ i j, i < j → j < K → ah (T i) (T j)) (hne : ∀ j, j < K → T j ≠ x) (h4 : p = 0 ∨ ¬ ah x (T (p - 1))) : ∀ j, j < p → j < K → ah (T j) x := by
  have hl : 0 < p → ah (T (p - 1)) x := by
    intro hp0
    rcases h4 with z | z
    · omega
    · rcases hs.2.2 (T (p - 1)) x (hne (p - 1) (by omega)) with y | y
      · exact y
      · exact absurd y z
  intro j hj hjk
  by_cases e : j = p - 1
  · rw [e]; exact hl (by omega)
  · exact hs.2.1 _ _ _ (h3 j (p - 1) (by omega) (by omega)) (hl (by omega))
