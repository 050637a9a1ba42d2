/-! sets of places; the least set that holds some and grows within others -/
def nb (q p : Nat) : Prop := (q + 1 = p ∧ p % 16 ≠ 0) ∨ (p + 1 = q ∧ q % 16 ≠ 0) ∨ q + 16 = p ∨ p + 16 = q
def Cl (O S : Nat → Prop) (p : Nat) : Prop := ∀ X : Nat → Prop, (∀ q, q < 256 → S q → X q) → (∀ q r, q < 256 → r < 256 → X q → nb q r → O r → X r) → X p
theorem cl_seed {O S : Nat → Prop} {p : Nat} (hp : p < 256) (h : S p) : Cl O S p := fun X h1 _ => h1 p hp h
theorem cl_step {O S : Nat → Prop} {q r : Nat} (hq : q < 256) (hr : r < 256) (h : Cl O S q) (hn : nb q r) (ho : O r) : Cl O S r := fun X h1 h2 => h2 q r hq hr (h X h1 h2) hn ho
/-- a set that is between the seed and what grows, and is closed, is what grows -/
theorem cl_is {O S A : Nat → Prop} (h1 : ∀ q, q < 256 → S q → A q) (h2 : ∀ q, q < 256 → A q → Cl O S q) (h3 : ∀ q r, q < 256 → r < 256 → A q → nb q r → O r → A r) : ∀ p, p < 256 → (A p ↔ Cl O S p) := fun p hp => ⟨h2 p hp, fun h => h A h1 h3⟩
theorem cl_in {O S : Nat → Prop} (h : ∀ q, q < 256 → S q → O q) {p : Nat} (hc : Cl O S p) : O p := hc O h (fun _ _ _ _ _ _ ho => ho)
theorem cl_cong {O O' S S' : Nat → Prop} (ho : ∀ q, q < 256 → (O q ↔ O' q)) (hs : ∀ q, q < 256 → (S q ↔ S' q)) {p : Nat} : Cl O S p ↔ Cl O' S' p := by
  constructor
  · intro h X h1 h2
    exact h X (fun q hq hs' => h1 q hq ((hs q hq).mp hs')) (fun q r hq hr hx hn ho' => h2 q r hq hr hx hn ((ho r hr).mp ho'))
  · intro h X h1 h2
    exact h X (fun q hq hs' => h1 q hq ((hs q hq).mpr hs')) (fun q r hq hr hx hn ho' => h2 q r hq hr hx hn ((ho r hr).mpr ho'))
noncomputable def dB (A : Nat → Prop) (q : Nat) : Bool := @decide (A q) (Classical.propDecidable _)
theorem dB_t {A : Nat → Prop} {q : Nat} : dB A q = true ↔ A q := by unfold dB; simp
noncomputable def cnt (A : Nat → Prop) : Nat := fb_ct (dB A) 256
theorem cnt_256 (A : Nat → Prop) : cnt A ≤ 256 := fb_ct_le _ _
theorem cnt_cong {A B : Nat → Prop} (h : ∀ q, q < 256 → (A q ↔ B q)) : cnt A = cnt B := by
  refine fb_ct_cong (fun q hq => ?_)
  rw [Bool.eq_iff_iff, dB_t, dB_t]
  exact h q hq
theorem cnt_mono {A B : Nat → Prop} (h : ∀ q, q < 256 → A q → B q) : cnt A ≤ cnt B := fb_ct_sub (fun q hq e => dB_t.mpr (h q hq (dB_t.mp e)))
theorem cnt_lt {A B : Nat → Prop} (h : ∀ q, q < 256 → A q → B q) {p : Nat} (hp : p < 256) (h1 : B p) (h2 : ¬ A p) : cnt A < cnt B := by
  have e := fb_ct_upd (dB A) true (i := p) hp
  have e2 : dB A p = false := by
    cases q : dB A p
    · rfl
    · exact absurd (dB_t.mp q) h2
  rw [e2] at e
  have e3 : fb_ct (fun k => if k = p then true else dB A k) 256 ≤ cnt B := by
    refine fb_ct_sub (fun q hq z => ?_)
    by_cases c : q = p
    · subst c; exact dB_t.mpr h1
    · rw [if_neg c] at z; exact dB_t.mpr (h q hq (dB_t.mp z))
  rw [if_neg (by decide : ¬ (false = true)), if_pos rfl] at e
  unfold cnt at *
  omega
theorem cnt_all {A : Nat → Prop} (h : 256 ≤ cnt A) {p : Nat} (hp : p < 256) : A p := by
  have := fb_ct_le (dB A) 256
  unfold cnt at h
  exact dB_t.mp ((fb_ct_all (p := dB A) (n := 256)).mp (by omega) p hp)
theorem cnt_pos {A : Nat → Prop} {p : Nat} (hp : p < 256) (h : A p) : 1 ≤ cnt A := by
  have := (fb_ct_pos (p := dB A) (n := 256)).mpr ⟨p, hp, dB_t.mpr h⟩
  unfold cnt
  omega
/-! rows of bits -/
theorem b_1 : ∀ i, i < 32 → bt 1 i = decide (i = 0) := by decide +kernel
theorem b_one {x i : Nat} (hx : x < 32) (hi : i < 32) : bt (1 <<< (nI x &&& 31)) i = decide (i = x) := by
  rw [b_shl x hx 1 hi]
  by_cases c : x ≤ i
  · rw [b_1 _ (by omega)]; simp [c]; omega
  · simp [c]; omega
theorem b_not (y : Int32) {i : Nat} (hi : i < 32) : bt (y ^^^ (-1)) i = !bt y i := by
  rw [b_xor, b_m1 i hi]; simp
theorem b_tst {y : Int32} {x : Nat} (hx : x < 32) : ((y >>> (nI x &&& 31)) &&& 1) = 0 ↔ bt y x = false := by
  have hb : ∀ i, i < 32 → bt ((y >>> (nI x &&& 31)) &&& 1) i = (bt y x && decide (i = 0)) := by
    intro i hi
    rw [b_and, b_1 i hi]
    by_cases e : i = 0
    · subst e; rw [b_sshr x hx y hi, Nat.add_zero, if_pos hx]
    · simp [e]
  constructor
  · intro h
    have := hb 0 (by omega)
    rw [h, b_0] at this
    simp at this
    exact this
  · intro h
    apply b_ext
    intro i hi
    rw [hb i hi, h, b_0]; rfl
theorem b_zero {y : Int32} : y = 0 ↔ ∀ i, i < 32 → bt y i = false := by
  constructor
  · intro h i _; rw [h, b_0]
  · intro h; apply b_ext; intro i hi; rw [h i hi, b_0]
/-- the rows hold the set -/
def RB (c : Nat → Int32) (A : Nat → Prop) : Prop := ∀ y, y < 16 → ∀ i, i < 32 → (bt (c y) i = true ↔ i < 16 ∧ A (16 * y + i))
theorem rb_cong {c : Nat → Int32} {A B : Nat → Prop} (h : RB c A) (e : ∀ q, q < 256 → (A q ↔ B q)) : RB c B := by
  intro y hy i hi
  rw [h y hy i hi]
  constructor
  · rintro ⟨h1, h2⟩; exact ⟨h1, (e _ (by omega)).mp h2⟩
  · rintro ⟨h1, h2⟩; exact ⟨h1, (e _ (by omega)).mpr h2⟩
theorem rb_at {c : Nat → Int32} {A : Nat → Prop} (h : RB c A) {p : Nat} (hp : p < 256) : bt (c (p / 16)) (p % 16) = true ↔ A p := by
  rw [h (p / 16) (by omega) (p % 16) (by omega), show 16 * (p / 16) + p % 16 = p by omega]
  constructor
  · exact fun z => z.2
  · exact fun z => ⟨by omega, z⟩
theorem c_clear {c : Nat → Int32} : Rt (f_X3_clear FU c) (fun c' => ∀ y, y < 16 → c' y = 0) := by
  have go : ∀ (d y fuel : Nat) (c : Nat → Int32), y + d = 16 → d < fuel → (∀ j, j < y → c j = 0) → Rt (f_X3_clear_L2 FU (fun (x1_1 : Int32) (c_a_2 : (Nat → Int32)) => some c_a_2) fuel (nI y) c) (fun c' => ∀ y, y < 16 → c' y = 0) := by
    intro d
    induction d with
    | zero =>
      intro y fuel c e1 e2 hc
      obtain ⟨f, rfl⟩ : ∃ f, fuel = f + 1 := ⟨fuel - 1, by omega⟩
      rw [f_X3_clear_L2]
      exact rt_t (by rw [show (16 : Int32) = nI 16 from rfl]; exact (by rw [n_le (by omega) (by omega)]; omega)) (rt_some (fun j hj => hc j (by omega)))
    | succ d ih =>
      intro y fuel c e1 e2 hc
      obtain ⟨f, rfl⟩ : ∃ f, fuel = f + 1 := ⟨fuel - 1, by omega⟩
      rw [f_X3_clear_L2]
      refine rt_f (by rw [show (16 : Int32) = nI 16 from rfl]; exact (by rw [n_le (by omega) (by omega)]; omega)) ?_
      rw [wr_ok (by omega) (by omega), nI_1]
      refine ih (y + 1) f _ (by omega) (by omega) (fun j hj => ?_)
      by_cases e : j = y
      · subst e; simp [upd]
      · simp [upd, e, hc j (by omega)]
  unfold f_X3_clear
  exact go 16 0 FU c (by omega) (by unfold FU; omega) (fun j hj => by omega)
/-! one round of spreading -/
theorem so_row {c cb : Nat → Int32} {A O : Nat → Prop} (hA : RB c A) (hO : RB cb O) {y : Nat} (hy : y < 16) {ab be : Int32} (hab : ∀ i, i < 32 → (bt ab i = true ↔ 0 < y ∧ i < 16 ∧ A (16 * (y - 1) + i))) (hbe : ∀ i, i < 32 → (bt be i = true ↔ y < 15 ∧ i < 16 ∧ A (16 * (y + 1) + i))) :
    ∀ i, i < 32 → (bt ((((((c y <<< (1 &&& 31)) ||| (c y >>> (1 &&& 31))) ||| ab) ||| be) &&& cb y) &&& (c y ^^^ (-1))) i = true ↔ i < 16 ∧ O (16 * y + i) ∧ ¬ A (16 * y + i) ∧ ∃ q, q < 256 ∧ A q ∧ nb q (16 * y + i)) := by
  intro i hi
  rw [b_and, b_and, b_or, b_or, b_or, b_not _ hi]
  rw [show (1 : Int32) &&& 31 = nI 1 &&& 31 from rfl, b_shl 1 (by omega) _ hi, b_sshr 1 (by omega) _ hi]
  have hr := hA y hy i hi
  have h2 := hab i hi
  have h3 := hbe i hi
  have h4 := hO y hy i hi
  have hl : 1 ≤ i → (bt (c y) (i - 1) = true ↔ i - 1 < 16 ∧ A (16 * y + (i - 1))) := fun _ => hA y hy (i - 1) (by omega)
  have hg : i + 1 < 32 → (bt (c y) (1 + i) = true ↔ 1 + i < 16 ∧ A (16 * y + (1 + i))) := fun _ => hA y hy (1 + i) (by omega)
  simp only [Bool.and_eq_true, Bool.or_eq_true, decide_eq_true_eq, Bool.not_eq_true']
  rw [← Bool.not_eq_true, hr, h2, h3, h4]
  constructor
  · rintro ⟨⟨hx, h5, h6⟩, h7⟩
    refine ⟨h5, h6, fun z => h7 ⟨h5, z⟩, ?_⟩
    rcases hx with ((hx | hx) | hx) | hx
    · have := (hl hx.1).mp hx.2
      exact ⟨16 * y + (i - 1), by omega, this.2, Or.inl ⟨by omega, by omega⟩⟩
    · rw [if_pos (by omega : 1 + i < 32)] at hx
      have := (hg (by omega)).mp hx
      exact ⟨16 * y + (1 + i), by omega, this.2, Or.inr (Or.inl ⟨by omega, by omega⟩)⟩
    · exact ⟨16 * (y - 1) + i, by omega, hx.2.2, Or.inr (Or.inr (Or.inl (by omega)))⟩
    · exact ⟨16 * (y + 1) + i, by omega, hx.2.2, Or.inr (Or.inr (Or.inr (by omega)))⟩
  · rintro ⟨h5, h6, h7, q, hq, hqa, hn⟩
    refine ⟨⟨?_, h5, h6⟩, fun z => h7 z.2⟩
    rcases hn with hn | hn | hn | hn
    · left; left; left
      refine ⟨by omega, (hl (by omega)).mpr ⟨by omega, ?_⟩⟩
      rw [show 16 * y + (i - 1) = q by omega]; exact hqa
    · left; left; right
      rw [if_pos (by omega : 1 + i < 32)]
      refine (hg (by omega)).mpr ⟨by omega, ?_⟩
      rw [show 16 * y + (1 + i) = q by omega]; exact hqa
    · left; right
      refine ⟨by omega, h5, ?_⟩
      rw [show 16 * (y - 1) + i = q by omega]; exact hqa
    · right
      refine ⟨by omega, h5, ?_⟩
      rw [show 16 * (y + 1) + i = q by omega]; exact hqa
/-- what a round has made of a set, so far -/
def SP (O A0 A : Nat → Prop) (y : Nat) (gr : Nat) : Prop := (∀ q, q < 256 → A0 q → A q) ∧ (∀ q, q < 256 → A q → Cl O A0 q) ∧
  ((gr = 0 ∧ (∀ q, q < 256 → (A q ↔ A0 q)) ∧ ∀ p, p < 16 * y → O p → (∃ q, q < 256 ∧ A0 q ∧ nb q p) → A0 p) ∨ (gr = 1 ∧ cnt A0 < cnt A))
theorem c_so4 {cb : Nat → Int32} {O A0 : Nat → Prop} {k : _} {P : _} (hO : RB cb O) :
    ∀ (d y fuel gr : Nat) (c : Nat → Int32) (A : Nat → Prop), y + d = 16 → d < fuel → RB c A → SP O A0 A y gr →
      (∀ (z : Int32) (gr : Nat) (c : Nat → Int32) (A : Nat → Prop), RB c A → SP O A0 A 16 gr → Rt (k (nI gr) z c) P) →
      Rt (f_X3_spreadOnce_L4 FU cb k fuel (nI gr) (nI y) c) P := by
  intro d
  induction d with
  | zero =>
    intro y fuel gr c A e1 e2 hA hS hk
    obtain ⟨f, rfl⟩ : ∃ f, fuel = f + 1 := ⟨fuel - 1, by omega⟩
    have ey : y = 16 := by omega
    subst ey
    rw [f_X3_spreadOnce_L4]
    exact rt_t (by rw [show (16 : Int32) = nI 16 from rfl]; exact (by rw [n_le (by omega) (by omega)]; omega)) (hk _ gr c A hA hS)
  | succ d ih =>
    intro y fuel gr c A e1 e2 hA hS hk
    obtain ⟨f, rfl⟩ : ∃ f, fuel = f + 1 := ⟨fuel - 1, by omega⟩
    have hy : y < 16 := by omega
    have hg1 : gr ≤ 1 := by
      rcases hS.2.2 with z | z
      · omega
      · omega
    rw [f_X3_spreadOnce_L4]
    refine rt_f (by rw [show (16 : Int32) = nI 16 from rfl]; exact (by rw [n_le (by omega) (by omega)]; omega)) ?_
    rw [rd_ok (by omega) (by omega), rd_ok (by omega) (by omega)]
    have body : ∀ ab be : Int32, (∀ i, i < 32 → (bt ab i = true ↔ 0 < y ∧ i < 16 ∧ A (16 * (y - 1) + i))) → (∀ i, i < 32 → (bt be i = true ↔ y < 15 ∧ i < 16 ∧ A (16 * (y + 1) + i))) →
        Rt (rd cb 16 (nI y) (fun y_16 => rd c 16 (nI y) (fun y_17 => rd c 16 (nI y) (fun y_18 => wr c 16 (nI y) (y_18 ||| ((((((c y <<< (1 &&& 31)) ||| (c y >>> (1 &&& 31))) ||| ab) ||| be) &&& y_16) &&& (y_17 ^^^ (-1)))) (fun c_a_19 => jn (fun (t_20 : Int32) => f_X3_spreadOnce_L4 FU cb k f t_20 (nI y + 1) c_a_19) (fun j_21 => if nI gr = 0 then if ((((((c y <<< (1 &&& 31)) ||| (c y >>> (1 &&& 31))) ||| ab) ||| be) &&& y_16) &&& (y_17 ^^^ (-1))) = 0 then j_21 0 else j_21 1 else j_21 1)))))) P := by
      intro ab be hab hbe
      rw [rd_ok (by omega) (by omega), rd_ok (by omega) (by omega), rd_ok (by omega) (by omega), wr_ok (by omega) (by omega), nI_1]
      have hm := so_row hA hO hy hab hbe
      generalize ((((((c y <<< (1 &&& 31)) ||| (c y >>> (1 &&& 31))) ||| ab) ||| be) &&& cb y) &&& (c y ^^^ (-1))) = M at *
      have hA' : RB (upd c y (c y ||| M)) (fun p => A p ∨ (p / 16 = y ∧ O p ∧ ∃ q, q < 256 ∧ A q ∧ nb q p)) := by
        intro y2 hy2 i hi
        by_cases e : y2 = y
        · subst e
          simp only [upd, if_true]
          rw [b_or, Bool.or_eq_true, hm i hi, hA y2 hy i hi]
          constructor
          · rintro (⟨z1, z2⟩ | ⟨z1, z2, z3, z4⟩)
            · exact ⟨z1, Or.inl z2⟩
            · exact ⟨z1, Or.inr ⟨by omega, z2, z4⟩⟩
          · rintro ⟨z1, z2 | ⟨z2, z3, z4⟩⟩
            · exact Or.inl ⟨z1, z2⟩
            · by_cases c : A (16 * y2 + i)
              · exact Or.inl ⟨z1, c⟩
              · exact Or.inr ⟨z1, z3, c, z4⟩
        · simp only [upd, e, if_false]
          rw [hA y2 hy2 i hi]
          constructor
          · rintro ⟨z1, z2⟩; exact ⟨z1, Or.inl z2⟩
          · rintro ⟨z1, z2 | ⟨z2, _⟩⟩
            · exact ⟨z1, z2⟩
            · omega
      obtain ⟨s1, s2, s3⟩ := hS
      have s2' : ∀ q, q < 256 → (A q ∨ (q / 16 = y ∧ O q ∧ ∃ r, r < 256 ∧ A r ∧ nb r q)) → Cl O A0 q := by
        rintro q hq (z | ⟨_, z1, r, hr, z2, z3⟩)
        · exact s2 q hq z
        · exact cl_step hr hq (s2 r hr z2) z3 z1
      refine rt_jn ?_
      dsimp only
      refine rt_if (fun c1 => ?_) (fun c1 => ?_)
      · rw [show (0 : Int32) = nI 0 from rfl, n_inj (by omega) (by omega)] at c1
        rcases s3 with ⟨_, s4, s5⟩ | ⟨s4, _⟩
        · refine rt_if (fun c2 => ?_) (fun c2 => ?_)
          · have hno := b_zero.mp c2
            have hsame : ∀ p, p < 256 → ((A p ∨ (p / 16 = y ∧ O p ∧ ∃ q, q < 256 ∧ A q ∧ nb q p)) ↔ A p) := by
              intro p hp
              constructor
              · rintro (z | ⟨z1, z2, z3⟩)
                · exact z
                · refine Classical.byContradiction (fun nz => ?_)
                  have := hno (p % 16) (by omega)
                  rw [← Bool.not_eq_true, hm (p % 16) (by omega), show 16 * y + p % 16 = p by omega] at this
                  exact this ⟨by omega, z2, nz, z3⟩
              · exact fun z => Or.inl z
            refine ih (y + 1) f 0 _ A (by omega) (by omega) (rb_cong hA' hsame) ⟨s1, s2, Or.inl ⟨rfl, s4, ?_⟩⟩ hk
            intro p hp ho he
            by_cases e : p < 16 * y
            · exact s5 p e ho he
            · obtain ⟨q, hq, hqa, hn⟩ := he
              exact (s4 p (by omega)).mp ((hsame p (by omega)).mp (Or.inr ⟨by omega, ho, q, hq, (s4 q hq).mpr hqa, hn⟩))
          · refine ih (y + 1) f 1 _ _ (by omega) (by omega) hA' ⟨fun q hq z => Or.inl (s1 q hq z), s2', Or.inr ⟨rfl, ?_⟩⟩ hk
            have hex : ∃ i, i < 32 ∧ bt M i = true := Classical.byContradiction (fun z => c2 (b_zero.mpr (fun i hi => by
              cases e : bt M i
              · rfl
              · exact absurd ⟨i, hi, e⟩ z)))
            obtain ⟨i, hi, hb⟩ := hex
            obtain ⟨z1, z2, z3, z4⟩ := (hm i hi).mp hb
            refine cnt_lt (p := 16 * y + i) (fun q hq z => Or.inl (s1 q hq z)) (by omega) (Or.inr ⟨by omega, z2, z4⟩) (fun z => z3 (s1 _ (by omega) z))
        · omega
      · rw [show (0 : Int32) = nI 0 from rfl, n_inj (by omega) (by omega)] at c1
        rcases s3 with ⟨s4, _⟩ | ⟨s4, s5⟩
        · omega
        · refine ih (y + 1) f 1 _ _ (by omega) (by omega) hA' ⟨fun q hq z => Or.inl (s1 q hq z), s2', Or.inr ⟨rfl, ?_⟩⟩ hk
          exact Nat.lt_of_lt_of_le s5 (cnt_mono (fun q hq z => Or.inl z))
    refine rt_jn ?_
    dsimp only
    have hz0 : ∀ (i : Nat) (X : Prop), ¬ X → (bt (0 : Int32) i = true ↔ X) := by
      intro i X hX
      rw [b_0]
      exact ⟨fun z => absurd z (by decide), fun z => absurd z hX⟩
    have below : ∀ ab : Int32, (∀ i, i < 32 → (bt ab i = true ↔ 0 < y ∧ i < 16 ∧ A (16 * (y - 1) + i))) → Rt (jn (fun (t_13 : Int32) => rd cb 16 (nI y) (fun y_16 => rd c 16 (nI y) (fun y_17 => rd c 16 (nI y) (fun y_18 => wr c 16 (nI y) (y_18 ||| ((((((c y <<< (1 &&& 31)) ||| (c y >>> (1 &&& 31))) ||| ab) ||| t_13) &&& y_16) &&& (y_17 ^^^ (-1)))) (fun c_a_19 => jn (fun (t_20 : Int32) => f_X3_spreadOnce_L4 FU cb k f t_20 (nI y + 1) c_a_19) (fun j_21 => if nI gr = 0 then if ((((((c y <<< (1 &&& 31)) ||| (c y >>> (1 &&& 31))) ||| ab) ||| t_13) &&& y_16) &&& (y_17 ^^^ (-1))) = 0 then j_21 0 else j_21 1 else j_21 1)))))) (fun j_14 => if 15 ≤ nI y then j_14 0 else rd c 16 (nI y + 1) (fun y_25 => j_14 y_25))) P := by
      intro ab hab
      refine rt_jn ?_
      dsimp only
      refine rt_if (fun c1 => ?_) (fun c1 => ?_)
      · rw [show (15 : Int32) = nI 15 from rfl, n_le (by omega) (by omega)] at c1
        exact body ab 0 hab (fun i hi => hz0 i _ (by omega))
      · rw [show (15 : Int32) = nI 15 from rfl, n_le (by omega) (by omega)] at c1
        rw [nI_1, rd_ok (by omega) (by omega)]
        have := body ab (c (y + 1)) hab (fun i hi => by
          rw [hA (y + 1) (by omega) i hi]
          exact ⟨fun z => ⟨by omega, z⟩, fun z => z.2⟩)
        rw [nI_1] at this
        exact this
    refine rt_if (fun c1 => ?_) (fun c1 => ?_)
    · rw [show (0 : Int32) = nI 0 from rfl, n_le (by omega) (by omega)] at c1
      exact below 0 (fun i hi => hz0 i _ (by omega))
    · rw [show (0 : Int32) = nI 0 from rfl, n_le (by omega) (by omega)] at c1
      rw [nI_1s (by omega : 1 ≤ y), rd_ok (by omega) (by omega)]
      exact below (c (y - 1)) (fun i hi => by
        rw [hA (y - 1) (by omega) i hi]
        exact ⟨fun z => ⟨by omega, z⟩, fun z => z.2⟩)
