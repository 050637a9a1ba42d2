/-! the core: picture and settings, and what both sides hold of them -/
def RepG (c : Nat → Int32) (g : Nat → Nat) : Prop := ∀ p, p < 256 → c p = nI (g p)
def RepS (c : Nat → Int32) (st : Nat → Nat) : Prop := ∀ k, k < 8 → c k = nI (st k)
def lowN : Nat → Nat := fun k => match k with
  | 0 => 2
  | 1 => 1
  | 2 => 0
  | 3 => 0
  | 4 => 1
  | 5 => 2
  | 6 => 1
  | _ => 0
def highN : Nat → Nat := fun k => match k with
  | 0 => 4
  | 1 => 20
  | 2 => 1
  | 3 => 99
  | 4 => 15
  | 5 => 20
  | 6 => 99
  | _ => 30
theorem low_eq : ∀ k, lowS k = nI (lowN k)
  | 0 => rfl
  | 1 => rfl
  | 2 => rfl
  | 3 => rfl
  | 4 => rfl
  | 5 => rfl
  | 6 => rfl
  | _ + 7 => rfl
theorem high_eq : ∀ k, highS k = nI (highN k)
  | 0 => rfl
  | 1 => rfl
  | 2 => rfl
  | 3 => rfl
  | 4 => rfl
  | 5 => rfl
  | 6 => rfl
  | _ + 7 => rfl
theorem high_99 : ∀ k, highN k ≤ 99
  | 0 => by decide
  | 1 => by decide
  | 2 => by decide
  | 3 => by decide
  | 4 => by decide
  | 5 => by decide
  | 6 => by decide
  | _ + 7 => by show 30 ≤ 99; decide
def PicOK (w h : Nat) (g st : Nat → Nat) : Prop := 1 ≤ w ∧ w ≤ 16 ∧ 1 ≤ h ∧ h ≤ 16 ∧ (∀ p, p < 256 → g p ≤ 99) ∧ (∀ k, k < 8 → lowN k ≤ st k ∧ st k ≤ highN k)
def CoreC (w h : Nat) (g st : Nat → Nat) (c_columns c_rows : Int32) (c_greys c_settings : Nat → Int32) : Prop := c_columns = nI w ∧ c_rows = nI h ∧ RepG c_greys g ∧ RepS c_settings st
def CoreM (w h : Nat) (g st : Nat → Nat) (m_width m_height : Int32) (m_grey m_setting m_leastOf m_mostOf : Nat → Int32) : Prop := m_width = nI w ∧ m_height = nI h ∧ RepG m_grey g ∧ RepS m_setting st ∧ (∀ k, k < 8 → m_leastOf k = lowS k) ∧ (∀ k, k < 8 → m_mostOf k = highS k)
/-! within -/
theorem wi_t {FU : Nat} {x a b : Int32} (h1 : ¬ x < a) (h2 : ¬ b < x) : f_X8_within FU x a b = some 1 := by unfold f_X8_within; rw [if_neg h1, if_neg h2]
theorem wi_f {FU : Nat} {x a b : Int32} (h : x < a ∨ b < x) : f_X8_within FU x a b = some 0 := by
  unfold f_X8_within
  by_cases h1 : x < a
  · rw [if_pos h1]
  · rw [if_neg h1, if_pos (h.resolve_left h1)]
theorem wi_eq {FU : Nat} {x a b : Int32} : f_X7_isWithin FU x a b = f_X8_within FU x a b := rfl
/-- x is one of the numbers from a to b -/
def InR (x : Int32) (a b n : Nat) : Prop := a ≤ n ∧ n ≤ b ∧ x = nI n
theorem wi_in {FU : Nat} {x : Int32} {a b n : Nat} (hb : b < 2147483648) (h : InR x a b n) : f_X8_within FU x (nI a) (nI b) = some 1 := by
  obtain ⟨h1, h2, rfl⟩ := h
  exact wi_t (by rw [n_lt (by omega) (by omega)]; omega) (by rw [n_lt (by omega) (by omega)]; omega)
theorem wi_out {FU : Nat} {x : Int32} {a b : Nat} (ha : a < 2147483648) (hb : b < 2147483648) (h : ∀ n, ¬ InR x a b n) : f_X8_within FU x (nI a) (nI b) = some 0 := by
  refine wi_f ?_
  by_cases c1 : x < nI a
  · exact Or.inl c1
  · refine Or.inr ?_
    by_cases c2 : nI b < x
    · exact c2
    · exfalso
      rw [i_lt, i_nI (by omega)] at c1 c2
      obtain ⟨n, hn, e, ei⟩ := i_nat (x := x) (by omega)
      exact h n ⟨by omega, by omega, e⟩
/-! places -/
def InP (w h : Nat) (x y : Int32) (a b : Nat) : Prop := a < w ∧ b < h ∧ x = nI a ∧ y = nI b
theorem has_t {FU w h a b : Nat} {x y : Int32} (hw : w ≤ 16) (hh : h ≤ 16) (hp : InP w h x y a b) : f_X2_has FU (nI w) (nI h) x y = some 1 := by
  obtain ⟨h1, h2, rfl, rfl⟩ := hp
  unfold f_X2_has
  rw [if_neg (nI_pos (by omega)), if_neg (by rw [n_le (by omega) (by omega)]; omega), if_neg (nI_pos (by omega)), if_neg (by rw [n_le (by omega) (by omega)]; omega)]
theorem has_f {FU w h : Nat} {x y : Int32} (hw : w ≤ 16) (hh : h ≤ 16) (hp : ∀ a b, ¬ InP w h x y a b) : f_X2_has FU (nI w) (nI h) x y = some 0 := by
  unfold f_X2_has
  by_cases c1 : x < 0
  · rw [if_pos c1]
  · rw [if_neg c1]
    by_cases c2 : nI w ≤ x
    · rw [if_pos c2]
    · rw [if_neg c2]
      by_cases c3 : y < 0
      · rw [if_pos c3]
      · rw [if_neg c3]
        by_cases c4 : nI h ≤ y
        · rw [if_pos c4]
        · exfalso
          obtain ⟨a, ha, rfl⟩ := nI_of c1
          obtain ⟨b, hb, rfl⟩ := nI_of c3
          rw [n_le (by omega) (by omega)] at c2 c4
          exact hp a b ⟨by omega, by omega, rfl, rfl⟩
theorem nI_1s {n : Nat} (h : 1 ≤ n) : nI n - 1 = nI (n - 1) := pk_sub (b := 1) h
theorem pl_t {FU w h a b : Nat} {x y : Int32} (hw : w ≤ 16) (hh : h ≤ 16) (hp : InP w h x y a b) : f_X8_isPlace FU (nI w) (nI h) x y = some 1 := by
  obtain ⟨h1, h2, h3, h4⟩ := hp
  unfold f_X8_isPlace
  rw [nI_1s (by omega), nI_1s (by omega), show f_X8_within FU x 0 (nI (w - 1)) = some 1 from wi_in (a := 0) (n := a) (by omega) ⟨by omega, by omega, h3⟩, show f_X8_within FU y 0 (nI (h - 1)) = some 1 from wi_in (a := 0) (n := b) (by omega) ⟨by omega, by omega, h4⟩]
  rfl
theorem pl_f {FU w h : Nat} {x y : Int32} (hw : w ≤ 16) (hh : h ≤ 16) (hw1 : 1 ≤ w) (hh1 : 1 ≤ h) (hp : ∀ a b, ¬ InP w h x y a b) : f_X8_isPlace FU (nI w) (nI h) x y = some 0 := by
  unfold f_X8_isPlace
  rw [nI_1s hw1, nI_1s hh1]
  by_cases c1 : ∃ n, InR x 0 (w - 1) n
  · obtain ⟨a, ha1, ha2, ha3⟩ := c1
    rw [show f_X8_within FU x 0 (nI (w - 1)) = some 1 from wi_in (a := 0) (n := a) (by omega) ⟨by omega, by omega, ha3⟩, show f_X8_within FU y 0 (nI (h - 1)) = some 0 from wi_out (a := 0) (by omega) (by omega) (fun n hn => hp a n ⟨by omega, by have := hn.2.1; omega, ha3, hn.2.2⟩)]
    rfl
  · rw [show f_X8_within FU x 0 (nI (w - 1)) = some 0 from wi_out (a := 0) (by omega) (by omega) (fun n hn => c1 ⟨n, hn⟩)]
    rfl
theorem p16 (a b : Nat) : (16 * nI b) + nI a = nI (16 * b + a) := by
  rw [show (16 : Int32) = nI 16 from rfl, pk_mul, nI_add]
/-! picture -/
theorem pic_m {FU : Nat} {β : Type} {P : (Int32 × Int32 × Int32 × Int32 × (Nat → Int32)) → Prop} {k : Int32 → (Nat → Int32) → Option (Int32 × Int32 × Int32 × Int32 × (Nat → Int32))} : ∀ (d i fuel : Nat) (c : Nat → Int32), i + d = 256 → d < fuel → (∀ p, p < i → c p = 0) → (∀ (x : Int32) (c' : Nat → Int32), (∀ p, p < 256 → c' p = 0) → Rt (k x c') P) → Rt (f_X8_picture_L35 FU k fuel (nI i) c) P := by
  intro d
  induction d with
  | zero =>
    intro i fuel c h1 h2 hc hk
    obtain ⟨f, rfl⟩ : ∃ f, fuel = f + 1 := ⟨fuel - 1, by omega⟩
    rw [f_X8_picture_L35]
    refine rt_t (by rw [show (256 : Int32) = nI 256 from rfl, n_le (by omega) (by omega)]; omega) (hk _ _ (fun p hp => hc p (by omega)))
  | succ d ih =>
    intro i fuel c h1 h2 hc hk
    obtain ⟨f, rfl⟩ : ∃ f, fuel = f + 1 := ⟨fuel - 1, by omega⟩
    rw [f_X8_picture_L35]
    refine rt_f (by rw [show (256 : Int32) = nI 256 from rfl, n_le (by omega) (by omega)]; omega) ?_
    rw [wr_ok (by omega) (by omega), nI_1]
    refine ih (i + 1) f _ (by omega) (by omega) (fun p hp => ?_) hk
    by_cases e : p = i
    · subst e; simp [upd]
    · simp [upd, e, hc p (by omega)]
theorem pic_c {FU : Nat} {P : (Int32 × (Nat → Int32) × Int32 × Int32) → Prop} {k : Int32 → (Nat → Int32) → Option (Int32 × (Nat → Int32) × Int32 × Int32)} : ∀ (d i fuel : Nat) (c : Nat → Int32), i + d = 256 → d < fuel → (∀ p, p < i → c p = 0) → (∀ (x : Int32) (c' : Nat → Int32), (∀ p, p < 256 → c' p = 0) → Rt (k x c') P) → Rt (f_X2_renew_L12 FU k fuel (nI i) c) P := by
  intro d
  induction d with
  | zero =>
    intro i fuel c h1 h2 hc hk
    obtain ⟨f, rfl⟩ : ∃ f, fuel = f + 1 := ⟨fuel - 1, by omega⟩
    rw [f_X2_renew_L12]
    refine rt_t (by rw [show (256 : Int32) = nI 256 from rfl, n_le (by omega) (by omega)]; omega) (hk _ _ (fun p hp => hc p (by omega)))
  | succ d ih =>
    intro i fuel c h1 h2 hc hk
    obtain ⟨f, rfl⟩ : ∃ f, fuel = f + 1 := ⟨fuel - 1, by omega⟩
    rw [f_X2_renew_L12]
    refine rt_f (by rw [show (256 : Int32) = nI 256 from rfl, n_le (by omega) (by omega)]; omega) ?_
    rw [wr_ok (by omega) (by omega), nI_1]
    refine ih (i + 1) f _ (by omega) (by omega) (fun p hp => ?_) hk
    by_cases e : p = i
    · subst e; simp [upd]
    · simp [upd, e, hc p (by omega)]
/-- picture: either refused by both, or both hold the new picture and have forgotten -/
theorem core_picture {w h : Nat} {g st : Nat → Nat} {c_columns c_rows m_width m_height c_reached m_worked : Int32} {c_greys c_settings m_grey m_setting m_leastOf m_mostOf : Nat → Int32} (hP : PicOK w h g st) (hC : CoreC w h g st c_columns c_rows c_greys c_settings) (hM : CoreM w h g st m_width m_height m_grey m_setting m_leastOf m_mostOf) (x1 x2 : Int32) :
    (f_X7_picture FU c_greys c_columns c_rows c_reached x1 x2 = some ((-2), c_greys, c_columns, c_rows, c_reached) ∧ f_X8_picture FU m_worked m_width m_height m_grey x1 x2 = some ((-2), m_worked, m_width, m_height, m_grey)) ∨
    (∃ (w' h' : Nat) (r c_columns' c_rows' m_width' m_height' : Int32) (c_greys' m_grey' : Nat → Int32), f_X7_picture FU c_greys c_columns c_rows c_reached x1 x2 = some (r, c_greys', c_columns', c_rows', 0) ∧ f_X8_picture FU m_worked m_width m_height m_grey x1 x2 = some (r, 0, m_width', m_height', m_grey') ∧ PicOK w' h' (fun _ => 0) st ∧ CoreC w' h' (fun _ => 0) st c_columns' c_rows' c_greys' c_settings ∧ CoreM w' h' (fun _ => 0) st m_width' m_height' m_grey' m_setting m_leastOf m_mostOf) := by
  by_cases a1 : ∃ n, InR x1 1 16 n
  · obtain ⟨w', h1⟩ := a1
    by_cases a2 : ∃ n, InR x2 1 16 n
    · obtain ⟨h', h2⟩ := a2
      right
      have e1 : f_X8_within FU x1 1 16 = some 1 := wi_in (a := 1) (b := 16) (by omega) h1
      have e2 : f_X8_within FU x2 1 16 = some 1 := wi_in (a := 1) (b := 16) (by omega) h2
      have t7 : Rt (f_X7_picture FU c_greys c_columns c_rows c_reached x1 x2) (fun q => q.1 = x1 * x2 ∧ RepG q.2.1 (fun _ => 0) ∧ q.2.2.1 = x1 ∧ q.2.2.2.1 = x2 ∧ q.2.2.2.2 = 0) := by
        unfold f_X7_picture
        rw [wi_eq, wi_eq, e1, e2]
        simp only [bd1_s]
        refine rt_f (by decide) (rt_f (by decide) ?_)
        unfold f_X6_forget
        simp only [bd1_s]
        refine rt_bd4 (Z := fun q => q.1 = x1 * x2 ∧ RepG q.2.1 (fun _ => 0) ∧ q.2.2.1 = x1 ∧ q.2.2.2 = x2) ?_ ?_
        · unfold f_X2_renew
          exact pic_c 256 0 FU c_greys rfl (by decide) (fun p hp => by omega) (fun x c' hc => rt_some ⟨rfl, fun p hp => hc p hp, rfl, rfl⟩)
        · intro r c2 c3 c4 hz
          exact rt_some ⟨hz.1, hz.2.1, hz.2.2.1, hz.2.2.2, rfl⟩
      have t8 : Rt (f_X8_picture FU m_worked m_width m_height m_grey x1 x2) (fun q => q.1 = x1 * x2 ∧ q.2.1 = 0 ∧ q.2.2.1 = x1 ∧ q.2.2.2.1 = x2 ∧ RepG q.2.2.2.2 (fun _ => 0)) := by
        unfold f_X8_picture
        rw [e1, e2]
        simp only [bd1_s]
        refine rt_f (by decide) (rt_f (by decide) ?_)
        exact pic_m (β := Int32) 256 0 FU m_grey rfl (by decide) (fun p hp => by omega) (fun x c' hc => rt_some ⟨rfl, rfl, rfl, rfl, fun p hp => hc p hp⟩)
      obtain ⟨⟨r, c1, c2, c3, c4⟩, q1, q2, q3, q4, q5, q6⟩ := t7
      obtain ⟨⟨r', d1, d2, d3, d4⟩, p1, p2, p3, p4, p5, p6⟩ := t8
      dsimp only at q2 q3 q4 q5 q6 p2 p3 p4 p5 p6
      subst q2 q4 q5 q6 p2 p3 p4 p5
      refine ⟨w', h', _, _, _, _, _, _, _, q1, p1, ⟨h1.1, h1.2.1, h2.1, h2.2.1, fun p _ => Nat.zero_le _, hP.2.2.2.2.2⟩, ⟨h1.2.2, h2.2.2, q3, hC.2.2.2⟩, ⟨h1.2.2, h2.2.2, p6, hM.2.2.2⟩⟩
    · left
      have e1 : f_X8_within FU x1 1 16 = some 1 := wi_in (a := 1) (b := 16) (by omega) h1
      have e2 : f_X8_within FU x2 1 16 = some 0 := wi_out (a := 1) (b := 16) (by omega) (by omega) (fun n hn => a2 ⟨n, hn⟩)
      unfold f_X7_picture f_X8_picture
      rw [wi_eq, wi_eq, e1, e2]
      exact ⟨rfl, rfl⟩
  · left
    have e1 : f_X8_within FU x1 1 16 = some 0 := wi_out (a := 1) (b := 16) (by omega) (by omega) (fun n hn => a1 ⟨n, hn⟩)
    unfold f_X7_picture f_X8_picture
    rw [wi_eq, e1]
    exact ⟨rfl, rfl⟩
