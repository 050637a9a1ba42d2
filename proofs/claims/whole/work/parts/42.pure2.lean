/-! dot, at, tune, raise, paste -/
def put (g : Nat → Nat) (p v : Nat) : Nat → Nat := fun q => if q = p then v else g q
theorem rep_put {c : Nat → Int32} {g : Nat → Nat} {p v : Nat} (h : RepG c g) : RepG (upd c p (nI v)) (put g p v) := by
  intro q hq
  by_cases e : q = p
  · subst e; simp [upd, put]
  · simp [upd, put, e, h q hq]
theorem rep_same {c : Nat → Int32} {g : Nat → Nat} {p v : Nat} (h : RepG c g) (e : g p = v) : RepG c (put g p v) := by
  intro q hq
  by_cases e2 : q = p
  · subst e2; simp [put, h q hq, e]
  · simp [put, e2, h q hq]
theorem put_99 {g : Nat → Nat} {p v : Nat} (h : ∀ q, q < 256 → g q ≤ 99) (hv : v ≤ 99) : ∀ q, q < 256 → put g p v q ≤ 99 := by
  intro q hq
  by_cases e : q = p
  · simp [put, e, hv]
  · simp [put, e, h q hq]
theorem grey_ok {FU w h a b : Nat} {c : Nat → Int32} {g : Nat → Nat} (hw : w ≤ 16) (hh : h ≤ 16) (ha : a < w) (hb : b < h) (hr : RepG c g) : f_X2_greyOf FU c (nI w) (nI h) (nI a) (nI b) = some (nI (g (16 * b + a))) := by
  unfold f_X2_greyOf
  rw [has_t hw hh ⟨ha, hb, rfl, rfl⟩, bd1_s, if_neg (by decide), p16, rd_ok (by omega) (by omega), hr _ (by omega)]
theorem change_ok {FU w h a b v : Nat} {c : Nat → Int32} {g : Nat → Nat} (hw : w ≤ 16) (hh : h ≤ 16) (ha : a < w) (hb : b < h) (hr : RepG c g) (hg : ∀ q, q < 256 → g q ≤ 99) (hv : v ≤ 99) : Rt (f_X2_change FU c (nI w) (nI h) (nI a) (nI b) (nI v)) (fun q => q.1 = nI (if g (16 * b + a) = v then 0 else 1) ∧ RepG q.2 (put g (16 * b + a) v)) := by
  unfold f_X2_change
  have hp : 16 * b + a < 256 := by omega
  rw [has_t hw hh ⟨ha, hb, rfl, rfl⟩, bd1_s, if_neg (by decide), p16, rd_ok hp (by omega), hr _ hp]
  have h1 := hg _ hp
  by_cases e : g (16 * b + a) = v
  · rw [if_pos (by rw [e]), if_pos e]
    exact rt_some ⟨rfl, rep_same hr e⟩
  · rw [if_neg (by rw [n_inj (by omega) (by omega)]; exact e), if_neg e, wr_ok hp (by omega)]
    exact rt_some ⟨rfl, rep_put hr⟩
theorem core_at {w h : Nat} {g st : Nat → Nat} {c_columns c_rows m_width m_height : Int32} {c_greys c_settings m_grey m_setting m_leastOf m_mostOf : Nat → Int32} (hP : PicOK w h g st) (hC : CoreC w h g st c_columns c_rows c_greys c_settings) (hM : CoreM w h g st m_width m_height m_grey m_setting m_leastOf m_mostOf) (x1 x2 : Int32) :
    ∃ r, f_X7_at FU c_greys c_columns c_rows x1 x2 = some r ∧ f_X8_at FU m_width m_height m_grey x1 x2 = some r := by
  obtain ⟨hw1, hw, hh1, hh, hg, hs⟩ := hP
  obtain ⟨rfl, rfl, hr, -⟩ := hC
  obtain ⟨rfl, rfl, hm, -⟩ := hM
  unfold f_X7_at f_X8_at
  by_cases c1 : ∃ a b, InP w h x1 x2 a b
  · obtain ⟨a, b, hp⟩ := c1
    rw [has_t hw hh hp, pl_t hw hh hp]
    obtain ⟨ha, hb, rfl, rfl⟩ := hp
    refine ⟨nI (g (16 * b + a)), ?_, ?_⟩
    · rw [bd1_s, if_neg (by decide), grey_ok hw hh ha hb hr]; rfl
    · rw [bd1_s, if_neg (by decide), p16, rd_ok (by omega) (by omega), hm _ (by omega)]
  · rw [has_f hw hh (fun a b q => c1 ⟨a, b, q⟩), pl_f hw hh hw1 hh1 (fun a b q => c1 ⟨a, b, q⟩)]
    exact ⟨-1, rfl, rfl⟩
theorem core_dot {w h : Nat} {g st : Nat → Nat} {c_columns c_rows m_width m_height c_reached m_worked : Int32} {c_greys c_settings m_grey m_setting m_leastOf m_mostOf : Nat → Int32} (hP : PicOK w h g st) (hC : CoreC w h g st c_columns c_rows c_greys c_settings) (hM : CoreM w h g st m_width m_height m_grey m_setting m_leastOf m_mostOf) (x1 x2 x3 : Int32) :
    (∃ r, f_X7_dot FU c_greys c_columns c_rows c_reached x1 x2 x3 = some (r, c_greys, c_reached) ∧ f_X8_dot FU m_worked m_width m_height m_grey x1 x2 x3 = some (r, m_worked, m_grey)) ∨
    (∃ (g' : Nat → Nat) (r : Int32) (c_greys' m_grey' : Nat → Int32), f_X7_dot FU c_greys c_columns c_rows c_reached x1 x2 x3 = some (r, c_greys', 0) ∧ f_X8_dot FU m_worked m_width m_height m_grey x1 x2 x3 = some (r, 0, m_grey') ∧ RepG c_greys' g' ∧ RepG m_grey' g' ∧ ∀ q, q < 256 → g' q ≤ 99) := by
  obtain ⟨hw1, hw, hh1, hh, hg, hs⟩ := hP
  obtain ⟨rfl, rfl, hr, -⟩ := hC
  obtain ⟨rfl, rfl, hm, -⟩ := hM
  unfold f_X7_dot f_X8_dot
  by_cases c1 : ∃ a b, InP w h x1 x2 a b
  · obtain ⟨a, b, hp⟩ := c1
    rw [has_t hw hh hp, pl_t hw hh hp]
    obtain ⟨ha, hb, rfl, rfl⟩ := hp
    simp only [bd1_s]
    rw [if_neg (by decide), if_neg (by decide), wi_eq]
    by_cases c2 : ∃ n, InR x3 0 99 n
    · obtain ⟨v, hv⟩ := c2
      right
      rw [show f_X8_within FU x3 0 99 = some 1 from wi_in (a := 0) (b := 99) (by omega) hv]
      obtain ⟨-, hv2, rfl⟩ := hv
      simp only [bd1_s]
      rw [if_neg (by decide), if_neg (by decide), grey_ok hw hh ha hb hr, p16, rd_ok (by omega) (by omega), wr_ok (by omega) (by omega), hm _ (by omega)]
      obtain ⟨⟨r, c'⟩, e, -, h2⟩ := change_ok (FU := FU) hw hh ha hb hr hg hv2
      rw [e]
      exact ⟨put g (16 * b + a) v, _, _, _, rfl, rfl, h2, rep_put hm, put_99 hg hv2⟩
    · left
      rw [show f_X8_within FU x3 0 99 = some 0 from wi_out (a := 0) (b := 99) (by omega) (by omega) (fun n hn => c2 ⟨n, hn⟩)]
      exact ⟨-2, rfl, rfl⟩
  · left
    rw [has_f hw hh (fun a b q => c1 ⟨a, b, q⟩), pl_f hw hh hw1 hh1 (fun a b q => c1 ⟨a, b, q⟩)]
    exact ⟨-1, rfl, rfl⟩
/-! settings -/
def InS (x v : Int32) (k n : Nat) : Prop := k < 8 ∧ x = nI k ∧ lowN k ≤ n ∧ n ≤ highN k ∧ v = nI n
theorem set_t7 {FU k n : Nat} {x v : Int32} (h : InS x v k n) : f_X7_isSetting FU x v = some 1 := by
  obtain ⟨h1, rfl, h3, h4, rfl⟩ := h
  have hh := high_99 k
  unfold f_X7_isSetting
  rw [wi_eq, show f_X8_within FU (nI k) 0 7 = some 1 from wi_in (a := 0) (b := 7) (n := k) (by omega) ⟨by omega, by omega, rfl⟩, bd1_s, if_neg (by decide), rd_ok h1 (by omega), rd_ok h1 (by omega), low_eq, high_eq, wi_eq, wi_in (n := n) (by omega) ⟨h3, h4, rfl⟩]
  rfl
theorem set_t8 {FU k n : Nat} {x v : Int32} {lo hi : Nat → Int32} (hlo : ∀ k, k < 8 → lo k = lowS k) (hhi : ∀ k, k < 8 → hi k = highS k) (h : InS x v k n) : f_X8_isSetting FU lo hi x v = some 1 := by
  obtain ⟨h1, rfl, h3, h4, rfl⟩ := h
  have hh := high_99 k
  unfold f_X8_isSetting
  rw [show f_X8_within FU (nI k) 0 7 = some 1 from wi_in (a := 0) (b := 7) (n := k) (by omega) ⟨by omega, by omega, rfl⟩, bd1_s, if_neg (by decide), rd_ok h1 (by omega), rd_ok h1 (by omega), hlo k h1, hhi k h1, low_eq, high_eq, wi_in (n := n) (by omega) ⟨h3, h4, rfl⟩]
  rfl
theorem set_f7 {FU : Nat} {x v : Int32} (h : ∀ k n, ¬ InS x v k n) : f_X7_isSetting FU x v = some 0 := by
  unfold f_X7_isSetting
  rw [wi_eq]
  by_cases c1 : ∃ k, InR x 0 7 k
  · obtain ⟨k, hk⟩ := c1
    rw [show f_X8_within FU x 0 7 = some 1 from wi_in (a := 0) (b := 7) (n := k) (by omega) hk]
    obtain ⟨-, h2, rfl⟩ := hk
    have hh := high_99 k
    have hl : lowN k ≤ 99 ∨ 99 < lowN k := by omega
    have hlo : lowN k < 2147483648 := by
      match k, h2 with
      | 0, _ => decide
      | 1, _ => decide
      | 2, _ => decide
      | 3, _ => decide
      | 4, _ => decide
      | 5, _ => decide
      | 6, _ => decide
      | 7, _ => decide
    rw [bd1_s, if_neg (by decide), rd_ok (by omega) (by omega), rd_ok (by omega) (by omega), low_eq, high_eq, wi_eq, wi_out (by omega) (by omega) (fun n hn => h k n ⟨by omega, rfl, hn.1, hn.2.1, hn.2.2⟩)]
    rfl
  · rw [show f_X8_within FU x 0 7 = some 0 from wi_out (a := 0) (b := 7) (by omega) (by omega) (fun n hn => c1 ⟨n, hn⟩)]
    rfl
theorem set_f8 {FU : Nat} {x v : Int32} {lo hi : Nat → Int32} (hlo : ∀ k, k < 8 → lo k = lowS k) (hhi : ∀ k, k < 8 → hi k = highS k) (h : ∀ k n, ¬ InS x v k n) : f_X8_isSetting FU lo hi x v = some 0 := by
  have h7 := set_f7 (FU := FU) h
  unfold f_X7_isSetting at h7
  unfold f_X8_isSetting
  rw [wi_eq] at h7
  by_cases c1 : ∃ k, InR x 0 7 k
  · obtain ⟨k, hk⟩ := c1
    rw [show f_X8_within FU x 0 7 = some 1 from wi_in (a := 0) (b := 7) (n := k) (by omega) hk] at h7 ⊢
    obtain ⟨-, h2, rfl⟩ := hk
    rw [bd1_s, if_neg (by decide), rd_ok (by omega) (by omega), rd_ok (by omega) (by omega)] at h7 ⊢
    rw [hlo k (by omega), hhi k (by omega)]
    exact h7
  · rw [show f_X8_within FU x 0 7 = some 0 from wi_out (a := 0) (b := 7) (by omega) (by omega) (fun n hn => c1 ⟨n, hn⟩)]
    rfl
theorem reps_put {c : Nat → Int32} {st : Nat → Nat} {k v : Nat} (h : RepS c st) : RepS (upd c k (nI v)) (put st k v) := by
  intro q hq
  by_cases e : q = k
  · subst e; simp [upd, put]
  · simp [upd, put, e, h q hq]
theorem sets_put {st : Nat → Nat} {k v : Nat} (h : ∀ k, k < 8 → lowN k ≤ st k ∧ st k ≤ highN k) (h1 : lowN k ≤ v) (h2 : v ≤ highN k) : ∀ q, q < 8 → lowN q ≤ put st k v q ∧ put st k v q ≤ highN q := by
  intro q hq
  by_cases e : q = k
  · subst e; simp [put, h1, h2]
  · simp [put, e, h q hq]
theorem core_tune {w h : Nat} {g st : Nat → Nat} {c_columns c_rows m_width m_height c_reached m_worked : Int32} {c_greys c_settings m_grey m_setting m_leastOf m_mostOf : Nat → Int32} (hP : PicOK w h g st) (hC : CoreC w h g st c_columns c_rows c_greys c_settings) (hM : CoreM w h g st m_width m_height m_grey m_setting m_leastOf m_mostOf) (x1 x2 : Int32) :
    (f_X7_tune FU c_settings c_reached x1 x2 = some ((-2), c_settings, c_reached) ∧ f_X8_tune FU m_worked m_setting m_leastOf m_mostOf x1 x2 = some ((-2), m_worked, m_setting)) ∨
    (∃ (st' : Nat → Nat) (r : Int32) (c_settings' m_setting' : Nat → Int32), f_X7_tune FU c_settings c_reached x1 x2 = some (r, c_settings', 0) ∧ f_X8_tune FU m_worked m_setting m_leastOf m_mostOf x1 x2 = some (r, 0, m_setting') ∧ RepS c_settings' st' ∧ RepS m_setting' st' ∧ PicOK w h g st') := by
  obtain ⟨hw1, hw, hh1, hh, hg, hs⟩ := hP
  obtain ⟨-, -, -, hr⟩ := hC
  obtain ⟨-, -, -, hm, hlo, hhi⟩ := hM
  unfold f_X7_tune f_X8_tune
  by_cases c1 : ∃ k n, InS x1 x2 k n
  · obtain ⟨k, n, hk⟩ := c1
    right
    rw [set_t7 hk, set_t8 hlo hhi hk]
    obtain ⟨h1, rfl, h3, h4, rfl⟩ := hk
    simp only [bd1_s]
    rw [if_neg (by decide), if_neg (by decide), rd_ok h1 (by omega), rd_ok h1 (by omega), wr_ok h1 (by omega), wr_ok h1 (by omega), hr k h1, hm k h1]
    exact ⟨put st k n, _, _, _, rfl, rfl, reps_put hr, reps_put hm, hw1, hw, hh1, hh, hg, sets_put hs h3 h4⟩
  · left
    rw [set_f7 (fun k n q => c1 ⟨k, n, q⟩), set_f8 hlo hhi (fun k n q => c1 ⟨k, n, q⟩)]
    exact ⟨rfl, rfl⟩
