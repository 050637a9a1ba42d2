/-! the list of pairs -/
def zE (w h : Nat) (g st : Nat → Nat) (s t : Nat) : Bool := decide (s < t) && zPr w h g st s t
def prI (w h : Nat) (g st : Nat → Nat) (s : Nat) : Nat → List (Nat × Nat)
  | 0 => []
  | t + 1 => prI w h g st s t ++ (if zE w h g st s t then [(s, t)] else [])
def prO (w h : Nat) (g st : Nat → Nat) : Nat → List (Nat × Nat)
  | 0 => []
  | s + 1 => prO w h g st s ++ prI w h g st s (qN w h st)
def prL (w h : Nat) (g st : Nat → Nat) : List (Nat × Nat) := prO w h g st (qN w h st)
theorem prI_s (w h : Nat) (g st : Nat → Nat) (s t : Nat) : prI w h g st s (t + 1) = prI w h g st s t ++ (if zE w h g st s t then [(s, t)] else []) := rfl
theorem prO_s (w h : Nat) (g st : Nat → Nat) (s : Nat) : prO w h g st (s + 1) = prO w h g st s ++ prI w h g st s (qN w h st) := rfl
theorem prI_none {w h : Nat} {g st : Nat → Nat} {s a : Nat} : ∀ (d : Nat), (∀ t, a ≤ t → t < a + d → zE w h g st s t = false) → prI w h g st s (a + d) = prI w h g st s a
  | 0, _ => rfl
  | d + 1, hn => by
    rw [show a + (d + 1) = (a + d) + 1 by omega, prI_s, prI_none d (fun t h1 h2 => hn t h1 (by omega)), hn (a + d) (by omega) (by omega)]
    simp
theorem prI_low {w h : Nat} {g st : Nat → Nat} {s : Nat} : prI w h g st s (s + 1) = [] := by
  have h0 := prI_none (w := w) (h := h) (g := g) (st := st) (s := s) (a := 0) (s + 1) (fun t _ ht => by unfold zE; simp; omega)
  rw [Nat.zero_add] at h0
  exact h0
theorem prI_mem {w h : Nat} {g st : Nat → Nat} {s : Nat} {p : Nat × Nat} : ∀ (n : Nat), p ∈ prI w h g st s n ↔ p.1 = s ∧ p.2 < n ∧ zE w h g st s p.2 = true
  | 0 => by simp [prI]
  | n + 1 => by
    rw [prI_s, List.mem_append, prI_mem n]
    by_cases e : zE w h g st s n = true
    · rw [if_pos e]
      simp only [List.mem_singleton]
      constructor
      · rintro (⟨h1, h2, h3⟩ | rfl)
        · exact ⟨h1, by omega, h3⟩
        · exact ⟨rfl, by simp, e⟩
      · rintro ⟨h1, h2, h3⟩
        by_cases q : p.2 = n
        · right; subst h1 q; rfl
        · left; exact ⟨h1, by omega, h3⟩
    · rw [if_neg e]
      simp only [List.not_mem_nil, or_false]
      constructor
      · rintro ⟨h1, h2, h3⟩; exact ⟨h1, by omega, h3⟩
      · rintro ⟨h1, h2, h3⟩
        refine ⟨h1, ?_, h3⟩
        by_cases q : p.2 = n
        · rw [q] at h3; exact absurd h3 e
        · omega
theorem prO_mem {w h : Nat} {g st : Nat → Nat} {p : Nat × Nat} : ∀ (n : Nat), p ∈ prO w h g st n ↔ p.1 < n ∧ p.2 < qN w h st ∧ zE w h g st p.1 p.2 = true
  | 0 => by simp [prO]
  | n + 1 => by
    rw [prO_s, List.mem_append, prO_mem n, prI_mem]
    constructor
    · rintro (⟨h1, h2, h3⟩ | ⟨h1, h2, h3⟩)
      · exact ⟨by omega, h2, h3⟩
      · rw [← h1] at h3; exact ⟨by omega, h2, h3⟩
    · rintro ⟨h1, h2, h3⟩
      by_cases q : p.1 = n
      · right; rw [q] at h3; exact ⟨q, h2, h3⟩
      · left; exact ⟨by omega, h2, h3⟩
theorem zE_t {w h : Nat} {g st : Nat → Nat} {s t : Nat} : zE w h g st s t = true ↔ s < t ∧ zPr w h g st s t = true := by unfold zE; simp
theorem prL_mem {w h : Nat} {g st : Nat → Nat} {p : Nat × Nat} : p ∈ prL w h g st ↔ p.1 < p.2 ∧ p.2 < qN w h st ∧ zPr w h g st p.1 p.2 = true := by
  unfold prL
  rw [prO_mem, zE_t]
  constructor
  · rintro ⟨h1, h2, h3, h4⟩; exact ⟨h3, h2, h4⟩
  · rintro ⟨h1, h2, h3⟩; exact ⟨by omega, h2, h1, h3⟩
theorem prI_len {w h : Nat} {g st : Nat → Nat} {s : Nat} : ∀ (n : Nat), (prI w h g st s n).length = fb_sm (fun t => if zE w h g st s t then 1 else 0) n
  | 0 => rfl
  | n + 1 => by
    rw [prI_s, List.length_append, prI_len n, fb_sm_succ]
    split <;> rfl
theorem prO_len {w h : Nat} {g st : Nat → Nat} : ∀ (n : Nat), (prO w h g st n).length = fb_sm (fun s => fb_sm (fun t => if zE w h g st s t then 1 else 0) (qN w h st)) n
  | 0 => rfl
  | n + 1 => by rw [prO_s, List.length_append, prO_len n, fb_sm_succ, prI_len]
theorem prI_mono {w h : Nat} {g st : Nat → Nat} {s a : Nat} : ∀ (d : Nat), (prI w h g st s a).length ≤ (prI w h g st s (a + d)).length
  | 0 => Nat.le_refl _
  | d + 1 => by
    rw [show a + (d + 1) = (a + d) + 1 by omega, prI_s, List.length_append]
    have := prI_mono (w := w) (h := h) (g := g) (st := st) (s := s) (a := a) d
    omega
theorem prO_mono {w h : Nat} {g st : Nat → Nat} {a : Nat} : ∀ (d : Nat), (prO w h g st a).length ≤ (prO w h g st (a + d)).length
  | 0 => Nat.le_refl _
  | d + 1 => by
    rw [show a + (d + 1) = (a + d) + 1 by omega, prO_s, List.length_append]
    have := prO_mono (w := w) (h := h) (g := g) (st := st) (a := a) d
    omega
theorem pr_pre {w h : Nat} {g st : Nat → Nat} {s t : Nat} (hs : s < qN w h st) (ht : t ≤ qN w h st) : (prO w h g st s ++ prI w h g st s t).length ≤ (prL w h g st).length := by
  have h1 := prI_mono (w := w) (h := h) (g := g) (st := st) (s := s) (a := t) (qN w h st - t)
  have h2 := prO_mono (w := w) (h := h) (g := g) (st := st) (a := s + 1) (qN w h st - (s + 1))
  rw [show t + (qN w h st - t) = qN w h st by omega] at h1
  rw [show s + 1 + (qN w h st - (s + 1)) = qN w h st by omega, prO_s, List.length_append] at h2
  rw [List.length_append]
  unfold prL
  omega
theorem sm_swap (e : Nat → Nat → Nat) (m : Nat) : ∀ n, fb_sm (fun s => fb_sm (fun t => e s t) m) n = fb_sm (fun t => fb_sm (fun s => e s t) n) m
  | 0 => by
    have : fb_sm (fun _ => 0) m = m * 0 := fb_sm_const 0 m
    rw [Nat.mul_zero] at this
    exact this.symm
  | n + 1 => by rw [fb_sm_succ, sm_swap e m n, ← fb_sm_add]; rfl
theorem pr_2137 {w h : Nat} {g st : Nat → Nat} (ho : OKs st) (hw : w ≤ 16) (hh : h ≤ 16) : (prL w h g st).length ≤ 2137 := by
  have hN := qN_225 (w := w) (h := h) ho hw hh
  have hc := ho.crowd
  unfold prL
  have h1 := prO_len (w := w) (h := h) (g := g) (st := st) (qN w h st)
  have h2 := sm_swap (fun s t => if zE w h g st s t then 1 else 0) (qN w h st) (qN w h st)
  have h3 := fb_sm_add (fun s => fb_sm (fun t => if zE w h g st s t then 1 else 0) (qN w h st)) (fun s => fb_sm (fun t => if zE w h g st t s then 1 else 0) (qN w h st)) (qN w h st)
  have h4 : fb_sm (fun s => fb_sm (fun t => if zE w h g st s t then 1 else 0) (qN w h st) + fb_sm (fun t => if zE w h g st t s then 1 else 0) (qN w h st)) (qN w h st) ≤ qN w h st * 19 := by
    refine fb_sm_bound (fun s hs => ?_)
    rw [← fb_sm_add]
    by_cases e : zR w h g st s = 0
    · have e1 : zF w g st s = 0 := (zR_0.mp e).1
      have e2 : nlP (qN w h st) (zK w g st) (zF w g st) s ≤ st 5 := by
        unfold zR roP at e
        rw [if_neg (by omega)] at e
        by_cases q : st 5 < nlP (qN w h st) (zK w g st) (zF w g st) s
        · rw [if_pos q] at e; omega
        · omega
      have e3 := fb_sm_upd (fun t => if zK w g st t = zK w g st s then 1 - zF w g st t else 0) 0 hs
      have e4 : fb_sm (fun t => (if zE w h g st s t then 1 else 0) + (if zE w h g st t s then 1 else 0)) (qN w h st) ≤ fb_sm (fun k => if k = s then 0 else if zK w g st k = zK w g st s then 1 - zF w g st k else 0) (qN w h st) := by
        refine fb_sm_le (fun t ht => ?_)
        by_cases q1 : t = s
        · subst q1
          have : zE w h g st t t = false := by unfold zE; simp
          rw [this, if_pos rfl]; simp
        · rw [if_neg q1]
          by_cases q2 : zE w h g st s t = true
          · have q3 : zE w h g st t s = false := by
              have := (zE_t.mp q2).1
              unfold zE; simp; omega
            have q4 := (zE_t.mp q2).2
            unfold zPr at q4
            simp at q4
            rw [if_pos q2, q3, if_pos q4.1.1.symm, (zR_0.mp q4.2.1).1]
            simp
          · by_cases q3 : zE w h g st t s = true
            · have q4 := (zE_t.mp q3).2
              unfold zPr at q4
              simp at q4
              rw [if_neg q2, if_pos q3, if_pos q4.1.1, (zR_0.mp q4.1.2).1]
              simp
            · rw [if_neg q2, if_neg q3]; omega
      rw [if_pos rfl, e1] at e3
      unfold nlP at e2
      omega
    · have e4 : fb_sm (fun t => (if zE w h g st s t then 1 else 0) + (if zE w h g st t s then 1 else 0)) (qN w h st) ≤ fb_sm (fun _ => 0) (qN w h st) := by
        refine fb_sm_le (fun t ht => ?_)
        have q2 : ¬ zE w h g st s t = true := by
          intro q
          have q4 := (zE_t.mp q).2
          unfold zPr at q4
          simp at q4
          exact e q4.1.2
        have q3 : ¬ zE w h g st t s = true := by
          intro q
          have q4 := (zE_t.mp q).2
          unfold zPr at q4
          simp at q4
          exact e q4.2.1
        rw [if_neg q2, if_neg q3]
        omega
      rw [fb_sm_const] at e4
      omega
  omega
/-! arrays that hold a list -/
def RLs {α : Type} (z : α) (u : α → Nat) (L : List α) (c : Nat → Int32) : Prop := ∀ k, k < L.length → c k = nI (u (L.getD k z))
theorem getD_snoc {α : Type} {z p : α} {L : List α} {k : Nat} : (L ++ [p]).getD k z = if k < L.length then L.getD k z else if k = L.length then p else z := by
  rw [List.getD_eq_getElem?_getD, List.getD_eq_getElem?_getD]
  by_cases e : k < L.length
  · rw [if_pos e, List.getElem?_append_left e]
  · rw [if_neg e, List.getElem?_append_right (by omega)]
    by_cases e2 : k = L.length
    · rw [if_pos e2, e2, Nat.sub_self]; rfl
    · rw [if_neg e2]
      rw [List.getElem?_eq_none (by simp; omega)]
      rfl
theorem RLs_snoc {α : Type} {z p : α} {u : α → Nat} {L : List α} {c : Nat → Int32} (h : RLs z u L c) : RLs z u (L ++ [p]) (upd c L.length (nI (u p))) := by
  intro k hk
  rw [List.length_append] at hk
  simp at hk
  rw [getD_snoc]
  by_cases e : k = L.length
  · subst e; simp [upd]
  · simp only [upd, e, if_false]
    rw [if_pos (by omega)]
    exact h k (by omega)
/-! votes -/
def vtL (w : Nat) (st : Nat → Nat) (L : List (Nat × Nat)) (a d : Nat) : Nat := L.countP (fun p => decide (zX w st p.1 p.2 = a) && decide (zY w st p.1 p.2 = d))
theorem vt_snoc {w : Nat} {st : Nat → Nat} {L : List (Nat × Nat)} {p : Nat × Nat} {a d : Nat} : vtL w st (L ++ [p]) a d = vtL w st L a d + if zX w st p.1 p.2 = a ∧ zY w st p.1 p.2 = d then 1 else 0 := by
  unfold vtL
  rw [List.countP_append, List.countP_singleton]
  simp
theorem vt_le {w : Nat} {st : Nat → Nat} {L : List (Nat × Nat)} {a d : Nat} : vtL w st L a d ≤ L.length := List.countP_le_length
theorem ax_ok : ∀ a, a < 16 → ∀ b, b < 16 → (nI b - nI a) + 15 = nI (b + 15 - a) := by decide +kernel
theorem zX_31 {w : Nat} {st : Nat → Nat} {s t : Nat} : zX w st s t < 31 := by unfold zX; omega
theorem zY_16 {w h : Nat} {st : Nat → Nat} {s t : Nat} (ho : OKs st) (hw : w ≤ 16) (hh : h ≤ 16) (ht : t < qN w h st) : zY w st s t < 16 := by
  have := qP_256 ho hw hh ht
  unfold zY; omega
