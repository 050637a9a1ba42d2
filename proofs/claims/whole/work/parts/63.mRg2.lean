/-! regions: what they are -/
def rgS (W : Nat → Prop) : Nat → Nat → Prop
  | 0 => W
  | p + 1 => fun q => rgS W p q ∧ ¬ (rgS W p p ∧ Cl (rgS W p) (fun x => x = p) q)
def rgA (W : Nat → Nat → Prop) (e : Nat × Nat) : Nat → Prop := Cl (rgS (W e.1) e.2) (fun x => x = e.2)
noncomputable def rgI (W : Nat → Nat → Prop) (k : Nat) : Nat → List (Nat × Nat)
  | 0 => []
  | p + 1 => rgI W k p ++ (if dB (rgS (W k) p) p then [(k, p)] else [])
noncomputable def rgO (W : Nat → Nat → Prop) : Nat → List (Nat × Nat)
  | 0 => []
  | k + 1 => rgO W k ++ rgI W k 256
theorem rgS_s (W : Nat → Prop) (p q : Nat) : rgS W (p + 1) q ↔ rgS W p q ∧ ¬ (rgS W p p ∧ Cl (rgS W p) (fun x => x = p) q) := Iff.rfl
theorem rgI_s (W : Nat → Nat → Prop) (k p : Nat) : rgI W k (p + 1) = rgI W k p ++ (if dB (rgS (W k) p) p then [(k, p)] else []) := rfl
theorem rgO_s (W : Nat → Nat → Prop) (k : Nat) : rgO W (k + 1) = rgO W k ++ rgI W k 256 := rfl
theorem rgS_W {W : Nat → Prop} : ∀ {p q : Nat}, rgS W p q → W q
  | 0, _, h => h
  | p + 1, _, h => rgS_W (p := p) h.1
theorem rgA_in {W : Nat → Nat → Prop} {e : Nat × Nat} {q : Nat} (hp : rgS (W e.1) e.2 e.2) (h : rgA W e q) : rgS (W e.1) e.2 q := cl_in (fun x _ hx => by rw [hx]; exact hp) h
theorem rgI_mem {W : Nat → Nat → Prop} {k : Nat} {e : Nat × Nat} : ∀ (n : Nat), e ∈ rgI W k n ↔ e.1 = k ∧ e.2 < n ∧ rgS (W k) e.2 e.2
  | 0 => by simp [rgI]
  | n + 1 => by
    rw [rgI_s, List.mem_append, rgI_mem n]
    by_cases c : dB (rgS (W k) n) n = true
    · rw [if_pos c, List.mem_singleton]
      constructor
      · rintro (⟨h1, h2, h3⟩ | rfl)
        · exact ⟨h1, by omega, h3⟩
        · exact ⟨rfl, by simp, dB_t.mp c⟩
      · rintro ⟨h1, h2, h3⟩
        by_cases q : e.2 = n
        · right; subst h1 q; rfl
        · left; exact ⟨h1, by omega, h3⟩
    · rw [if_neg c]
      simp only [List.not_mem_nil, or_false]
      constructor
      · rintro ⟨h1, h2, h3⟩; exact ⟨h1, by omega, h3⟩
      · rintro ⟨h1, h2, h3⟩
        refine ⟨h1, ?_, h3⟩
        by_cases q : e.2 = n
        · rw [q] at h3; exact absurd (dB_t.mpr h3) c
        · omega
theorem rgO_mem {W : Nat → Nat → Prop} {e : Nat × Nat} : ∀ (n : Nat), e ∈ rgO W n ↔ e.1 < n ∧ e.2 < 256 ∧ rgS (W e.1) e.2 e.2
  | 0 => by simp [rgO]
  | n + 1 => by
    rw [rgO_s, List.mem_append, rgO_mem n, rgI_mem]
    constructor
    · rintro (⟨h1, h2, h3⟩ | ⟨h1, h2, h3⟩)
      · exact ⟨by omega, h2, h3⟩
      · rw [← h1] at h3; exact ⟨by omega, h2, h3⟩
    · rintro ⟨h1, h2, h3⟩
      by_cases q : e.1 = n
      · right; rw [q] at h3; exact ⟨q, h2, h3⟩
      · left; exact ⟨by omega, h2, h3⟩
/-- of two places side by side only one is the first of a region -/
theorem rgI_half {W : Nat → Nat → Prop} {k : Nat} : ∀ (m : Nat), m ≤ 128 → (rgI W k (2 * m)).length ≤ m
  | 0, _ => by simp [rgI]
  | m + 1, hm => by
    have ih := rgI_half (W := W) (k := k) m (by omega)
    rw [show 2 * (m + 1) = (2 * m + 1) + 1 by omega, rgI_s, rgI_s, List.length_append, List.length_append]
    by_cases c : dB (rgS (W k) (2 * m)) (2 * m) = true
    · have c' := dB_t.mp c
      have n : ¬ dB (rgS (W k) (2 * m + 1)) (2 * m + 1) = true := by
        intro z
        have z' := dB_t.mp z
        rw [rgS_s] at z'
        exact z'.2 ⟨c', cl_step (q := 2 * m) (by omega) (by omega) (cl_seed (by omega) rfl) (Or.inl ⟨rfl, by omega⟩) z'.1⟩
      rw [if_pos c, if_neg n]; simp; omega
    · rw [if_neg c]
      have : (if dB (rgS (W k) (2 * m + 1)) (2 * m + 1) = true then [(k, 2 * m + 1)] else []).length ≤ 1 := by split <;> simp
      simp only [List.length_nil]
      omega
theorem rgI_128 {W : Nat → Nat → Prop} {k : Nat} : (rgI W k 256).length ≤ 128 := rgI_half 128 (Nat.le_refl _)
theorem rgO_len {W : Nat → Nat → Prop} : ∀ (n : Nat), (rgO W n).length ≤ 128 * n
  | 0 => by simp [rgO]
  | n + 1 => by
    have := rgO_len (W := W) n
    have h2 := rgI_128 (W := W) (k := n)
    rw [rgO_s, List.length_append]
    omega
theorem rgI_mono {W : Nat → Nat → Prop} {k a : Nat} : ∀ (d : Nat), (rgI W k a).length ≤ (rgI W k (a + d)).length
  | 0 => Nat.le_refl _
  | d + 1 => by
    have := rgI_mono (W := W) (k := k) (a := a) d
    rw [show a + (d + 1) = (a + d) + 1 by omega, rgI_s, List.length_append]
    omega
theorem rg_1024 {W : Nat → Nat → Prop} {k p : Nat} (hk : k < 8) (hp : p ≤ 256) : (rgO W k ++ rgI W k p).length ≤ 1024 := by
  have h1 := rgO_len (W := W) k
  have h2 := rgI_mono (W := W) (k := k) (a := p) (256 - p)
  have h3 := rgI_128 (W := W) (k := k)
  rw [show p + (256 - p) = 256 by omega] at h2
  rw [List.length_append]
  omega
/-! the reference finds the regions -/
def MRg (W : Nat → Nat → Prop) (K k : Nat) (L : List (Nat × Nat)) (left : Nat → Prop) (c : Nat → Int32) (nr : Int32) (cs cp cf : Nat → Int32) : Prop :=
  nr = nI L.length ∧ RLs (0, 0) (fun e => e.1) L cs ∧ RLs (0, 0) (fun e => e.2) L cf ∧ RLs (0, 0) (fun e => cnt (rgA W e)) L cp ∧
  (∀ e, e ∈ L → e.1 ≤ k) ∧
  (∀ r, r < L.length → ∀ q, q < 256 → (c (256 * (L.getD r (0, 0)).1 + q) = nI r ↔ rgA W (L.getD r (0, 0)) q)) ∧
  (∀ q, q < 256 → (c (256 * k + q) = -1 ↔ left q)) ∧ (∀ k' q, k < k' → k' < K → q < 256 → (c (256 * k' + q) = -1 ↔ W k' q)) ∧
  (∀ k' q, k' < K → q < 256 → ∀ r, L.length ≤ r → r < 2147483648 → c (256 * k' + q) ≠ nI r)
theorem getD_mem {α : Type} {z : α} {L : List α} {k : Nat} (h : k < L.length) : L.getD k z ∈ L := by
  rw [List.getD_eq_getElem?_getD, List.getElem?_eq_getElem h]
  exact List.getElem_mem h
theorem m_fr200 {w h k K : Nat} {W : Nat → Nat → Prop} {kk : _} {P : _} (hw : w ≤ 16) (hh : h ≤ 16) (hw1 : 1 ≤ w) (hh1 : 1 ≤ h) (hK : K ≤ 8) (hk : k < K) (hIP : ∀ q, q < 256 → W k q → q % 16 < w ∧ q / 16 < h) :
    ∀ (d p fuel : Nat) (c : Nat → Int32) (nr : Int32) (cs cp cf : Nat → Int32), p + d = 256 → d < fuel → MRg W K k (rgO W k ++ rgI W k p) (rgS (W k) p) c nr cs cp cf →
      (∀ (z : Int32) (c : Nat → Int32) (nr : Int32) (cs cp cf : Nat → Int32), MRg W K k (rgO W (k + 1)) (rgS (W k) 256) c nr cs cp cf → Rt (kk z c nr cs cp cf) P) →
      Rt (f_X8_findRegions_L200 FU (nI k) (nI w) (nI h) kk fuel (nI p) c nr cs cp cf) P := by
  intro d
  induction d with
  | zero =>
    intro p fuel c nr cs cp cf e1 e2 hM hkk
    obtain ⟨f, rfl⟩ : ∃ f, fuel = f + 1 := ⟨fuel - 1, by omega⟩
    have ep : p = 256 := by omega
    subst ep
    rw [f_X8_findRegions_L200]
    exact rt_t (by rw [show (256 : Int32) = nI 256 from rfl]; exact (by rw [n_le (by omega) (by omega)]; omega)) (hkk _ _ _ _ _ _ hM)
  | succ d ih =>
    intro p fuel c nr cs cp cf e1 e2 hM hkk
    obtain ⟨f, rfl⟩ : ∃ f, fuel = f + 1 := ⟨fuel - 1, by omega⟩
    have hp : p < 256 := by omega
    rw [f_X8_findRegions_L200]
    refine rt_f (by rw [show (256 : Int32) = nI 256 from rfl]; exact (by rw [n_le (by omega) (by omega)]; omega)) ?_
    rw [show (256 : Int32) = nI 256 from rfl, pk_mul, nI_add, rd_ok (by omega) (by omega), nI_1]
    have hlen := rg_1024 (W := W) (k := k) (p := p + 1) (by omega) (by omega)
    obtain ⟨m1, m2, m3, m4, m5, m6, m7, m8, m9⟩ := hM
    have es := rgI_s W k p
    refine rt_if (fun c1 => ?_) (fun c1 => ?_)
    · have hl : rgS (W k) p p := (m7 p hp).mp c1
      rw [dB_t.mpr hl, if_pos rfl] at es
      rw [es, ← List.append_assoc] at hlen
      generalize eL : rgO W k ++ rgI W k p = L at *
      rw [List.length_append] at hlen
      simp only [List.length_singleton] at hlen
      subst m1
      rw [wr_ok (by omega) (by omega), wr_ok (by omega) (by omega), wr_ok (by omega) (by omega), wr_ok (by omega) (by omega)]
      have hR : ∀ q, q < 256 → c (256 * k + q) ≠ nI L.length := fun q hq => m9 k q hk hq L.length (Nat.le_refl _) (by omega)
      have hIP2 : ∀ q, q < 256 → c (256 * k + q) = -1 → q % 16 < w ∧ q / 16 < h := fun q hq z => hIP q hq (rgS_W ((m7 q hq).mp z))
      have c1s : cnt (fun x => x = p) = 1 := by
        have := cnt_add (A := fun _ => False) hp (fun z => z)
        have z0 : cnt (fun _ => False) = 0 := by
          unfold cnt; rw [fb_ct_zero]; intro q _; unfold dB; simp
        rw [z0] at this
        refine Eq.trans ?_ this
        exact cnt_cong (fun q _ => ⟨fun z => Or.inr z, fun z => z.resolve_left (fun y => y)⟩)
      have hcl : ∀ q, Cl (fun q => c (256 * k + q) = -1) (fun x => x = p) q ↔ rgA W (k, p) q := fun q => cl_cong (fun q hq => m7 q hq) (fun _ _ => Iff.rfl)
      refine rt_bd2 (Z := fun (q : (Nat → Int32) × (Nat → Int32)) => MA c q.1 k L.length (Cl (fun q => c (256 * k + q) = -1) (fun x => x = p)) ∧ q.2 L.length = nI (cnt (Cl (fun q => c (256 * k + q) = -1) (fun x => x = p))) ∧ ∀ r, r ≠ L.length → q.2 r = (upd cp L.length 1) r) ?_ ?_
      · unfold f_X8_spreads
        refine m_sp2 (S := fun x => x = p) hw hh hw1 hh1 (by omega) (by omega) hR hIP2 257 FU 1 _ _ (fun x => x = p) (by omega) (by unfold FU; omega) ?_ ?_ ?_ (fun _ _ => rfl) (fun _ _ z => z) (fun q hq z => cl_seed hq z) (Or.inl rfl)
        · refine ⟨fun q hq z => ?_, fun q hq z => ?_, fun k' q hk' hq => ?_⟩
          · subst z; simp [upd]
          · have ne : 256 * k + q ≠ 256 * k + p := fun y => z (by omega)
            simp only [upd, ne, if_false]
          · have ne : 256 * k' + q ≠ 256 * k + p := by omega
            simp only [upd, ne, if_false]
        · intro q hq z; subst z; exact c1
        · rw [c1s]; simp [upd]; rfl
      · intro a1 a2 hz
        obtain ⟨z1, z2, z3⟩ := hz
        dsimp only at z1 z2 z3
        rw [nI_1]
        refine ih (p + 1) f a1 _ _ _ _ (by omega) (by omega) ?_ hkk
        rw [es, ← List.append_assoc, eL]
        refine ⟨by simp, RLs_snoc (p := (k, p)) m2, RLs_snoc (p := (k, p)) m3, ?_, ?_, ?_, ?_, ?_, ?_⟩
        · intro r hr
          rw [List.length_append] at hr
          simp at hr
          rw [getD_snoc]
          by_cases e : r = L.length
          · subst e
            rw [z2, if_neg (Nat.lt_irrefl _), if_pos rfl]
            exact congrArg nI (cnt_cong (fun q _ => hcl q))
          · rw [z3 r e, if_pos (by omega)]
            simp only [upd, e, if_false]
            exact m4 r (by omega)
        · intro e he
          rw [List.mem_append, List.mem_singleton] at he
          rcases he with he | he
          · exact m5 e he
          · rw [he]; exact Nat.le_refl _
        · intro r hr q hq
          rw [List.length_append] at hr
          simp at hr
          rw [getD_snoc]
          by_cases e : r = L.length
          · subst e
            rw [if_neg (Nat.lt_irrefl _), if_pos rfl, ma_R z1 hR hq]
            exact hcl q
          · have hr2 : r < L.length := by omega
            rw [if_pos hr2, ← m6 r hr2 q hq]
            have hle := m5 _ (getD_mem (z := (0, 0)) hr2)
            generalize L.getD r (0, 0) = e' at *
            by_cases ek : e'.1 = k
            · rw [ek]
              by_cases ha : Cl (fun q => c (256 * k + q) = -1) (fun x => x = p) q
              · rw [z1.1 q hq ha]
                have hc2 : c (256 * k + q) = -1 := cl_in (O := fun q => c (256 * k + q) = -1) (fun x _ hx => by rw [hx]; exact c1) ha
                rw [hc2, n_inj (by omega) (by omega)]
                exact ⟨fun y => by omega, fun y => absurd y.symm (nI_nm1 (by omega)).1⟩
              · rw [z1.2.1 q hq ha]
            · rw [z1.2.2 e'.1 q ek hq]
        · intro q hq
          rw [ma_m1 z1 (by omega) hq, rgS_s, m7 q hq]
          constructor
          · rintro ⟨y1, y2⟩; exact ⟨y1, fun y => y2 ((hcl q).mpr y.2)⟩
          · rintro ⟨y1, y2⟩; exact ⟨y1, fun y => y2 ⟨hl, (hcl q).mp y⟩⟩
        · intro k' q h1 h2 hq
          rw [z1.2.2 k' q (by omega) hq]
          exact m8 k' q h1 h2 hq
        · intro k' q h1 hq r hr hr2
          rw [List.length_append] at hr
          simp at hr
          by_cases ek : k' = k
          · subst ek
            by_cases ha : Cl (fun q => c (256 * k' + q) = -1) (fun x => x = p) q
            · rw [z1.1 q hq ha]
              intro y; rw [n_inj (by omega) (by omega)] at y; omega
            · rw [z1.2.1 q hq ha]; exact m9 k' q h1 hq r (by omega) hr2
          · rw [z1.2.2 k' q ek hq]; exact m9 k' q h1 hq r (by omega) hr2
    · have hl : ¬ rgS (W k) p p := fun z => c1 ((m7 p hp).mpr z)
      have hl2 : dB (rgS (W k) p) p = false := by
        cases e : dB (rgS (W k) p) p
        · rfl
        · exact absurd (dB_t.mp e) hl
      rw [hl2] at es
      refine ih (p + 1) f c nr cs cp cf (by omega) (by omega) ?_ hkk
      rw [es]
      simp only [Bool.false_eq_true, if_false, List.append_nil]
      refine ⟨m1, m2, m3, m4, m5, m6, fun q hq => ?_, m8, m9⟩
      rw [m7 q hq, rgS_s]
      exact ⟨fun y => ⟨y, fun z => hl z.1⟩, fun y => y.1⟩
theorem m_fr190 {w h K : Nat} {W : Nat → Nat → Prop} {kk : _} {P : _} (hw : w ≤ 16) (hh : h ≤ 16) (hw1 : 1 ≤ w) (hh1 : 1 ≤ h) (hK : K ≤ 8) (hIP : ∀ k q, k < K → q < 256 → W k q → q % 16 < w ∧ q / 16 < h) :
    ∀ (d k fuel : Nat) (c : Nat → Int32) (nr : Int32) (cs cp cf : Nat → Int32), k + d = K → d < fuel →
      (nr = nI (rgO W k).length ∧ RLs (0, 0) (fun e => e.1) (rgO W k) cs ∧ RLs (0, 0) (fun e => e.2) (rgO W k) cf ∧ RLs (0, 0) (fun e => cnt (rgA W e)) (rgO W k) cp ∧
        (∀ r, r < (rgO W k).length → ∀ q, q < 256 → (c (256 * ((rgO W k).getD r (0, 0)).1 + q) = nI r ↔ rgA W ((rgO W k).getD r (0, 0)) q)) ∧
        (∀ k' q, k ≤ k' → k' < K → q < 256 → (c (256 * k' + q) = -1 ↔ W k' q)) ∧
        (∀ k' q, k' < K → q < 256 → ∀ r, (rgO W k).length ≤ r → r < 2147483648 → c (256 * k' + q) ≠ nI r)) →
      (∀ (z : Int32) (c : Nat → Int32) (nr : Int32) (cs cp cf : Nat → Int32), nr = nI (rgO W K).length → RLs (0, 0) (fun e => e.1) (rgO W K) cs → RLs (0, 0) (fun e => e.2) (rgO W K) cf → RLs (0, 0) (fun e => cnt (rgA W e)) (rgO W K) cp →
        (∀ r, r < (rgO W K).length → ∀ q, q < 256 → (c (256 * ((rgO W K).getD r (0, 0)).1 + q) = nI r ↔ rgA W ((rgO W K).getD r (0, 0)) q)) → Rt (kk z c nr cs cp cf) P) →
      Rt (f_X8_findRegions_L190 FU (nI w) (nI h) (nI K) kk fuel (nI k) c nr cs cp cf) P := by
  intro d
  induction d with
  | zero =>
    intro k fuel c nr cs cp cf e1 e2 hM hkk
    obtain ⟨f, rfl⟩ : ∃ f, fuel = f + 1 := ⟨fuel - 1, by omega⟩
    have ek : k = K := by omega
    subst ek
    obtain ⟨m1, m2, m3, m4, m6, m8, m9⟩ := hM
    rw [f_X8_findRegions_L190]
    exact rt_t (by rw [n_le (by omega) (by omega)]; omega) (hkk _ _ _ _ _ _ m1 m2 m3 m4 m6)
  | succ d ih =>
    intro k fuel c nr cs cp cf e1 e2 hM hkk
    obtain ⟨f, rfl⟩ : ∃ f, fuel = f + 1 := ⟨fuel - 1, by omega⟩
    obtain ⟨m1, m2, m3, m4, m6, m8, m9⟩ := hM
    rw [f_X8_findRegions_L190]
    refine rt_f (by rw [n_le (by omega) (by omega)]; omega) ?_
    refine m_fr200 (W := W) hw hh hw1 hh1 hK (by omega : k < K) (fun q hq z => hIP k q (by omega) hq z) 256 0 FU c nr cs cp cf (by omega) (by unfold FU; omega) ?_ ?_
    · show MRg W K k (rgO W k ++ []) (W k) c nr cs cp cf
      rw [List.append_nil]
      exact ⟨m1, m2, m3, m4, fun e he => by have := ((rgO_mem k).mp he).1; omega, m6, fun q hq => m8 k q (by omega) (by omega) hq, fun k' q h1 h2 hq => m8 k' q (by omega) h2 hq, m9⟩
    · intro z c nr cs cp cf hz
      obtain ⟨m1, m2, m3, m4, m5, m6, m7, m8, m9⟩ := hz
      rw [nI_1]
      exact ih (k + 1) f c nr cs cp cf (by omega) (by omega) ⟨m1, m2, m3, m4, m6, fun k' q h1 h2 hq => m8 k' q (by omega) h2 hq, m9⟩ hkk
