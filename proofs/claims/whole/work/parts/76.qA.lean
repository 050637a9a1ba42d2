/-! reaching, with what it gives -/
theorem c_reach1 {w h rc : Nat} {g st : Nat → Nat} {c_greys c_settings : Nat → Int32} {c_reached : Int32} {c_order : Nat → Int32} {c_merged : Nat → Int32} {c_least : Nat → Int32} {c_greatest : Nat → Int32} {c_role : Nat → Int32} {c_head : Nat → Int64} {c_tail : Nat → Int64} {c_rank : Nat → Int32} {c_kindFrom : Nat → Int32} {c_kindTo : Nat → Int32} {c_side : Int32} {c_across : Int32} {c_down : Int32} {c_count : Int32} {c_flats : Int32} {c_crowded : Int32} {c_kinds : Int32} {c_first : Nat → Int32} {c_second : Nat → Int32} {c_pairs : Int32} {c_pairsWith : Nat → Int32} {c_voted : Nat → Int32} {c_ways : Nat → Int32} {c_shcount : Int32} {c_numberOfWay : Nat → Int32} {c_list : Nat → Nat} {c_fcount : Int32} {c_regions : Nat → Int32} {c_left : Nat → Nat → Int32} {c_open : Nat → Int32} {c_frows : Nat → Nat → Int32} {c_fshift : Nat → Int32} {c_fdx : Nat → Int32} {c_fdy : Nat → Int32} {c_fleastPlace : Nat → Int32} {c_fpairs : Nat → Int32} {c_foffset : Nat → Int32} {c_fplacesFirst : Nat → Int32} {c_fplaces : Nat → Int32} (hC : Cor w h g st c_greys c_settings) (hS : CSv w h g st rc c_reached c_order c_merged c_least c_greatest c_role c_head c_tail c_rank c_kindFrom c_kindTo c_side c_across c_down c_count c_flats c_crowded c_kinds c_first c_second c_pairs c_pairsWith c_voted c_ways c_shcount c_numberOfWay c_list c_fcount c_regions c_left c_open c_frows c_fshift c_fdx c_fdy c_fleastPlace c_fpairs c_foffset c_fplacesFirst c_fplaces) :
    ∃ (rc' : Nat) (c_reached' : Int32) (c_order' : Nat → Int32) (c_merged' : Nat → Int32) (c_least' : Nat → Int32) (c_greatest' : Nat → Int32) (c_role' : Nat → Int32) (c_head' : Nat → Int64) (c_tail' : Nat → Int64) (c_rank' : Nat → Int32) (c_kindFrom' : Nat → Int32) (c_kindTo' : Nat → Int32) (c_side' : Int32) (c_across' : Int32) (c_down' : Int32) (c_count' : Int32) (c_flats' : Int32) (c_crowded' : Int32) (c_kinds' : Int32) (c_first' : Nat → Int32) (c_second' : Nat → Int32) (c_pairs' : Int32) (c_pairsWith' : Nat → Int32) (c_voted' : Nat → Int32) (c_ways' : Nat → Int32) (c_shcount' : Int32) (c_numberOfWay' : Nat → Int32) (c_list' : Nat → Nat) (c_fcount' : Int32) (c_regions' : Nat → Int32) (c_left' : Nat → Nat → Int32) (c_open' : Nat → Int32) (c_frows' : Nat → Nat → Int32) (c_fshift' : Nat → Int32) (c_fdx' : Nat → Int32) (c_fdy' : Nat → Int32) (c_fleastPlace' : Nat → Int32) (c_fpairs' : Nat → Int32) (c_foffset' : Nat → Int32) (c_fplacesFirst' : Nat → Int32) (c_fplaces' : Nat → Int32), f_X6_reach FU c_greys (nI w) (nI h) c_settings c_reached c_order c_merged c_least c_greatest c_role c_head c_tail c_rank c_kindFrom c_kindTo c_side c_across c_down c_count c_flats c_crowded c_kinds c_first c_second c_pairs c_pairsWith c_voted c_ways c_shcount c_numberOfWay c_list c_fcount c_regions c_left c_open c_frows c_fshift c_fdx c_fdy c_fleastPlace c_fpairs c_foffset c_fplacesFirst c_fplaces 1 = some (c_reached', c_order', c_merged', c_least', c_greatest', c_role', c_head', c_tail', c_rank', c_kindFrom', c_kindTo', c_side', c_across', c_down', c_count', c_flats', c_crowded', c_kinds', c_first', c_second', c_pairs', c_pairsWith', c_voted', c_ways', c_shcount', c_numberOfWay', c_list', c_fcount', c_regions', c_left', c_open', c_frows', c_fshift', c_fdx', c_fdy', c_fleastPlace', c_fpairs', c_foffset', c_fplacesFirst', c_fplaces') ∧ 1 ≤ rc' ∧ CSv w h g st rc' c_reached' c_order' c_merged' c_least' c_greatest' c_role' c_head' c_tail' c_rank' c_kindFrom' c_kindTo' c_side' c_across' c_down' c_count' c_flats' c_crowded' c_kinds' c_first' c_second' c_pairs' c_pairsWith' c_voted' c_ways' c_shcount' c_numberOfWay' c_list' c_fcount' c_regions' c_left' c_open' c_frows' c_fshift' c_fdx' c_fdy' c_fleastPlace' c_fpairs' c_foffset' c_fplacesFirst' c_fplaces' := by
  obtain ⟨q, e, c_reached', c_order', c_merged', c_least', c_greatest', c_role', c_head', c_tail', c_rank', c_kindFrom', c_kindTo', c_side', c_across', c_down', c_count', c_flats', c_crowded', c_kinds', c_first', c_second', c_pairs', c_pairsWith', c_voted', c_ways', c_shcount', c_numberOfWay', c_list', c_fcount', c_regions', c_left', c_open', c_frows', c_fshift', c_fdx', c_fdy', c_fleastPlace', c_fpairs', c_foffset', c_fplacesFirst', c_fplaces', eq, h1⟩ := c_reach hC hS 1 (by omega) (by omega)
  subst eq
  exact ⟨max rc 1, _, _, _, _, _, _, _, _, _, _, _, _, _, _, _, _, _, _, _, _, _, _, _, _, _, _, _, _, _, _, _, _, _, _, _, _, _, _, _, _, e, by omega, h1⟩
theorem c_reach2 {w h rc : Nat} {g st : Nat → Nat} {c_greys c_settings : Nat → Int32} {c_reached : Int32} {c_order : Nat → Int32} {c_merged : Nat → Int32} {c_least : Nat → Int32} {c_greatest : Nat → Int32} {c_role : Nat → Int32} {c_head : Nat → Int64} {c_tail : Nat → Int64} {c_rank : Nat → Int32} {c_kindFrom : Nat → Int32} {c_kindTo : Nat → Int32} {c_side : Int32} {c_across : Int32} {c_down : Int32} {c_count : Int32} {c_flats : Int32} {c_crowded : Int32} {c_kinds : Int32} {c_first : Nat → Int32} {c_second : Nat → Int32} {c_pairs : Int32} {c_pairsWith : Nat → Int32} {c_voted : Nat → Int32} {c_ways : Nat → Int32} {c_shcount : Int32} {c_numberOfWay : Nat → Int32} {c_list : Nat → Nat} {c_fcount : Int32} {c_regions : Nat → Int32} {c_left : Nat → Nat → Int32} {c_open : Nat → Int32} {c_frows : Nat → Nat → Int32} {c_fshift : Nat → Int32} {c_fdx : Nat → Int32} {c_fdy : Nat → Int32} {c_fleastPlace : Nat → Int32} {c_fpairs : Nat → Int32} {c_foffset : Nat → Int32} {c_fplacesFirst : Nat → Int32} {c_fplaces : Nat → Int32} (hC : Cor w h g st c_greys c_settings) (hS : CSv w h g st rc c_reached c_order c_merged c_least c_greatest c_role c_head c_tail c_rank c_kindFrom c_kindTo c_side c_across c_down c_count c_flats c_crowded c_kinds c_first c_second c_pairs c_pairsWith c_voted c_ways c_shcount c_numberOfWay c_list c_fcount c_regions c_left c_open c_frows c_fshift c_fdx c_fdy c_fleastPlace c_fpairs c_foffset c_fplacesFirst c_fplaces) :
    ∃ (rc' : Nat) (c_reached' : Int32) (c_order' : Nat → Int32) (c_merged' : Nat → Int32) (c_least' : Nat → Int32) (c_greatest' : Nat → Int32) (c_role' : Nat → Int32) (c_head' : Nat → Int64) (c_tail' : Nat → Int64) (c_rank' : Nat → Int32) (c_kindFrom' : Nat → Int32) (c_kindTo' : Nat → Int32) (c_side' : Int32) (c_across' : Int32) (c_down' : Int32) (c_count' : Int32) (c_flats' : Int32) (c_crowded' : Int32) (c_kinds' : Int32) (c_first' : Nat → Int32) (c_second' : Nat → Int32) (c_pairs' : Int32) (c_pairsWith' : Nat → Int32) (c_voted' : Nat → Int32) (c_ways' : Nat → Int32) (c_shcount' : Int32) (c_numberOfWay' : Nat → Int32) (c_list' : Nat → Nat) (c_fcount' : Int32) (c_regions' : Nat → Int32) (c_left' : Nat → Nat → Int32) (c_open' : Nat → Int32) (c_frows' : Nat → Nat → Int32) (c_fshift' : Nat → Int32) (c_fdx' : Nat → Int32) (c_fdy' : Nat → Int32) (c_fleastPlace' : Nat → Int32) (c_fpairs' : Nat → Int32) (c_foffset' : Nat → Int32) (c_fplacesFirst' : Nat → Int32) (c_fplaces' : Nat → Int32), f_X6_reach FU c_greys (nI w) (nI h) c_settings c_reached c_order c_merged c_least c_greatest c_role c_head c_tail c_rank c_kindFrom c_kindTo c_side c_across c_down c_count c_flats c_crowded c_kinds c_first c_second c_pairs c_pairsWith c_voted c_ways c_shcount c_numberOfWay c_list c_fcount c_regions c_left c_open c_frows c_fshift c_fdx c_fdy c_fleastPlace c_fpairs c_foffset c_fplacesFirst c_fplaces 2 = some (c_reached', c_order', c_merged', c_least', c_greatest', c_role', c_head', c_tail', c_rank', c_kindFrom', c_kindTo', c_side', c_across', c_down', c_count', c_flats', c_crowded', c_kinds', c_first', c_second', c_pairs', c_pairsWith', c_voted', c_ways', c_shcount', c_numberOfWay', c_list', c_fcount', c_regions', c_left', c_open', c_frows', c_fshift', c_fdx', c_fdy', c_fleastPlace', c_fpairs', c_foffset', c_fplacesFirst', c_fplaces') ∧ 2 ≤ rc' ∧ CSv w h g st rc' c_reached' c_order' c_merged' c_least' c_greatest' c_role' c_head' c_tail' c_rank' c_kindFrom' c_kindTo' c_side' c_across' c_down' c_count' c_flats' c_crowded' c_kinds' c_first' c_second' c_pairs' c_pairsWith' c_voted' c_ways' c_shcount' c_numberOfWay' c_list' c_fcount' c_regions' c_left' c_open' c_frows' c_fshift' c_fdx' c_fdy' c_fleastPlace' c_fpairs' c_foffset' c_fplacesFirst' c_fplaces' := by
  obtain ⟨q, e, c_reached', c_order', c_merged', c_least', c_greatest', c_role', c_head', c_tail', c_rank', c_kindFrom', c_kindTo', c_side', c_across', c_down', c_count', c_flats', c_crowded', c_kinds', c_first', c_second', c_pairs', c_pairsWith', c_voted', c_ways', c_shcount', c_numberOfWay', c_list', c_fcount', c_regions', c_left', c_open', c_frows', c_fshift', c_fdx', c_fdy', c_fleastPlace', c_fpairs', c_foffset', c_fplacesFirst', c_fplaces', eq, h1⟩ := c_reach hC hS 2 (by omega) (by omega)
  subst eq
  exact ⟨max rc 2, _, _, _, _, _, _, _, _, _, _, _, _, _, _, _, _, _, _, _, _, _, _, _, _, _, _, _, _, _, _, _, _, _, _, _, _, _, _, _, _, e, by omega, h1⟩
theorem c_reach3 {w h rc : Nat} {g st : Nat → Nat} {c_greys c_settings : Nat → Int32} {c_reached : Int32} {c_order : Nat → Int32} {c_merged : Nat → Int32} {c_least : Nat → Int32} {c_greatest : Nat → Int32} {c_role : Nat → Int32} {c_head : Nat → Int64} {c_tail : Nat → Int64} {c_rank : Nat → Int32} {c_kindFrom : Nat → Int32} {c_kindTo : Nat → Int32} {c_side : Int32} {c_across : Int32} {c_down : Int32} {c_count : Int32} {c_flats : Int32} {c_crowded : Int32} {c_kinds : Int32} {c_first : Nat → Int32} {c_second : Nat → Int32} {c_pairs : Int32} {c_pairsWith : Nat → Int32} {c_voted : Nat → Int32} {c_ways : Nat → Int32} {c_shcount : Int32} {c_numberOfWay : Nat → Int32} {c_list : Nat → Nat} {c_fcount : Int32} {c_regions : Nat → Int32} {c_left : Nat → Nat → Int32} {c_open : Nat → Int32} {c_frows : Nat → Nat → Int32} {c_fshift : Nat → Int32} {c_fdx : Nat → Int32} {c_fdy : Nat → Int32} {c_fleastPlace : Nat → Int32} {c_fpairs : Nat → Int32} {c_foffset : Nat → Int32} {c_fplacesFirst : Nat → Int32} {c_fplaces : Nat → Int32} (hC : Cor w h g st c_greys c_settings) (hS : CSv w h g st rc c_reached c_order c_merged c_least c_greatest c_role c_head c_tail c_rank c_kindFrom c_kindTo c_side c_across c_down c_count c_flats c_crowded c_kinds c_first c_second c_pairs c_pairsWith c_voted c_ways c_shcount c_numberOfWay c_list c_fcount c_regions c_left c_open c_frows c_fshift c_fdx c_fdy c_fleastPlace c_fpairs c_foffset c_fplacesFirst c_fplaces) :
    ∃ (rc' : Nat) (c_reached' : Int32) (c_order' : Nat → Int32) (c_merged' : Nat → Int32) (c_least' : Nat → Int32) (c_greatest' : Nat → Int32) (c_role' : Nat → Int32) (c_head' : Nat → Int64) (c_tail' : Nat → Int64) (c_rank' : Nat → Int32) (c_kindFrom' : Nat → Int32) (c_kindTo' : Nat → Int32) (c_side' : Int32) (c_across' : Int32) (c_down' : Int32) (c_count' : Int32) (c_flats' : Int32) (c_crowded' : Int32) (c_kinds' : Int32) (c_first' : Nat → Int32) (c_second' : Nat → Int32) (c_pairs' : Int32) (c_pairsWith' : Nat → Int32) (c_voted' : Nat → Int32) (c_ways' : Nat → Int32) (c_shcount' : Int32) (c_numberOfWay' : Nat → Int32) (c_list' : Nat → Nat) (c_fcount' : Int32) (c_regions' : Nat → Int32) (c_left' : Nat → Nat → Int32) (c_open' : Nat → Int32) (c_frows' : Nat → Nat → Int32) (c_fshift' : Nat → Int32) (c_fdx' : Nat → Int32) (c_fdy' : Nat → Int32) (c_fleastPlace' : Nat → Int32) (c_fpairs' : Nat → Int32) (c_foffset' : Nat → Int32) (c_fplacesFirst' : Nat → Int32) (c_fplaces' : Nat → Int32), f_X6_reach FU c_greys (nI w) (nI h) c_settings c_reached c_order c_merged c_least c_greatest c_role c_head c_tail c_rank c_kindFrom c_kindTo c_side c_across c_down c_count c_flats c_crowded c_kinds c_first c_second c_pairs c_pairsWith c_voted c_ways c_shcount c_numberOfWay c_list c_fcount c_regions c_left c_open c_frows c_fshift c_fdx c_fdy c_fleastPlace c_fpairs c_foffset c_fplacesFirst c_fplaces 3 = some (c_reached', c_order', c_merged', c_least', c_greatest', c_role', c_head', c_tail', c_rank', c_kindFrom', c_kindTo', c_side', c_across', c_down', c_count', c_flats', c_crowded', c_kinds', c_first', c_second', c_pairs', c_pairsWith', c_voted', c_ways', c_shcount', c_numberOfWay', c_list', c_fcount', c_regions', c_left', c_open', c_frows', c_fshift', c_fdx', c_fdy', c_fleastPlace', c_fpairs', c_foffset', c_fplacesFirst', c_fplaces') ∧ 3 ≤ rc' ∧ CSv w h g st rc' c_reached' c_order' c_merged' c_least' c_greatest' c_role' c_head' c_tail' c_rank' c_kindFrom' c_kindTo' c_side' c_across' c_down' c_count' c_flats' c_crowded' c_kinds' c_first' c_second' c_pairs' c_pairsWith' c_voted' c_ways' c_shcount' c_numberOfWay' c_list' c_fcount' c_regions' c_left' c_open' c_frows' c_fshift' c_fdx' c_fdy' c_fleastPlace' c_fpairs' c_foffset' c_fplacesFirst' c_fplaces' := by
  obtain ⟨q, e, c_reached', c_order', c_merged', c_least', c_greatest', c_role', c_head', c_tail', c_rank', c_kindFrom', c_kindTo', c_side', c_across', c_down', c_count', c_flats', c_crowded', c_kinds', c_first', c_second', c_pairs', c_pairsWith', c_voted', c_ways', c_shcount', c_numberOfWay', c_list', c_fcount', c_regions', c_left', c_open', c_frows', c_fshift', c_fdx', c_fdy', c_fleastPlace', c_fpairs', c_foffset', c_fplacesFirst', c_fplaces', eq, h1⟩ := c_reach hC hS 3 (by omega) (by omega)
  subst eq
  exact ⟨max rc 3, _, _, _, _, _, _, _, _, _, _, _, _, _, _, _, _, _, _, _, _, _, _, _, _, _, _, _, _, _, _, _, _, _, _, _, _, _, _, _, _, e, by omega, h1⟩
/-! one of n -/
theorem wi_cn {FU N n : Nat} {x : Int32} (hN : N < 2147483648) (h : n < N) (e : x = nI n) : f_X8_within FU x 0 (nI N - 1) = some 1 := by
  rw [nI_1s (by omega)]
  exact wi_in (a := 0) (b := N - 1) (n := n) (by omega) ⟨by omega, by omega, e⟩
theorem wi_cf {FU N : Nat} {x : Int32} (hN : N < 2147483648) (h : ∀ n, n < N → x ≠ nI n) : f_X8_within FU x 0 (nI N - 1) = some 0 := by
  rcases Nat.eq_zero_or_pos N with e | e
  · subst e
    refine wi_f ?_
    rw [i_lt, i_lt, show (nI 0 - 1 : Int32).toInt = -1 by decide, show (0 : Int32).toInt = 0 by decide]
    omega
  · rw [nI_1s (by omega)]
    exact wi_out (a := 0) (b := N - 1) (by omega) (by omega) (fun n hn => h n (by have := hn.2.1; omega) hn.2.2)
/-! the class's numbers -/
theorem pf_shr63 {a d : Nat} {D : Int64} (hD : (D.toBitVec.smod 64).toNat = d) (h : a < 2 ^ 63) : lN a >>> D = lN (a / 2 ^ d) := by
  have hd : a / 2 ^ d ≤ a := Nat.div_le_self _ _
  apply Int64.toInt_inj.mp
  have e : (lN a >>> D).toInt = (lN a).toInt >>> d := by
    rw [← hD]
    exact BitVec.toInt_sshiftRight ..
  rw [e, Int.shiftRight_eq_div_pow, pf_lI (by omega), pf_lI (by omega)]
  rfl
theorem sh_amt : ∀ m, m < 9 → (((7 * nI m).toInt64 &&& 63).toBitVec.smod 64).toNat = 7 * m := by decide +kernel
theorem lo7 (n : Nat) : (lN n).toInt32 &&& 127 = nI (n % 128) := by
  have e : (lN n).toInt32 = nI n := Int64.toInt32_ofNat'
  rw [e, show (127 : Int32) = nI 127 from rfl, nx_and]
  congr 1
  exact Nat.and_two_pow_sub_one_eq_mod n 7
theorem pkr_at {f : Nat → Nat} {a : Nat} : ∀ (d i : Nat), i < d → (∀ i, i < d → f (a + i) < 128) → pkr f a d / 2 ^ (7 * (d - 1 - i)) % 128 = f (a + i)
  | 0, i, h, _ => by omega
  | d + 1, i, h, hf => by
    rw [pkr_s]
    by_cases e : i = d
    · subst e
      have := hf i (by omega)
      rw [show i + 1 - 1 - i = 0 by omega, Nat.mul_zero, Nat.pow_zero, Nat.div_one]
      omega
    · have ih := pkr_at d i (by omega) (fun i hi => hf i (by omega))
      rw [show 7 * (d + 1 - 1 - i) = 7 + 7 * (d - 1 - i) by omega, Nat.pow_add, ← Nat.div_div_eq_div_mul]
      have := hf d (by omega)
      rw [show (pkr f a d * 128 + f (a + d)) / 2 ^ 7 = pkr f a d by omega]
      exact ih
theorem c_numberOf {FU p i : Nat} {g st : Nat → Nat} {ch ct : Nat → Int64} (ho : OKs st) (hg : ∀ q, q < 256 → g q ≤ 99) (hp : OKp st p) (hp2 : p < 256) (h1 : HT g st ch ct p) (hi : i < 100) : f_X5_numberOf FU ch ct (nI (st 0)) (nI p) (nI i) = some (if i < qS st then nI (qNu g st p i) else -9) := by
  have hsq := ho.sq
  obtain ⟨l1, l2, l3⟩ := ht_lt ho hg hp
  have hnu : ∀ i, i < qS st → qNu g st p i < 128 := fun i hi => by have := qNu_99 ho hg hp hi; omega
  unfold f_X5_numberOf
  rw [if_neg (nI_pos (by omega)), pk_mul, show st 0 * st 0 = qS st from rfl]
  by_cases c : i < qS st
  · rw [if_pos (by rw [n_lt (by omega) (by omega)]; omega), if_pos c]
    by_cases c9 : 9 ≤ i
    · rw [if_pos (by rw [show (9 : Int32) = nI 9 from rfl]; exact (by rw [n_le (by omega) (by omega)]; omega)), rdl_ok (by omega) (by omega), h1.2, nI_1s (by omega), pk_sub (by omega), pf_shr63 (sh_amt _ (by omega)) l3, lo7]
      congr 2
      unfold tlN
      have := pkr_at (f := qNu g st p) (a := 9) (qS st - 9) (i - 9) (by omega) (fun j hj => hnu _ (by omega))
      rw [show 9 + (i - 9) = i by omega] at this
      rw [← this]
      congr 3
      omega
    · rw [if_neg (by rw [show (9 : Int32) = nI 9 from rfl]; exact (by rw [n_le (by omega) (by omega)]; omega)), rdl_ok (by omega) (by omega), h1.1, show (if (9 : Int32) < nI (qS st) then (9 : Int32) else nI (qS st)) = nI (min (qS st) 9) from if_min (a := 9) (by omega) (by omega), nI_1s (by omega), pk_sub (by omega), pf_shr63 (sh_amt _ (by omega)) l1, lo7]
      congr 2
      unfold hdN
      have := pkr_at (f := qNu g st p) (a := 0) (min (qS st) 9) i (by omega) (fun j hj => hnu _ (by omega))
      rw [show 0 + i = i by omega] at this
      exact this
  · rw [if_neg (by rw [n_lt (by omega) (by omega)]; omega), if_neg c]
/-! marks -/
def qMk (g st : Nat → Nat) (p : Nat) : Nat → Int32
  | 0 => 1
  | n + 1 => (31 * qMk g st p n) + nI (qNu g st p n)
theorem c_markOf {p : Nat} {g st : Nat → Nat} {ch ct : Nat → Int64} (ho : OKs st) (hg : ∀ q, q < 256 → g q ≤ 99) (hp : OKp st p) (hp2 : p < 256) (h1 : HT g st ch ct p) : f_X5_markOf FU ch ct (nI (st 0)) (nI p) = some (qMk g st p (qS st)) := by
  have hsq := ho.sq
  have go : ∀ (d i fuel : Nat), i + d = qS st → d < fuel → f_X5_markOf_L4 FU (nI p) ch ct (nI (st 0)) (fun (x2_1 : Int32) (x3_2 : Int32) => some x2_1) fuel (qMk g st p i) (nI i) = some (qMk g st p (qS st)) := by
    intro d
    induction d with
    | zero =>
      intro i fuel e1 e2
      obtain ⟨f, rfl⟩ : ∃ f, fuel = f + 1 := ⟨fuel - 1, by omega⟩
      have ei : i = qS st := by omega
      subst ei
      rw [f_X5_markOf_L4, pk_mul, show st 0 * st 0 = qS st from rfl, if_pos (by rw [n_le (by omega) (by omega)]; omega)]
    | succ d ih =>
      intro i fuel e1 e2
      obtain ⟨f, rfl⟩ : ∃ f, fuel = f + 1 := ⟨fuel - 1, by omega⟩
      rw [f_X5_markOf_L4, pk_mul, show st 0 * st 0 = qS st from rfl, if_neg (by rw [n_le (by omega) (by omega)]; omega), c_numberOf ho hg hp hp2 h1 (by omega), if_pos (by omega), bd1_s, nI_1]
      exact ih (i + 1) f (by omega) (by omega)
  unfold f_X5_markOf
  exact go (qS st) 0 FU (by omega) (by unfold FU; omega)
theorem m_mk21 {s p : Nat} {g st : Nat → Nat} {cg cs csq cd : Nat → Int32} {kk : _} {P : _} (hG : RepG cg g) (hS : RepS cs st) (hg : ∀ q, q < 256 → g q ≤ 99) (ho : OKs st) (hs : s < 225) (hsq : csq s = nI p) (hd : cd s = nI (qMn g st p)) (hp : OKp st p) :
    ∀ (d i fuel : Nat), i + d = qS st → d < fuel → (∀ z : Int32, Rt (kk (qMk g st p (qS st)) z) P) → Rt (f_X8_mark_L21 FU (nI s) cg cs csq cd kk fuel (qMk g st p i) (nI i)) P := by
  have hq := ho.sq
  intro d
  induction d with
  | zero =>
    intro i fuel e1 e2 hk
    obtain ⟨f, rfl⟩ : ∃ f, fuel = f + 1 := ⟨fuel - 1, by omega⟩
    have ei : i = qS st := by omega
    subst ei
    rw [f_X8_mark_L21, m_numbers hS, bd1_s]
    exact rt_t (by rw [n_le (by omega) (by omega)]; omega) (hk _)
  | succ d ih =>
    intro i fuel e1 e2 hk
    obtain ⟨f, rfl⟩ : ∃ f, fuel = f + 1 := ⟨fuel - 1, by omega⟩
    rw [f_X8_mark_L21, m_numbers hS, bd1_s]
    refine rt_f (by rw [n_le (by omega) (by omega)]; omega) ?_
    rw [m_numberIn hG hS hg ho hs hsq hd hp (by omega), bd1_s, nI_1]
    exact ih (i + 1) f (by omega) (by omega) hk
/-! the square at a place -/
theorem c_has5 {FU : Nat} {a b x y : Int32} : f_X5_has FU a b x y = f_X2_has FU a b x y := rfl
theorem m_sqAt {w h om : Nat} {g st : Nat → Nat} {m_grey m_setting : Nat → Int32} {m_squares : Int32} {m_square : Nat → Int32} {m_dark : Nat → Int32} {m_light : Nat → Int32} {m_like : Nat → Int32} {m_isCrowded : Nat → Int32} {m_pairs : Int32} {m_first : Nat → Int32} {m_second : Nat → Int32} {m_votes : Nat → Int32} {m_shifts : Int32} {m_shiftX : Nat → Int32} {m_shiftY : Nat → Int32} {m_regionAt : Nat → Int32} {m_regions : Int32} {m_regionShift : Nat → Int32} {m_regionPairs : Nat → Int32} {m_regionFirst : Nat → Int32} {m_findings : Int32} {m_regionOf : Nat → Int32} {m_offset : Nat → Int32} {m_begun : Nat → Int32} {m_held : Nat → Int32} {m_isIn : Nat → Int32} {m_numbered : Nat → Int32} (hC : Cor w h g st m_grey m_setting) (hM : MAll w h g st om m_squares m_square m_dark m_light m_like m_isCrowded m_pairs m_first m_second m_votes m_shifts m_shiftX m_shiftY m_regionAt m_regions m_regionShift m_regionPairs m_regionFirst m_findings m_regionOf m_offset m_begun m_held m_isIn m_numbered) (x y : Int32) :
    ∃ (v : Int32) (om' : Nat) (m_squares' : Int32) (m_square' : Nat → Int32) (m_dark' : Nat → Int32) (m_light' : Nat → Int32) (m_like' : Nat → Int32), f_X8_squareAt FU (nI om) (nI w) (nI h) m_grey m_setting m_squares m_square m_dark m_light m_like x y = some (v, nI om', m_squares', m_square', m_dark', m_light', m_like') ∧ 1 ≤ om' ∧ MAll w h g st om' m_squares' m_square' m_dark' m_light' m_like' m_isCrowded m_pairs m_first m_second m_votes m_shifts m_shiftX m_shiftY m_regionAt m_regions m_regionShift m_regionPairs m_regionFirst m_findings m_regionOf m_offset m_begun m_held m_isIn m_numbered ∧ (∀ a b, InP (qA w st) (qA h st) x y a b → v = nI (qA w st * b + a)) ∧ ((∀ a b, ¬ InP (qA w st) (qA h st) x y a b) → v = -9) := by
  obtain ⟨om', m_squares', m_square', m_dark', m_light', m_like', e, h1, hM1⟩ := ma1 hC hM
  have hN := qN_225 (w := w) (h := h) hC.o hC.w hC.h
  have hA := qA_15 hC.o hC.w
  have hA2 := qA_15 hC.o hC.h
  have k1 := hM1.2.1 h1
  have k2 := k1.1
  subst k2
  have main : Rt (f_X8_squareAt FU (nI om) (nI w) (nI h) m_grey m_setting m_squares m_square m_dark m_light m_like x y) (fun q => ∃ v, q = (v, nI om', nI (qN w h st), m_square', m_dark', m_light', m_like') ∧ (∀ a b, InP (qA w st) (qA h st) x y a b → v = nI (qA w st * b + a)) ∧ ((∀ a b, ¬ InP (qA w st) (qA h st) x y a b) → v = -9)) := by
    unfold f_X8_squareAt
    rw [e, bd6_s]
    have go : ∀ (d t fuel : Nat), t + d = qN w h st → d < fuel → (∀ a b, InP (qA w st) (qA h st) x y a b → t ≤ qA w st * b + a) → Rt (f_X8_squareAt_L6 FU x y (nI om') (nI (qN w h st)) m_square' m_dark' m_light' m_like' (fun (x3_7 : Int32) => some ((-9), nI om', nI (qN w h st), m_square', m_dark', m_light', m_like')) fuel (nI t)) (fun q => ∃ v, q = (v, nI om', nI (qN w h st), m_square', m_dark', m_light', m_like') ∧ (∀ a b, InP (qA w st) (qA h st) x y a b → v = nI (qA w st * b + a)) ∧ ((∀ a b, ¬ InP (qA w st) (qA h st) x y a b) → v = -9)) := by
      intro d
      induction d with
      | zero =>
        intro t fuel e1 e2 hle
        obtain ⟨f, rfl⟩ : ∃ f, fuel = f + 1 := ⟨fuel - 1, by omega⟩
        rw [f_X8_squareAt_L6]
        refine rt_t (by rw [n_le (by omega) (by omega)]; omega) (rt_some ⟨-9, rfl, fun a b hI => ?_, fun _ => rfl⟩)
        have h2 := hle a b hI
        have h3 : qA w st * b + a < qN w h st := by
          have := Nat.mul_le_mul_left (qA w st) hI.2.1
          have h4 := hI.1
          unfold qN
          rw [Nat.mul_succ] at this
          omega
        omega
      | succ d ih =>
        intro t fuel e1 e2 hle
        obtain ⟨f, rfl⟩ : ∃ f, fuel = f + 1 := ⟨fuel - 1, by omega⟩
        have ht : t < qN w h st := by omega
        rw [f_X8_squareAt_L6]
        refine rt_f (by rw [n_le (by omega) (by omega)]; omega) ?_
        rw [nI_1]
        have skip : (∀ a b, InP (qA w st) (qA h st) x y a b → t ≠ qA w st * b + a) → ∀ a b, InP (qA w st) (qA h st) x y a b → t + 1 ≤ qA w st * b + a := by
          intro z a b hI
          have := z a b hI
          have := hle a b hI
          omega
        by_cases cx : ∃ n, InR x 0 15 n
        · obtain ⟨a, ha⟩ := cx
          rw [show f_X8_within FU x 0 15 = some 1 from wi_in (a := 0) (b := 15) (by omega) ha, bd1_s]
          refine rt_f (by decide) ?_
          by_cases cy : ∃ n, InR y 0 15 n
          · obtain ⟨b, hb⟩ := cy
            rw [show f_X8_within FU y 0 15 = some 1 from wi_in (a := 0) (b := 15) (by omega) hb, bd1_s]
            refine rt_f (by decide) ?_
            have q1 := qP_256 hC.o hC.w hC.h ht
            obtain ⟨_, ha2, ha3⟩ := ha
            obtain ⟨_, hb2, hb3⟩ := hb
            rw [rd_ok (by omega) (by omega), (k1.2.1 t ht).1, ha3, hb3, p16]
            obtain ⟨x0, y0, hx0, hy0, et⟩ := q_xy ht
            have eqp : qP w st t = 16 * y0 + x0 := by rw [et, qP_xy hx0]
            refine rt_if (fun c => ?_) (fun c => ?_)
            · rw [n_inj (by omega) (by omega)] at c
              refine rt_some ⟨nI t, rfl, fun a' b' hI => ?_, fun z => ?_⟩
              · obtain ⟨i1, i2, i3, i4⟩ := hI
                rw [n_inj (by omega) (by omega)] at i3 i4
                rw [et, show x0 = a' by omega, show y0 = b' by omega]
              · exact absurd ⟨by omega, by omega, rfl, rfl⟩ (z a b)
            · rw [n_inj (by omega) (by omega)] at c
              rw [ha3, hb3] at ih
              refine ih (t + 1) f (by omega) (by omega) ?_
              rw [ha3, hb3] at skip
              refine skip (fun a' b' hI z => c ?_)
              obtain ⟨i1, i2, i3, i4⟩ := hI
              rw [n_inj (by omega) (by omega)] at i3 i4
              subst i3 i4
              rw [z, qP_xy i1]
          · rw [show f_X8_within FU y 0 15 = some 0 from wi_out (a := 0) (b := 15) (by omega) (by omega) (fun n hn => cy ⟨n, hn⟩), bd1_s]
            refine rt_t rfl (ih (t + 1) f (by omega) (by omega) (skip (fun a b hI => absurd ⟨b, by omega, by have := hI.2.1; omega, hI.2.2.2⟩ cy)))
        · rw [show f_X8_within FU x 0 15 = some 0 from wi_out (a := 0) (b := 15) (by omega) (by omega) (fun n hn => cx ⟨n, hn⟩), bd1_s]
          refine rt_t rfl (ih (t + 1) f (by omega) (by omega) (skip (fun a b hI => absurd ⟨a, by omega, by have := hI.1; omega, hI.2.2.1⟩ cx)))
    exact go (qN w h st) 0 FU (by omega) (by unfold FU; omega) (fun a b _ => by omega)
  obtain ⟨q, e2, v, e3, e4, e5⟩ := main
  subst e3
  exact ⟨v, om', _, _, _, _, _, e2, h1, hM1, e4, e5⟩
