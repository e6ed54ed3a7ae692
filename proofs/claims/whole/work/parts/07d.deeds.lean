/-! draws -/
theorem nI_wrap (n : Nat) : nI n = nI (n % 4294967296) := by
  apply Int32.toBitVec_inj.1
  show BitVec.ofNat 32 n = BitVec.ofNat 32 (n % 4294967296)
  apply BitVec.eq_of_toNat_eq
  rw [BitVec.toNat_ofNat, BitVec.toNat_ofNat]
  omega
theorem draw_both {M sd : Nat} (hM : inM M) (hsd : sd < 2147483648) : ∃ sd' x, sd' < 2147483648 ∧ x < 2 ^ M ∧ m_Shelf_drawSet (nI sd) (nI M) = some (nI x, nI sd') ∧ m_Md_draw (nI sd) (nI (2 ^ M)) = some (nI x, nI sd') := by
  have hp := p2_le hM.2
  have hp0 : 0 < 2 ^ M := Nat.two_pow_pos M
  have hX : sd * 1103515245 + 12345 < 9223372036854775808 := by
    have : sd * 1103515245 ≤ 2147483648 * 1103515245 := Nat.mul_le_mul_right _ (by omega)
    omega
  have hs' : (sd * 1103515245 + 12345) % 2147483648 < 2147483648 := Nat.mod_lt _ (by omega)
  refine ⟨(sd * 1103515245 + 12345) % 2147483648, (sd * 1103515245 + 12345) % 2147483648 / 65536 % 2 ^ M, hs', Nat.mod_lt _ hp0, ?_, ?_⟩
  · unfold m_Shelf_drawSet
    have e1 : ((nI sd * 1103515245) + 12345) &&& 2147483647 = nI ((sd * 1103515245 + 12345) % 2147483648) := by
      rw [show (1103515245 : Int32) = nI 1103515245 from rfl, show (12345 : Int32) = nI 12345 from rfl, pk_mul, nI_add, nI_wrap, pk_andN (by omega) 31 (by decide), show (sd * 1103515245 + 12345) % 4294967296 % 2 ^ 31 = (sd * 1103515245 + 12345) % 2147483648 by omega]
    rw [e1, lt_eq, all_s hM.2, bd1_s, show (65536 : Int32) = nI 65536 from rfl, pk_div (by omega) (by omega) (by omega), fa_and, Nat.and_two_pow_sub_one_eq_mod]
  · unfold m_Md_draw
    have e1 : Int64.toInt32 ((((Int32.toInt64 (nI sd)) * 1103515245) + 12345) - (((Int32.toInt64 (nI sd)) * 1103515245) + 12345) / 2147483648 * 2147483648) = nI ((sd * 1103515245 + 12345) % 2147483648) := by
      rw [nI_l (by omega), show (1103515245 : Int64) = lN 1103515245 from rfl, show (12345 : Int64) = lN 12345 from rfl, lN_mul, lN_add, show (2147483648 : Int64) = lN 2147483648 from rfl, pk_lRem (by omega) (by omega) (by omega), lN_i]
    rw [e1, lt_eq, dv_s hp0 (by omega), show (65536 : Int32) = nI 65536 from rfl, pk_div (by omega) (by omega) (by omega), pk_rem (by omega) hp0 (by omega)]
/-! the shelf's deeds -/
theorem replace_s {n p : Nat} {sets : Nat → Int32} (hn : n ≤ 8) (hp : p < n) (x : Int32) : m_Shelf_replace (nI n) sets (nI p) x = some (upd sets p x) := by
  unfold m_Shelf_replace
  rw [has_t hn hp, bd1_s, if_neg (by decide), ck_s (by omega) (by omega), cl_s (by omega), lt_eq]
theorem rem12 {n p : Nat} {sets : Nat → Int32} (hn : n ≤ 8) : ∀ (m i k : Nat) (s1 : Nat → Int32), p < i → i + m = n → m < k → (∀ q, p ≤ q → q + 1 < i → s1 q = sets (q + 1)) → (∀ q, q < p → s1 q = sets q) → (∀ q, i ≤ q + 1 → s1 q = sets q) → ∃ s2, m_Shelf_remove_L12 (nI n) k (nI i) s1 = some s2 ∧ (∀ q, p ≤ q → q + 1 < n → s2 q = sets (q + 1)) ∧ ∀ q, q < p → s2 q = sets q
  | 0, i, k, s1, hp, e, hk, h1, h2, h3 => by
    obtain ⟨k, rfl⟩ : ∃ z, k = z + 1 := ⟨k - 1, by omega⟩
    refine ⟨s1, ?_, fun q q1 q2 => h1 q q1 (by omega), h2⟩
    rw [m_Shelf_remove_L12, ile (by omega) (by omega), if_pos (by omega)]
  | m + 1, i, k, s1, hp, e, hk, h1, h2, h3 => by
    obtain ⟨k, rfl⟩ : ∃ z, k = z + 1 := ⟨k - 1, by omega⟩
    obtain ⟨s2, e2, g1, g2⟩ := rem12 (p := p) (sets := sets) hn m (i + 1) k (upd s1 (i - 1) (s1 i)) (by omega) (by omega) (by omega)
      (fun q q1 q2 => by
        by_cases c : q = i - 1
        · subst c; rw [pk_us, h3 i (by omega), show i - 1 + 1 = i by omega]
        · rw [pk_un c]; exact h1 q q1 (by omega))
      (fun q hq => by rw [pk_un (by omega)]; exact h2 q hq)
      (fun q hq => by rw [pk_un (by omega)]; exact h3 q (by omega))
    refine ⟨s2, ?_, g1, g2⟩
    rw [m_Shelf_remove_L12, ile (by omega) (by omega), if_neg (by omega), show (1 : Int32) = nI 1 from rfl, pk_sub (by omega), ck_s (by omega) (by omega), ck_s (by omega) (by omega), cl_s (by omega), cl_s (by omega), lt_eq, lt_eq, nI_add]
    exact e2
theorem remove_s {n p fu : Nat} {sets : Nat → Int32} (hn : n ≤ 8) (hp : p < n) (hfu : 20 < fu) : ∃ sets', m_Shelf_remove fu (nI n) sets (nI p) = some (nI (n - 1), sets') ∧ (∀ q, p ≤ q → q + 1 < n → sets' q = sets (q + 1)) ∧ ∀ q, q < p → sets' q = sets q := by
  obtain ⟨s2, e2, g1, g2⟩ := rem12 (n := n) (p := p) (sets := sets) hn (n - (p + 1)) (p + 1) fu sets (by omega) (by omega) (by omega) (fun q q1 q2 => absurd q2 (by omega)) (fun _ _ => rfl) (fun _ _ => rfl)
  refine ⟨s2, ?_, g1, g2⟩
  unfold m_Shelf_remove
  rw [has_t hn hp, bd1_s, if_neg (by decide), nI_1, lt_eq, e2, bd1_s, show (1 : Int32) = nI 1 from rfl, pk_sub (by omega), lt_eq]
theorem take17 {n p : Nat} {w : Nat → Int32} (hn : n ≤ 8) (h0 : 1 ≤ n) : ∀ (m i k : Nat) (w1 : Nat → Int32), p ≤ i → i + m = n - 1 → m < k → w1 1 = nI n → (∀ q, p ≤ q → q < i → w1 (2 + q) = w (2 + (q + 1))) → (∀ j, (j < 2 + p ∨ 2 + i ≤ j) → w1 j = w j) → ∃ w2, m_Md_take_L17 k (nI i) w1 = some w2 ∧ (∀ q, p ≤ q → q < n - 1 → w2 (2 + q) = w (2 + (q + 1))) ∧ ∀ j, (j < 2 + p ∨ 10 ≤ j) → w2 j = w j
  | 0, i, k, w1, hp, e, hk, hw, h1, h2 => by
    obtain ⟨k, rfl⟩ : ∃ z, k = z + 1 := ⟨k - 1, by omega⟩
    have W1 : w1 (1 : Int32).toNatClampNeg = nI n := hw
    refine ⟨w1, ?_, fun q q1 q2 => h1 q q1 (by omega), fun j hj => h2 j (by omega)⟩
    rw [m_Md_take_L17, C1, W1, show (1 : Int32) = nI 1 from rfl, pk_sub (by omega), ile (by omega) (by omega), if_pos (by omega)]
  | m + 1, i, k, w1, hp, e, hk, hw, h1, h2 => by
    obtain ⟨k, rfl⟩ : ∃ z, k = z + 1 := ⟨k - 1, by omega⟩
    have W1 : w1 (1 : Int32).toNatClampNeg = nI n := hw
    obtain ⟨w2, e2, g1, g2⟩ := take17 (p := p) (w := w) hn h0 m (i + 1) k (upd w1 (2 + i) (w1 (2 + i + 1))) (by omega) (by omega) (by omega) (by rw [pk_un (by omega)]; exact hw)
      (fun q q1 q2 => by
        by_cases c : q = i
        · subst c; rw [pk_us, h2 _ (by omega)]; rfl
        · rw [pk_un (by omega)]; exact h1 q q1 (by omega))
      (fun j hj => by rw [pk_un (by omega)]; exact h2 j (by omega))
    refine ⟨w2, ?_, g1, g2⟩
    rw [m_Md_take_L17, C1, W1, show (1 : Int32) = nI 1 from rfl, pk_sub (by omega), ile (by omega) (by omega), if_neg (by omega), show (2 : Int32) = nI 2 from rfl, nI_add, nI_add, ck_s (by omega) (by omega), ck_s (by omega) (by omega), cl_s (by omega), cl_s (by omega), lt_eq, lt_eq, nI_add]
    exact e2
/-! the book -/
theorem wrong_both {M n e fu : Nat} {s : Nat → Nat} {sets goals lengths w bookOf bookIs : Nat → Int32} (hS : Sh M n s) (hsets : ∀ p, p < n → sets p = nI (s p)) (hW : RW w 0 M n s) (he : e ≤ 20) (hB : ∀ i, i < e → goals i = bookOf i ∧ lengths i = bookIs i) (hfu : 5000 < fu) : ∀ (m i k k' : Nat) (cf ex p gp TB : Nat → Int32) (g1 : Int32) (rp TA : Nat → Int32) (g2 re : Int32) (sl best next : Nat → Int32), i + m = e → m < k → m < k' → ∃ r cf' ex' p' gp' TB' g1' rp' TA' g2' re' sl' best' next', m_Book_firstWrong_L2 fu (nI e) (nI n) sets (nI M) goals lengths k (nI i) cf ex p gp TB g1 rp TA g2 re sl = some (r, cf', ex', p', gp', TB', g1', rp', TA', g2', re', sl') ∧ m_Md_wrong_L2 fu (nI e) bookOf w bookIs k' (nI i) best next = some (r, best', next') := by
  obtain ⟨hM, hn, hs⟩ := hS
  have hp2 := p2_le hM.2
  have hw0 : w 0 = nI M := hW.1
  have hw1 : w 1 = nI n := hW.2.1
  intro m
  induction m with
  | zero =>
    intro i k k' cf ex p gp TB g1 rp TA g2 re sl best next ei hk hk'
    obtain ⟨k, rfl⟩ : ∃ z, k = z + 1 := ⟨k - 1, by omega⟩
    obtain ⟨k', rfl⟩ : ∃ z, k' = z + 1 := ⟨k' - 1, by omega⟩
    refine ⟨-1, cf, ex, p, gp, TB, g1, rp, TA, g2, re, sl, best, next, ?_, ?_⟩
    · rw [m_Book_firstWrong_L2, ile (by omega) (by omega), if_pos (by omega)]
    · rw [m_Md_wrong_L2, ile (by omega) (by omega), if_pos (by omega)]
  | succ m ih =>
    intro i k k' cf ex p gp TB g1 rp TA g2 re sl best next ei hk hk'
    obtain ⟨k, rfl⟩ : ∃ z, k = z + 1 := ⟨k - 1, by omega⟩
    obtain ⟨k', rfl⟩ : ∃ z, k' = z + 1 := ⟨k' - 1, by omega⟩
    obtain ⟨hb1, hb2⟩ := hB i (by omega)
    have hx : ∀ (r : Int32) (cf' ex' p' gp' TB' : Nat → Int32) (g1' : Int32) (rp' TA' : Nat → Int32) (g2' re' : Int32) (sl' : Nat → Int32), m_Book_isSo fu (nI n) sets (nI M) cf ex p gp TB g1 rp TA g2 re sl (bookOf i) (bookIs i) = some (r, cf', ex', p', gp', TB', g1', rp', TA', g2', re', sl') → m_Book_firstWrong_L2 fu (nI e) (nI n) sets (nI M) goals lengths (k + 1) (nI i) cf ex p gp TB g1 rp TA g2 re sl = if r = 0 then some (nI i, cf', ex', p', gp', TB', g1', rp', TA', g2', re', sl') else m_Book_firstWrong_L2 fu (nI e) (nI n) sets (nI M) goals lengths k (nI (i + 1)) cf' ex' p' gp' TB' g1' rp' TA' g2' re' sl' := by
      intro r cf' ex' p' gp' TB' g1' rp' TA' g2' re' sl' h
      rw [m_Book_firstWrong_L2, ile (by omega) (by omega), if_neg (by omega), ck_s (by omega) (by omega), ck_s (by omega) (by omega), cl_s (by omega), hb1, hb2, h, bd12_s, lt_eq, nI_1]
    by_cases c : pl n (bookOf i)
    · obtain ⟨q, hq, eq⟩ := pl_ex (by omega) c
      have hn0 : 0 < n := by omega
      have S0 : m_Shelf_setAt (nI n) sets 0 = some (nI (s 0)) := by
        have := setAt_s (sets := sets) (p := 0) hn hn0
        rw [hsets 0 hn0] at this
        exact this
      have Sq : m_Shelf_setAt (nI n) sets (bookOf i) = some (nI (s q)) := by rw [eq, setAt_s hn hq, hsets q hq]
      have W2 : w (2 : Int32).toNatClampNeg = nI (s 0) := by
        have := hW.2.2 0 hn0
        rw [Nat.zero_add] at this
        exact this
      have Wq : w (2 + nI q).toNatClampNeg = nI (s q) := by
        rw [show (2 : Int32) = nI 2 from rfl, nI_add, cl_s (by omega)]
        have := hW.2.2 q hq
        rw [Nat.zero_add] at this
        exact this
      have C2 : ∀ (β : Type) (k : Option β), ck (2 : Int32) 190 k = k := fun β k => ck_s (i := 2) (by omega) (by omega)
      have Cq : ∀ (β : Type) (k : Option β), ck (2 + nI q) 190 k = k := fun β k => by rw [show (2 : Int32) = nI 2 from rfl, nI_add]; exact ck_s (by omega) (by omega)
      have hy : m_Md_wrong_L2 fu (nI e) bookOf w bookIs (k' + 1) (nI i) best next = if s 0 = 0 then some (nI i, best, next) else if s q = 0 then some (nI i, best, next) else bd3 (m_Md_wayOf fu best next w (nI (s 0)) (nI (s q))) (fun r_2 f_t_best_2 f_t_next_2 => if r_2 = bookIs i then m_Md_wrong_L2 fu (nI e) bookOf w bookIs k' (nI (i + 1)) f_t_best_2 f_t_next_2 else some (nI i, f_t_best_2, f_t_next_2)) := by
        rw [m_Md_wrong_L2, ile (by omega) (by omega), if_neg (by omega), ck_s (by omega) (by omega), cl_s (by omega), lt_eq, isPlace_s hn hw1, if_pos c, bd1_s, if_neg (by decide), C2, W2, eq, Wq, show (0 : Int32) = nI 0 from rfl, ieq (by have := hs 0 hn0; omega) (by omega), Cq, ieq (by have := hs q hq; omega) (by omega), C2, Cq]
        simp only [ck_s (show i < 20 by omega) (show (20 : Nat) < 2147483648 by omega), lt_eq, nI_1]
      by_cases z0 : s 0 = 0
      · refine ⟨nI i, cf, ex, p, gp, TB, g1, rp, TA, g2, re, sl, best, next, ?_, by rw [hy, if_pos z0]⟩
        rw [hx 0 cf ex p gp TB g1 rp TA g2 re sl (by unfold m_Book_isSo; rw [S0, bd1_s, lt_eq, Sq, bd1_s, lt_eq, z0, if_pos (show nI 0 = 0 from rfl)]), if_pos rfl]
      · have n0 : ¬ nI (s 0) = 0 := nI_ne0 (by omega) (by have := hs 0 hn0; omega)
        by_cases zq : s q = 0
        · refine ⟨nI i, cf, ex, p, gp, TB, g1, rp, TA, g2, re, sl, best, next, ?_, by rw [hy, if_neg z0, if_pos zq]⟩
          rw [hx 0 cf ex p gp TB g1 rp TA g2 re sl (by unfold m_Book_isSo; rw [S0, bd1_s, lt_eq, Sq, bd1_s, lt_eq, if_neg n0, zq, if_pos (show nI 0 = 0 from rfl)]), if_pos rfl]
        · have nq : ¬ nI (s q) = 0 := nI_ne0 (by omega) (by have := hs q hq; omega)
          obtain ⟨v, hv, hv2, cf', ex', p', gp', TB', g1', rp', TA', g2', re', sl', el⟩ := least_s (fu := fu) (cf := cf) (ex := ex) (p := p) (gp := gp) (TB := TB) (goals := g1) (rp := rp) (TA := TA) (goers := g2) (reached := re) (sl := sl) hM (hs 0 hn0) (hs q hq) z0 zq (by omega)
          obtain ⟨best', next', em⟩ := md_way_s (best := best) (next := next) (fu := fu) hM hw0 (hs 0 hn0) (hs q hq) hfu hv
          have hso : m_Book_isSo fu (nI n) sets (nI M) cf ex p gp TB g1 rp TA g2 re sl (bookOf i) (bookIs i) = some (if nI v = bookIs i then 1 else 0, cf', ex', p', gp', TB', g1', rp', TA', g2', re', sl') := by
            unfold m_Book_isSo
            rw [S0, bd1_s, lt_eq, Sq, bd1_s, lt_eq, if_neg n0, if_neg nq, el, bd12_s]
            split <;> rfl
          rw [hx _ _ _ _ _ _ _ _ _ _ _ _ hso, hy, if_neg z0, if_neg zq, em, bd3_s]
          by_cases y : nI v = bookIs i
          · rw [if_pos y, if_neg (by decide), if_pos y]
            exact ih (i + 1) k k' cf' ex' p' gp' TB' g1' rp' TA' g2' re' sl' best' next' (by omega) (by omega) (by omega)
          · rw [if_neg y, if_pos rfl, if_neg y]
            exact ⟨_, _, _, _, _, _, _, _, _, _, _, _, _, _, rfl, rfl⟩
    · refine ⟨nI i, cf, ex, p, gp, TB, g1, rp, TA, g2, re, sl, best, next, ?_, ?_⟩
      · obtain ⟨v0, hv0⟩ : ∃ v0, m_Shelf_setAt (nI n) sets 0 = some v0 := by
          obtain ⟨v, e, -⟩ := sets_any (sets := sets) (p := 0) hn (by omega)
          exact ⟨v, e⟩
        rw [hx 0 cf ex p gp TB g1 rp TA g2 re sl (by
          unfold m_Book_isSo
          rw [hv0, bd1_s, lt_eq, setAt_o hn c, bd1_s, lt_eq, if_pos (show (0 : Int32) = 0 from rfl)]
          split <;> rfl), if_pos rfl]
      · rw [m_Md_wrong_L2, ile (by omega) (by omega), if_neg (by omega), ck_s (by omega) (by omega), cl_s (by omega), lt_eq, isPlace_s hn hw1, if_neg c, bd1_s, if_pos rfl]
