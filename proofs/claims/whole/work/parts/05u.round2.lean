/-! the way round the shelf: the reference, whole -/
def mustN (s : Nat → Nat) : Nat → Nat
  | 0 => 0
  | n + 1 => mustN s n ||| (if s n = 0 then 0 else 2 ^ n)
theorem must_bit {s : Nat → Nat} : ∀ {n i : Nat}, (mustN s n).testBit i = true ↔ i < n ∧ s i ≠ 0
  | 0, i => by rw [mustN, Nat.zero_testBit]; simp
  | n + 1, i => by
    rw [mustN, Nat.testBit_or, Bool.or_eq_true, must_bit]
    by_cases c : s n = 0
    · rw [if_pos c, Nat.zero_testBit]
      constructor
      · rintro (⟨h1, h2⟩ | h)
        · exact ⟨by omega, h2⟩
        · cases h
      · rintro ⟨h1, h2⟩
        refine Or.inl ⟨?_, h2⟩
        rcases Nat.lt_or_ge i n with z | z
        · exact z
        · obtain rfl : i = n := by omega
          exact absurd c h2
    · rw [if_neg c, Nat.testBit_two_pow, decide_eq_true_eq]
      constructor
      · rintro (⟨h1, h2⟩ | rfl)
        · exact ⟨by omega, h2⟩
        · exact ⟨by omega, c⟩
      · rintro ⟨h1, h2⟩
        rcases Nat.lt_or_ge i n with z | z
        · exact Or.inl ⟨z, h2⟩
        · exact Or.inr (by omega)
theorem must_lt {s : Nat → Nat} : ∀ {n : Nat}, mustN s n < 2 ^ n
  | 0 => by rw [mustN]; omega
  | n + 1 => by
    have := must_lt (s := s) (n := n)
    rw [mustN]
    refine Nat.or_lt_two_pow (Nat.lt_of_lt_of_le this (Nat.pow_le_pow_right (by omega) (by omega))) ?_
    split
    · exact Nat.two_pow_pos _
    · exact Nat.pow_lt_pow_right (by omega) (by omega)
theorem must256 {s : Nat → Nat} {n : Nat} (hn : n ≤ 8) : mustN s n < 256 := Nat.lt_of_lt_of_le must_lt (Nat.pow_le_pow_right (n := 2) (by omega) hn : 2 ^ n ≤ 2 ^ 8)
theorem rd11 {w : Nat → Int32} {s : Nat → Nat} {M : Nat} (hs : ∀ p, p < 8 → s p < 4096) : ∀ (p k v : Nat), p ≤ 8 → (∀ q, q < p → w (2 + q) = nI (s q)) → p < k → m_Md_roundNow_L11 w k (nI v) (nI p - 1) = some (nI (v ||| mustN s p))
  | 0, k, v, hp, hw, hk => by
    obtain ⟨k, rfl⟩ : ∃ z, k = z + 1 := ⟨k - 1, by omega⟩
    rw [m_Md_roundNow_L11, if_pos (show nI 0 - 1 < 0 by decide), mustN, Nat.or_zero]
  | p + 1, k, v, hp, hw, hk => by
    obtain ⟨k, rfl⟩ : ∃ z, k = z + 1 := ⟨k - 1, by omega⟩
    have hsp := hs p (by omega)
    have hwp := hw p (by omega)
    have ih := fun v' => rd11 (M := M) hs p k v' (by omega) (fun q hq => hw q (by omega)) (by omega)
    have e1 : nI (p + 1) - 1 = nI p := nI_pred p
    have e2 : (2 : Int32) + nI p = nI (2 + p) := nI_add 2 p
    have e3 : nI p + (-1) = nI p - 1 := (Int32.sub_eq_add_neg _ _).symm
    rw [m_Md_roundNow_L11, e1, if_neg (nI_pos (by omega)), e2, ck_s (by omega) (by omega), cl_s (by omega), hwp, e3, mustN, Nat.or_comm (mustN s p)]
    by_cases c : s p = 0
    · rw [if_pos c, c, if_pos (show nI 0 = 0 from rfl), bd1_s, lt_eq, lt_eq, show (0 : Int32) = nI 0 from rfl, fa_or, ih, Nat.or_assoc]
    · rw [if_neg c, if_neg (nI_ne0 (by omega) (by omega)), p2_s (by omega), bd1_s, lt_eq, lt_eq, fa_or, ih, Nat.or_assoc]
theorem idx8 {a b c d : Nat} (h : 8 * a + b = 8 * c + d) (hb : b < 8) (hd : d < 8) : a = c ∧ b = d := by omega
theorem md_layWays_s {w best next ways : Nat → Int32} {D : Nat → Nat → Nat} {M n fu : Nat} {s : Nat → Nat} (hM : inM M) (hw0 : w 0 = nI M) (hw1 : w 1 = nI n) (hn : n ≤ 8) (hs : ∀ p, p < n → s p < 2 ^ M) (hw : ∀ p, p < n → w (2 + p) = nI (s p)) (hD2 : ∀ p q, D p q = D q p) (hD : ∀ p q, p < n → q < n → s p ≠ 0 → s q ≠ 0 → wayN M (s p) (s q) (D p q)) (hfu : 5000 < fu) : ∃ best' next' ways', m_Md_layWays fu best next w ways = some (best', next', ways') ∧ ∀ p q, p < n → q < n → p ≠ q → s p ≠ 0 → s q ≠ 0 → ways' (8 * p + q) = nI (D p q) := by
  have hp := p2_le hM.2
  have C1 : ∀ (β : Type) (k : Option β), ck (1 : Int32) 190 k = k := fun β k => ck_s (i := 1) (by omega) (by omega)
  have W1 : w (1 : Int32).toNatClampNeg = nI n := hw1
  unfold m_Md_layWays
  rw [lt_eq]
  obtain ⟨⟨be, ne, wy⟩, n', hI, e⟩ := up_go (F := fun k i (c : (Nat → Int32) × (Nat → Int32) × (Nat → Int32)) => m_Md_layWays_L2 fu w k (nI i) c.1 c.2.1 c.2.2) (8 * n) (fun i c => ∀ p q, p < n → q < p → s p ≠ 0 → s q ≠ 0 → 8 * p + q < i → c.2.2 (8 * p + q) = nI (D p q) ∧ c.2.2 (8 * q + p) = nI (D q p))
    (by
      rintro k i ⟨be, ne, wy⟩ hi hI
      have hI : ∀ p q, p < n → q < p → s p ≠ 0 → s q ≠ 0 → 8 * p + q < i → wy (8 * p + q) = nI (D p q) ∧ wy (8 * q + p) = nI (D q p) := hI
      have hp8 : i / 8 < n := by omega
      have hq8 : i % 8 < 8 := by omega
      have e1 : (2 : Int32) + nI (i / 8) = nI (2 + i / 8) := nI_add 2 _
      have e2 : (2 : Int32) + nI (i % 8) = nI (2 + i % 8) := nI_add 2 _
      have hsp := hs (i / 8) hp8
      -- does it count?
      have unf : ∀ X : Option ((Nat → Int32) × (Nat → Int32) × (Nat → Int32)), (if (i % 8 < n ∧ s (i / 8) ≠ 0 ∧ i % 8 < i / 8 ∧ s (i % 8) ≠ 0) then bd3 (bd3 (m_Md_wayOf fu be ne w (nI (s (i / 8))) (nI (s (i % 8)))) (fun r_1 best_4 next_4 => some (best_4, next_4, upd (upd wy (8 * (i / 8) + i % 8) r_1) (8 * (i % 8) + i / 8) (upd wy (8 * (i / 8) + i % 8) r_1 (8 * (i / 8) + i % 8))))) (fun b n w' => m_Md_layWays_L2 fu w k (nI (i + 1)) b n w') = X else m_Md_layWays_L2 fu w k (nI (i + 1)) be ne wy = X) → m_Md_layWays_L2 fu w (k + 1) (nI i) be ne wy = X := by
        intro X hX
        rw [m_Md_layWays_L2, C1, W1, show (8 : Int32) = nI 8 from rfl, pk_mul, ile (by omega) (by omega), if_neg (by omega), pk_div (by omega) (by omega) (by omega), lt_eq, show nI i - nI (i / 8) * nI 8 = nI (i % 8) from by rw [pk_mul, pk_sub (by omega)]; congr 1; omega, lt_eq, C1, ile (by omega) (by omega)]
        by_cases c1 : i % 8 < n
        · have hsq := hs (i % 8) c1
          rw [if_neg (by omega), e1, ck_s (by omega) (by omega), cl_s (by omega), hw _ hp8, e2, ck_s (by omega) (by omega), cl_s (by omega), hw _ c1]
          by_cases c2 : s (i / 8) = 0
          · rw [if_neg (fun z => z.2.1 c2)] at hX
            rw [c2, if_pos (show nI 0 = 0 from rfl), bd1_s, lt_eq, if_pos (show (0 : Int32) = 0 from rfl), bd3_s, lt_eq, nI_1]
            exact hX
          · rw [if_neg (nI_ne0 (by omega) (by omega)), ile (by omega) (by omega)]
            by_cases c3 : i % 8 < i / 8
            · rw [if_neg (by omega)]
              by_cases c4 : s (i % 8) = 0
              · rw [if_neg (fun z => z.2.2.2 c4)] at hX
                rw [c4, if_pos (show nI 0 = 0 from rfl), bd1_s, lt_eq, if_pos (show (0 : Int32) = 0 from rfl), bd3_s, lt_eq, nI_1]
                exact hX
              · rw [if_pos ⟨c1, c2, c3, c4⟩] at hX
                rw [if_neg (nI_ne0 (by omega) (by omega)), bd1_s, lt_eq, if_neg (show ¬ (1 : Int32) = 0 by decide), ck_s (by omega) (by omega), ck_s (by omega) (by omega), pk_mul, nI_add, pk_mul, nI_add, nI_1, cl_s (by omega), cl_s (by omega)]
                rw [← hX]
                congr 1
                congr 1
                funext r b n
                rw [ck_s (by omega) (by omega), lt_eq, ck_s (by omega) (by omega), ck_s (by omega) (by omega), lt_eq]
            · rw [if_neg (fun z => c3 z.2.2.1)] at hX
              rw [if_pos (by omega), bd1_s, lt_eq, if_pos (show (0 : Int32) = 0 from rfl), bd3_s, lt_eq, nI_1]
              exact hX
        · rw [if_neg (fun z => c1 z.1)] at hX
          rw [if_pos (by omega), bd1_s, lt_eq, if_pos (show (0 : Int32) = 0 from rfl), bd3_s, lt_eq, nI_1]
          exact hX
      by_cases c : i % 8 < n ∧ s (i / 8) ≠ 0 ∧ i % 8 < i / 8 ∧ s (i % 8) ≠ 0
      · obtain ⟨c1, c2, c3, c4⟩ := c
        obtain ⟨be', ne', ew⟩ := md_way_s (best := be) (next := ne) hM hw0 hsp (hs (i % 8) c1) hfu (hD (i / 8) (i % 8) hp8 c1 c2 c4)
        refine ⟨(be', ne', upd (upd wy (8 * (i / 8) + i % 8) (nI (D (i / 8) (i % 8)))) (8 * (i % 8) + i / 8) (nI (D (i / 8) (i % 8)))), ?_, ?_⟩
        · intro p q hp hq p0 q0 hlt
          show upd (upd wy (8 * (i / 8) + i % 8) (nI (D (i / 8) (i % 8)))) (8 * (i % 8) + i / 8) (nI (D (i / 8) (i % 8))) (8 * p + q) = _ ∧ upd (upd wy (8 * (i / 8) + i % 8) (nI (D (i / 8) (i % 8)))) (8 * (i % 8) + i / 8) (nI (D (i / 8) (i % 8))) (8 * q + p) = _
          by_cases z : 8 * p + q = i
          · have zp : p = i / 8 := by omega
            have zq : q = i % 8 := by omega
            rw [zp, zq, pk_un (by omega), pk_us, pk_us, hD2 (i % 8)]
            exact ⟨rfl, rfl⟩
          · have n1 : ¬ 8 * p + q = 8 * (i % 8) + i / 8 := fun h => by have := idx8 h (by omega) (by omega); omega
            have n2 : ¬ 8 * p + q = 8 * (i / 8) + i % 8 := fun h => by omega
            have n3 : ¬ 8 * q + p = 8 * (i % 8) + i / 8 := fun h => by have := idx8 h (by omega) (by omega); omega
            have n4 : ¬ 8 * q + p = 8 * (i / 8) + i % 8 := fun h => by have := idx8 h (by omega) (by omega); omega
            rw [pk_un n1, pk_un n2, pk_un n3, pk_un n4]
            exact hI p q hp hq p0 q0 (by omega)
        · show m_Md_layWays_L2 fu w (k + 1) (nI i) be ne wy = _
          refine unf _ ?_
          rw [if_pos ⟨c1, c2, c3, c4⟩, ew, bd3_s, bd3_s, pk_us]
      · refine ⟨(be, ne, wy), ?_, ?_⟩
        · intro p q hp hq p0 q0 hlt
          by_cases z : 8 * p + q = i
          · have zp : p = i / 8 := by omega
            have zq : q = i % 8 := by omega
            exact absurd ⟨by omega, by rw [← zp]; exact p0, by omega, by rw [← zq]; exact q0⟩ c
          · exact hI p q hp hq p0 q0 (by omega)
        · show m_Md_layWays_L2 fu w (k + 1) (nI i) be ne wy = _
          refine unf _ ?_
          rw [if_neg c])
    (8 * n) fu 0 (best, next, ways) (by omega) (by omega) (fun p q _ _ _ _ h => absurd h (Nat.not_lt_zero _))
  have e : m_Md_layWays_L2 fu w fu 0 best next ways = m_Md_layWays_L2 fu w (n' + 1) (nI (8 * n)) be ne wy := e
  refine ⟨be, ne, wy, ?_, ?_⟩
  · rw [e, m_Md_layWays_L2, C1, W1, show (8 : Int32) = nI 8 from rfl, pk_mul, ile (by omega) (by omega), if_pos (by omega), bd3_s]
  · intro p q hp hq hne p0 q0
    rcases Nat.lt_or_ge q p with z | z
    · exact (hI p q hp z p0 q0 (by omega)).1
    · exact (hI q p hq (by omega) q0 p0 (by omega)).2
def fst1 (must f : Nat) : Prop := must.testBit f = true ∧ ∀ i, i < f → must.testBit i = false
theorem fst_ex {must : Nat} (hm : must < 256) (h : must ≠ 0) : ∃ f, f < 8 ∧ fst1 must f := by
  have hex : ∃ i, i < 8 ∧ must.testBit i = true := by
    rcases Classical.em (∃ i, i < 8 ∧ must.testBit i = true) with c | c
    · exact c
    · exfalso
      apply h
      apply Nat.eq_of_testBit_eq
      intro i
      rw [Nat.zero_testBit]
      rcases Nat.lt_or_ge i 8 with z | z
      · rw [Bool.eq_false_iff]; exact fun q => c ⟨i, z, q⟩
      · exact Nat.testBit_lt_two_pow (Nat.lt_of_lt_of_le (show must < 2 ^ 8 by omega) (Nat.pow_le_pow_right (by omega) z))
  obtain ⟨f, h1, h2, h3⟩ := fb_first (p := fun i => must.testBit i = true) hex
  exact ⟨f, h1, h2, fun i hi => Bool.eq_false_iff.mpr (h3 i hi)⟩
theorem rd77 {must f fu : Nat} (hm : must < 256) (hf : f < 8) (h : fst1 must f) (hfu : 20 < fu) : m_Md_roundNow_L77 (nI must) fu 0 = some (nI f) := by
  obtain ⟨c, n', hc, e⟩ := up_go (F := fun n i (_ : Unit) => m_Md_roundNow_L77 (nI must) n (nI i)) f (fun _ _ => True)
    (by
      rintro n i - hi -
      refine ⟨(), trivial, ?_⟩
      show m_Md_roundNow_L77 (nI must) (n + 1) (nI i) = _
      rw [m_Md_roundNow_L77, md_has (by omega) (by omega), bd1_s, h.2 i hi, if_pos (show (if false = true then (1 : Int32) else 0) = 0 from rfl), lt_eq, nI_1])
    f fu 0 () (by omega) (by omega) trivial
  have e : m_Md_roundNow_L77 (nI must) fu 0 = m_Md_roundNow_L77 (nI must) (n' + 1) (nI f) := e
  rw [e, m_Md_roundNow_L77, md_has (by omega) (by omega), bd1_s, h.1, if_pos rfl, if_neg (by decide)]
/-- the least of all rows, as far as the reference knows -/
def RV (D : Nat → Nat → Nat) (f must v : Nat) : Prop := v ≤ FAR ∧ (v < FAR → ∃ k last, Pk D f k must last v) ∧ ∀ k last c, Pk D f k must last c → v ≤ c
theorem md_round_s {w best next round ways : Nat → Int32} {D : Nat → Nat → Nat} {M n fu : Nat} {s : Nat → Nat} (hM : inM M) (hw0 : w 0 = nI M) (hw1 : w 1 = nI n) (hn : n ≤ 8) (hs : ∀ p, p < n → s p < 2 ^ M) (hw : ∀ p, p < n → w (2 + p) = nI (s p)) (hD1 : ∀ p q, D p q ≤ 72) (hD2 : ∀ p q, D p q = D q p) (hD : ∀ p q, p < n → q < n → s p ≠ 0 → s q ≠ 0 → wayN M (s p) (s q) (D p q)) (hfu : 5000 < fu) : ∃ v best' next' round' ways', m_Md_roundNow fu best next round w ways = some (nI v, best', next', round', ways') ∧ (mustN s n = 0 → v = 0) ∧ ∀ f, f < 8 → fst1 (mustN s n) f → RV D f (mustN s n) v := by
  have hp := p2_le hM.2
  have hFar : FAR = 1000000 := rfl
  have F1 : (1000000 : Int32) = nI FAR := rfl
  have C1 : ∀ (β : Type) (k : Option β), ck (1 : Int32) 190 k = k := fun β k => ck_s (i := 1) (by omega) (by omega)
  have W1 : w (1 : Int32).toNatClampNeg = nI n := hw1
  have hmust := must256 (s := s) hn
  have e11 : m_Md_roundNow_L11 w fu 0 (nI n - 1) = some (nI (mustN s n)) := by
    have h0 := rd11 (w := w) (s := fun p => if p < n then s p else 0) (M := M) (fun p _ => by
      try dsimp only
      by_cases z : p < n
      · rw [if_pos z]; have := hs p z; omega
      · rw [if_neg z]; omega) n fu 0 hn (fun q hq => by rw [if_pos hq]; exact hw q hq) (by omega)
    have em : mustN (fun p => if p < n then s p else 0) n = mustN s n := by
      apply Nat.eq_of_testBit_eq
      intro i
      rw [Bool.eq_iff_iff, must_bit, must_bit]
      constructor
      · rintro ⟨a, b⟩; rw [if_pos a] at b; exact ⟨a, b⟩
      · rintro ⟨a, b⟩; rw [if_pos a]; exact ⟨a, b⟩
    rw [em, Nat.zero_or] at h0
    exact h0
  unfold m_Md_roundNow
  rw [lt_eq, C1, W1, lt_eq, e11, bd1_s]
  by_cases c : mustN s n = 0
  · rw [c, if_pos (show nI 0 = 0 from rfl)]
    refine ⟨0, best, next, round, ways, rfl, fun _ => rfl, fun f hf h => ?_⟩
    have := h.1
    rw [Nat.zero_testBit] at this; cases this
  · rw [if_neg (nI_ne0 (by omega) (by omega))]
    obtain ⟨be, ne, wy, ew, hwy⟩ := md_layWays_s (best := best) (next := next) (ways := ways) hM hw0 hw1 hn hs hw hD2 hD hfu
    obtain ⟨f, hf, hf1⟩ := fst_ex hmust c
    have hways : ∀ p q, p ≠ q → (mustN s n).testBit p = true → (mustN s n).testBit q = true → wy (8 * p + q) = nI (D p q) := fun p q hne a b => by
      rw [must_bit] at a b
      exact hwy p q a.1 b.1 hne a.2 b.2
    have hpf := or256 (m := 0) (by omega) hf
    rw [Nat.zero_or] at hpf
    -- all far
    obtain ⟨r1, n1, hr1, e1⟩ := up_go (F := fun k i (r : Nat → Int32) => m_Md_roundNow_L54 k (nI i) r) 2048 (fun i r => ∀ x, x < i → r x = nI FAR)
      (by
        rintro k i r hi hr
        refine ⟨upd r i (nI FAR), fun x hx => ?_, ?_⟩
        · by_cases z : x = i
          · subst z; exact pk_us
          · rw [pk_un z]; exact hr x (by omega)
        · show m_Md_roundNow_L54 (k + 1) (nI i) r = _
          rw [m_Md_roundNow_L54, show (2048 : Int32) = nI 2048 from rfl, ile (by omega) (by omega), if_neg (by omega), ck_s (by omega) (by omega), cl_s (by omega), lt_eq, lt_eq, nI_1, F1])
      2048 fu 0 round (by omega) (by omega) (fun x hx => absurd hx (Nat.not_lt_zero x))
    have e1 : m_Md_roundNow_L54 fu 0 round = m_Md_roundNow_L54 (n1 + 1) (nI 2048) r1 := e1
    have hR0 : RT D f (mustN s n) 0 (upd r1 (8 * 2 ^ f + f) (nI 0)) := by
      refine ⟨fun i hi => ?_, ⟨0, pk_us, rfl⟩, fun k mask last c q v _ _ _ _ _ _ h => absurd h (Nat.not_lt_zero _)⟩
      by_cases z : i = 8 * 2 ^ f + f
      · subst z
        refine ⟨0, by omega, pk_us, fun _ => ?_⟩
        rw [show (8 * 2 ^ f + f) / 8 = 2 ^ f by omega, show (8 * 2 ^ f + f) % 8 = f by omega]
        refine ⟨fun j hj => ?_, 0, rfl, rfl, rfl⟩
        rw [Nat.testBit_two_pow, decide_eq_true_eq] at hj
        subst hj; exact hf1.1
      · exact ⟨FAR, Nat.le_refl _, by rw [pk_un z]; exact hr1 i hi, fun h => absurd h (Nat.lt_irrefl _)⟩
    -- the table
    obtain ⟨⟨l2, r2⟩, n2, ⟨L, eL, bL, pL, hL, -⟩, e2⟩ := up_go (F := fun k i (c : Int32 × (Nat → Int32)) => m_Md_roundNow_L111 fu (nI (mustN s n)) w wy k c.1 (nI i) c.2) 2048 (fun i c => ∃ L, c.1 = nI L ∧ L ≤ FAR ∧ (L < FAR → ∃ k last, Pk D f k (mustN s n) last L) ∧ (∀ last, last < 8 → 8 * mustN s n + last < i → ∀ k c', Pk D f k (mustN s n) last c' → L ≤ c') ∧ RT D f (mustN s n) i c.2)
      (by
        rintro k i ⟨l1, r⟩ hi ⟨L, eL, bL, pL, hL, hR⟩
        obtain rfl : l1 = nI L := eL
        have hR : RT D f (mustN s n) i r := hR
        have ei : i = 8 * (i / 8) + i % 8 := by omega
        have hR' := hR
        rw [ei] at hR'
        obtain ⟨r', er, hRn, hkeep⟩ := rd165 (fu := fu) (l0 := i % 8) (m0 := i / 8) hf hn hw1 hmust (fun q hq => (must_bit.mp hq).1) hD1 hways (by omega) (by omega) (by omega) hR'
        rw [← ei] at er hRn
        obtain ⟨v, bv, ev, pv⟩ := hR.1 i hi
        have unf : ∀ L', (if i / 8 = mustN s n ∧ v < L then L' = v else L' = L) → m_Md_roundNow_L111 fu (nI (mustN s n)) w wy (k + 1) (nI L) (nI i) r = m_Md_roundNow_L111 fu (nI (mustN s n)) w wy k (nI L') (nI (i + 1)) r' := by
          intro L' hL'
          rw [m_Md_roundNow_L111, show (2048 : Int32) = nI 2048 from rfl, ile (by omega) (by omega), if_neg (by omega), show (8 : Int32) = nI 8 from rfl, pk_div (by omega) (by omega) (by omega), lt_eq, show nI i - nI (i / 8) * nI 8 = nI (i % 8) from by rw [pk_mul, pk_sub (by omega)]; congr 1; omega, lt_eq, ieq (by omega) (by omega), ck_s (by omega) (by omega), cl_s (by omega), ev, ile (by omega) (by omega), ck_s (by omega) (by omega)]
          by_cases z1 : i / 8 = mustN s n
          · rw [if_pos z1]
            by_cases z2 : L ≤ v
            · rw [if_neg (fun q => by omega)] at hL'
              rw [if_pos z2, bd1_s, lt_eq, lt_eq, er, bd1_s, lt_eq, nI_1, hL']
            · rw [if_pos ⟨z1, by omega⟩] at hL'
              rw [if_neg z2, bd1_s, lt_eq, lt_eq, er, bd1_s, lt_eq, nI_1, hL']
          · rw [if_neg (fun q => z1 q.1)] at hL'
            rw [if_neg z1, bd1_s, lt_eq, lt_eq, er, bd1_s, lt_eq, nI_1, hL']
        have hat : i / 8 = mustN s n → ∀ k c', Pk D f k (mustN s n) (i % 8) c' → v ≤ c' := fun z k c' hp => RT_at hf hR (show mustN s n < 256 from hmust) (by omega) (by omega) (fun _ q => q) k c' v hp (by rw [← z, ← ei]; exact ev) bv
        by_cases z : i / 8 = mustN s n ∧ v < L
        · refine ⟨(nI v, r'), ⟨v, rfl, bv, fun h => ?_, fun last hl hlt k c' hp => ?_, hRn⟩, unf v (by rw [if_pos z])⟩
          · obtain ⟨-, k, hk⟩ := pv h
            rw [z.1] at hk
            exact ⟨k, _, hk⟩
          · by_cases y : 8 * mustN s n + last = i
            · have : last = i % 8 := by omega
              subst this
              exact hat z.1 k c' hp
            · have := hL last hl (by omega) k c' hp
              omega
        · refine ⟨(nI L, r'), ⟨L, rfl, bL, pL, fun last hl hlt k c' hp => ?_, hRn⟩, unf L (by rw [if_neg z])⟩
          by_cases y : 8 * mustN s n + last = i
          · have : last = i % 8 := by omega
            subst this
            have h1 := hat (by omega) k c' hp
            rcases Nat.lt_or_ge v L with x | x
            · exact absurd ⟨by omega, x⟩ z
            · omega
          · exact hL last hl (by omega) k c' hp)
      2048 fu 0 (nI FAR, upd r1 (8 * 2 ^ f + f) (nI 0)) (by omega) (by omega) ⟨FAR, rfl, Nat.le_refl _, fun h => absurd h (Nat.lt_irrefl _), fun last _ h => absurd h (Nat.not_lt_zero _), hR0⟩
    have e2 : m_Md_roundNow_L111 fu (nI (mustN s n)) w wy fu 1000000 0 (upd r1 (8 * 2 ^ f + f) 0) = m_Md_roundNow_L111 fu (nI (mustN s n)) w wy (n2 + 1) l2 (nI 2048) r2 := e2
    obtain rfl : l2 = nI L := eL
    refine ⟨L, be, ne, r2, wy, ?_, fun h => absurd h c, fun f' hf' hf1' => ?_⟩
    · rw [ew, bd3_s, lt_eq, e1, m_Md_roundNow_L54, show (2048 : Int32) = nI 2048 from rfl, ile (by omega) (by omega), if_pos (by omega), bd1_s, lt_eq, rd77 hmust hf hf1 (by omega), bd1_s, p2_s (by omega), show (8 : Int32) = nI 8 from rfl, pk_mul, nI_add, ck_s (by omega) (by omega), lt_eq, cl_s (by omega), lt_eq, lt_eq, e2, m_Md_roundNow_L111, show (2048 : Int32) = nI 2048 from rfl, ile (by omega) (by omega), if_pos (by omega), bd2_s]
    · obtain rfl : f' = f := by
        rcases Nat.lt_trichotomy f' f with z | z | z
        · have := hf1.2 f' z; rw [hf1'.1] at this; cases this
        · exact z
        · have := hf1'.2 f z; rw [hf1.1] at this; cases this
      refine ⟨bL, pL, fun k last c' hp => ?_⟩
      have hl : last < 8 := by
        have := (Pk_in hp).1
        rcases Nat.lt_or_ge last 8 with z | z
        · exact z
        · rw [Nat.testBit_lt_two_pow (Nat.lt_of_lt_of_le (show mustN s n < 2 ^ 8 by omega) (Nat.pow_le_pow_right (by omega) z))] at this; cases this
      exact hL last hl (by omega) k c' hp
