/-! the way round the shelf: the class, its table -/
theorem tab7 : allB (fun m => allB (fun l => decide ((nI m &&& nI (2 ^ l) = 0 ↔ m.testBit l = false) ∧ (m.testBit l = true → nI m &&& (nI (2 ^ l) ^^^ (-1)) = nI (m - 2 ^ l) ∧ (m - 2 ^ l) ||| 2 ^ l = m ∧ (m - 2 ^ l).testBit l = false))) 7) 128 = true := by decide +kernel
theorem t7 {m l : Nat} (hm : m < 128) (hl : l < 7) : (nI m &&& nI (2 ^ l) = 0 ↔ m.testBit l = false) ∧ (m.testBit l = true → nI m &&& (nI (2 ^ l) ^^^ (-1)) = nI (m - 2 ^ l) ∧ (m - 2 ^ l) ||| 2 ^ l = m ∧ (m - 2 ^ l).testBit l = false) :=
  of_decide_eq_true (allB_spec (allB_spec tab7 m hm) l hl)
theorem tb21 (m i : Nat) : (2 * m + 1).testBit (i + 1) = m.testBit i := by rw [Nat.testBit_succ, show (2 * m + 1) / 2 = m by omega]
theorem tb20 (m : Nat) : (2 * m + 1).testBit 0 = true := by rw [Nat.testBit_zero]; simp
theorem or21 (b l : Nat) : 2 * (b ||| 2 ^ l) + 1 = (2 * b + 1) ||| 2 ^ (l + 1) := by
  apply Nat.eq_of_testBit_eq
  intro i
  rw [fb_bit_set]
  cases i with
  | zero => rw [tb20, tb20]; rfl
  | succ i => rw [tb21, tb21, fb_bit_set]; simp
theorem or_inj {x y q : Nat} (hx : x.testBit q = false) (hy : y.testBit q = false) (h : x ||| 2 ^ q = y ||| 2 ^ q) : x = y := by
  apply Nat.eq_of_testBit_eq
  intro i
  have := congrArg (fun z => z.testBit i) h
  rw [fb_bit_set, fb_bit_set] at this
  by_cases c : i = q
  · subst c; rw [hx, hy]
  · simpa [c] using this
theorem Pk_step {D : Nat → Nat → Nat} {k b l c : Nat} (hb : b.testBit l = false) : Pk D 0 (k + 1) (2 * (b ||| 2 ^ l) + 1) (l + 1) c ↔ ∃ last' c', Pk D 0 k (2 * b + 1) last' c' ∧ c = c' + D last' (l + 1) := by
  constructor
  · rintro ⟨mask', last', c', h1, h2, h3, h4⟩
    rw [or21] at h3
    have := or_inj (by rw [tb21]; exact hb) h2 h3
    subst this
    exact ⟨last', c', h1, h4⟩
  · rintro ⟨last', c', h1, h4⟩
    exact ⟨2 * b + 1, last', c', h1, by rw [tb21]; exact hb, or21 b l, h4⟩
def BE (D : Nat → Nat → Nat) (m l v : Nat) : Prop := (∃ k, Pk D 0 k (2 * m + 1) (l + 1) v) ∧ ∀ k c, Pk D 0 k (2 * m + 1) (l + 1) c → v ≤ c
theorem Pk_b {D : Nat → Nat → Nat} (hD : ∀ p q, D p q ≤ 72) {f k mask last c : Nat} (h : Pk D f k mask last c) (hm : mask < 256) : c ≤ 504 := by
  have h1 := Pk_cost hD h
  have h2 := Pk_pop (n := 8) h hm
  have h3 := pop_le 8 mask
  omega
theorem leastTo_s {best le : Nat → Int32} {D : Nat → Nat → Nat} {o b l fu : Nat} (ho : o ≤ 7) (hb : b < 2 ^ o) (hl : l < o) (hbl : b.testBit l = false) (hle : ∀ i j, i < o + 1 → j < o + 1 → i ≠ j → le (i * 8 + j) = nI (D i j)) (hD : ∀ p q, D p q ≤ 72) (hbest : ∀ q, q < o → b.testBit q = true → ∃ v, best (b * 7 + q) = nI v ∧ BE D b q v) (hfu : 20 < fu) : ∃ v, m_Round_leastTo fu best le (nI l) (nI b) (nI o) = some (nI v) ∧ BE D (b ||| 2 ^ l) l v := by
  have hb7 : b < 128 := Nat.lt_of_lt_of_le hb (Nat.pow_le_pow_right (n := 2) (by omega) ho)
  unfold m_Round_leastTo
  by_cases c : b = 0
  · subst c
    refine ⟨D 0 (l + 1), ?_, ⟨1, (Pk_step hbl).mpr ⟨0, 0, ⟨rfl, rfl, rfl⟩, by omega⟩⟩, ?_⟩
    · rw [if_pos (show nI 0 = 0 from rfl), nI_1, ck_s (by omega) (by omega), cl_s (by omega)]
      have := hle 0 (l + 1) (by omega) (by omega) (by omega)
      rw [Nat.zero_mul, Nat.zero_add] at this
      rw [this]
    · intro k c hp
      cases k with
      | zero => exact absurd hp.2.1 (by omega)
      | succ k =>
        obtain ⟨last', c', h1, h2⟩ := (Pk_step hbl).mp hp
        have h3 := (Pk_in h1).1
        have : last' = 0 := by
          cases last' with
          | zero => rfl
          | succ x => rw [tb21, Nat.zero_testBit] at h3; cases h3
        subst this
        omega
  · rw [if_neg (nI_ne0 (by omega) (by omega)), lt_eq, lt_eq]
    obtain ⟨st, n', ⟨L, eL, bL, pL, hL⟩, e⟩ := up_go (F := fun k q (st : Int32) => m_Round_leastTo_L20 (nI o) (nI b) (nI l) best le k st (nI q)) o (fun q st => ∃ L, st = nI L ∧ L ≤ 1000000 ∧ (L < 1000000 → ∃ k, Pk D 0 k (2 * (b ||| 2 ^ l) + 1) (l + 1) L) ∧ ∀ q', q' < q → b.testBit q' = true → ∀ k c, Pk D 0 k (2 * b + 1) (q' + 1) c → L ≤ c + D (q' + 1) (l + 1))
      (by
        rintro k q st hq ⟨L, rfl, bL, pL, hL⟩
        have ht := t7 hb7 (show q < 7 by omega)
        by_cases z : b.testBit q = true
        · obtain ⟨v, ev, ⟨kv, pv⟩, hv⟩ := hbest q hq z
          have hv5 := Pk_b hD pv (by omega)
          have hd := hD (q + 1) (l + 1)
          have hne : l ≠ q := fun y => by subst y; rw [z] at hbl; cases hbl
          have el : le ((q + 1) * 8 + l + 1) = nI (D (q + 1) (l + 1)) := hle (q + 1) (l + 1) (by omega) (by omega) (by omega)
          refine ⟨nI (if v + D (q + 1) (l + 1) < L then v + D (q + 1) (l + 1) else L), ⟨_, rfl, ?_, ?_, ?_⟩, ?_⟩
          · split <;> omega
          · intro h
            by_cases y : v + D (q + 1) (l + 1) < L
            · rw [if_pos y]
              exact ⟨kv + 1, (Pk_step hbl).mpr ⟨_, _, pv, rfl⟩⟩
            · rw [if_neg y] at h ⊢
              exact pL h
          · intro q' hq' hb' k c hp
            by_cases y : q' = q
            · subst y
              have := hv k c hp
              split <;> omega
            · have := hL q' (by omega) hb' k c hp
              split <;> omega
          · show m_Round_leastTo_L20 (nI o) (nI b) (nI l) best le (k + 1) (nI L) (nI q) = _
            have hz : ¬ nI b &&& nI (2 ^ q) = 0 := fun y => by have := ht.1.mp y; rw [z] at this; cases this
            rw [m_Round_leastTo_L20, ile (by omega) (by omega), if_neg (by omega), p2_s (by omega), if_neg hz, show (7 : Int32) = nI 7 from rfl, show (8 : Int32) = nI 8 from rfl, pk_mul, nI_add, nI_1, pk_mul, nI_add, nI_1, ck_s (by omega) (by omega), ck_s (by omega) (by omega), cl_s (by omega), cl_s (by omega), ev, el, nI_add, lt_eq, ilt (by omega) (by omega), lt_eq, bd1_s, lt_eq]
            by_cases y : v + D (q + 1) (l + 1) < L
            · rw [if_pos y, if_pos y]
            · rw [if_neg y, if_neg y]
        · refine ⟨nI L, ⟨L, rfl, bL, pL, fun q' hq' hb' => ?_⟩, ?_⟩
          · by_cases y : q' = q
            · subst y; exact absurd hb' z
            · exact hL q' (by omega) hb'
          · show m_Round_leastTo_L20 (nI o) (nI b) (nI l) best le (k + 1) (nI L) (nI q) = _
            rw [m_Round_leastTo_L20, ile (by omega) (by omega), if_neg (by omega), p2_s (by omega), if_pos (ht.1.mpr (by simpa using z)), bd1_s, lt_eq, nI_1])
      o fu 0 (nI 1000000) (by omega) (by omega) ⟨1000000, rfl, Nat.le_refl _, fun h => absurd h (Nat.lt_irrefl _), fun q h => absurd h (Nat.not_lt_zero q)⟩
    have e : m_Round_leastTo_L20 (nI o) (nI b) (nI l) best le fu 1000000 0 = m_Round_leastTo_L20 (nI o) (nI b) (nI l) best le (n' + 1) st (nI o) := e
    subst eL
    refine ⟨L, ?_, ?_, ?_⟩
    · rw [e, m_Round_leastTo_L20, ile (by omega) (by omega), if_pos (by omega), bd1_s]
    · obtain ⟨q, hq⟩ : ∃ q, b.testBit q = true := Nat.exists_testBit_of_ne_zero c
      have hqo : q < o := by
        rcases Nat.lt_or_ge q o with z | z
        · exact z
        · rw [Nat.testBit_lt_two_pow (Nat.lt_of_lt_of_le hb (Nat.pow_le_pow_right (by omega) z))] at hq; cases hq
      obtain ⟨v, ev, ⟨kv, pv⟩, hv⟩ := hbest q hqo hq
      have h1 := Pk_b hD pv (by omega)
      have h2 := hL q hqo hq kv v pv
      have h3 := hD (q + 1) (l + 1)
      exact pL (by omega)
    · intro k c' hp
      cases k with
      | zero => exact absurd hp.2.1 (by omega)
      | succ k =>
        obtain ⟨last', c'', h1, h2⟩ := (Pk_step hbl).mp hp
        have h3 := (Pk_in h1).1
        cases last' with
        | zero =>
          cases k with
          | zero => exact absurd h1.1 (by omega)
          | succ k => exact absurd rfl (Pk_last h1)
        | succ x =>
          rw [tb21] at h3
          have hx : x < o := by
            rcases Nat.lt_or_ge x o with z | z
            · exact z
            · rw [Nat.testBit_lt_two_pow (Nat.lt_of_lt_of_le hb (Nat.pow_le_pow_right (by omega) z))] at h3; cases h3
          rw [h2]
          exact hL x hx h3 k c'' h1
