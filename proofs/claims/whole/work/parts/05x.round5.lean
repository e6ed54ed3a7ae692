/-! the way round the shelf: the class, whole -/
theorem idx7 {a b c d : Nat} (h : a * 7 + b = c * 7 + d) (hb : b < 7) (hd : d < 7) : a = c ∧ b = d := by omega
def TB7 (D : Nat → Nat → Nat) (o m : Nat) (rd : Nat → Int32) : Prop := ∀ b q, b < m → q < o → b.testBit q = true → ∃ v, rd (b * 7 + q) = nI v ∧ BE D b q v
theorem least51 {le rd : Nat → Int32} {D : Nat → Nat → Nat} {o m fu : Nat} (ho : o ≤ 7) (hm : m < 2 ^ o) (hle : ∀ i j, i < o + 1 → j < o + 1 → i ≠ j → le (i * 8 + j) = nI (D i j)) (hD : ∀ p q, D p q ≤ 72) (hfu : 20 < fu) (hT : TB7 D o m rd) : ∃ rd', m_Round_least_L51 fu (nI o) (nI m) le fu 0 rd = some rd' ∧ TB7 D o (m + 1) rd' := by
  have hm7 : m < 128 := Nat.lt_of_lt_of_le hm (Nat.pow_le_pow_right (n := 2) (by omega) ho)
  obtain ⟨rd', n', ⟨h1, h2⟩, e⟩ := up_go (F := fun k q (rd : Nat → Int32) => m_Round_least_L51 fu (nI o) (nI m) le k (nI q) rd) o (fun q rd => TB7 D o m rd ∧ ∀ q', q' < q → m.testBit q' = true → ∃ v, rd (m * 7 + q') = nI v ∧ BE D m q' v)
    (by
      rintro k q rd hq ⟨h1, h2⟩
      have ht := t7 hm7 (show q < 7 by omega)
      by_cases z : m.testBit q = true
      · obtain ⟨e1, e2, e3⟩ := ht.2 z
        have hlt : m - 2 ^ q < m := by
          have := or_lt8 e3
          omega
        obtain ⟨v, ev, hv⟩ := leastTo_s (fu := fu) (best := rd) (b := m - 2 ^ q) ho (by omega) hq e3 hle hD (fun q' hq' hb' => h1 _ q' hlt hq' hb') hfu
        rw [e2] at hv
        refine ⟨upd rd (m * 7 + q) (nI v), ⟨fun b q' hb hq' hbb => ?_, fun q' hq' hb' => ?_⟩, ?_⟩
        · rw [pk_un (fun h => by have := (idx7 h (by omega) (by omega)).1; omega)]
          exact h1 b q' hb hq' hbb
        · by_cases y : q' = q
          · subst y; exact ⟨v, pk_us, hv⟩
          · rw [pk_un (by omega)]; exact h2 q' (by omega) hb'
        · show m_Round_least_L51 fu (nI o) (nI m) le (k + 1) (nI q) rd = _
          have hz : ¬ nI m &&& nI (2 ^ q) = 0 := fun y => by have := ht.1.mp y; rw [z] at this; cases this
          rw [m_Round_least_L51, ile (by omega) (by omega), if_neg (by omega), p2_s (by omega), if_neg hz, e1, ev, bd1_s, show (7 : Int32) = nI 7 from rfl, pk_mul, nI_add, ck_s (by omega) (by omega), cl_s (by omega), lt_eq, bd1_s, lt_eq, nI_1]
      · refine ⟨rd, ⟨h1, fun q' hq' hb' => ?_⟩, ?_⟩
        · by_cases y : q' = q
          · subst y; exact absurd hb' z
          · exact h2 q' (by omega) hb'
        · show m_Round_least_L51 fu (nI o) (nI m) le (k + 1) (nI q) rd = _
          rw [m_Round_least_L51, ile (by omega) (by omega), if_neg (by omega), p2_s (by omega), if_pos (ht.1.mpr (by simpa using z)), bd1_s, lt_eq, nI_1])
    o fu 0 rd (by omega) (by omega) ⟨hT, fun q h => absurd h (Nat.not_lt_zero q)⟩
  have e : m_Round_least_L51 fu (nI o) (nI m) le fu 0 rd = m_Round_least_L51 fu (nI o) (nI m) le (n' + 1) (nI o) rd' := e
  refine ⟨rd', ?_, fun b q hb hq hbb => ?_⟩
  · rw [e, m_Round_least_L51, ile (by omega) (by omega), if_pos (by omega)]
  · by_cases y : b = m
    · subst y; exact h2 q hq hbb
    · exact h1 b q (by omega) hq hbb
theorem least41 {le rd : Nat → Int32} {D : Nat → Nat → Nat} {o fu : Nat} (ho : o ≤ 7) (hle : ∀ i j, i < o + 1 → j < o + 1 → i ≠ j → le (i * 8 + j) = nI (D i j)) (hD : ∀ p q, D p q ≤ 72) (hfu : 200 < fu) : ∃ rd', m_Round_least_L41 fu (nI (2 ^ o - 1)) (nI o) le fu 1 rd = some rd' ∧ TB7 D o (2 ^ o) rd' := by
  have h7 : 2 ^ o ≤ 128 := Nat.pow_le_pow_right (n := 2) (by omega) ho
  have h0 : 0 < 2 ^ o := Nat.two_pow_pos o
  obtain ⟨rd', n', h1, e⟩ := up_go (F := fun k m (rd : Nat → Int32) => m_Round_least_L41 fu (nI (2 ^ o - 1)) (nI o) le k (nI m) rd) (2 ^ o) (fun m rd => TB7 D o m rd)
    (by
      rintro k m rd hm hT
      obtain ⟨rd', e, hT'⟩ := least51 (le := le) (fu := fu) ho hm hle hD (by omega) hT
      refine ⟨rd', hT', ?_⟩
      show m_Round_least_L41 fu (nI (2 ^ o - 1)) (nI o) le (k + 1) (nI m) rd = _
      rw [m_Round_least_L41, ilt (by omega) (by omega), if_neg (by omega), lt_eq, e, bd1_s, lt_eq, nI_1])
    (2 ^ o - 1) fu 1 rd (by omega) (by omega) (fun b q hb _ hbb => by
      obtain rfl : b = 0 := by omega
      rw [Nat.zero_testBit] at hbb; cases hbb)
  have e : m_Round_least_L41 fu (nI (2 ^ o - 1)) (nI o) le fu 1 rd = m_Round_least_L41 fu (nI (2 ^ o - 1)) (nI o) le (n' + 1) (nI (2 ^ o)) rd' := e
  refine ⟨rd', ?_, h1⟩
  rw [e, m_Round_least_L41, ilt (by omega) (by omega), if_pos (by omega)]
theorem least123 {rd : Nat → Int32} {D : Nat → Nat → Nat} {o fu : Nat} (ho : o ≤ 7) (ho1 : 1 ≤ o) (hD : ∀ p q, D p q ≤ 72) (hfu : 200 < fu) (hT : TB7 D o (2 ^ o) rd) : ∃ v, m_Round_least_L123 (nI o) (nI (2 ^ o - 1)) rd fu (rd ((2 ^ o - 1) * 7)) 1 = some (nI v) ∧ (∃ k last, Pk D 0 k (2 ^ (o + 1) - 1) last v) ∧ ∀ k last c, Pk D 0 k (2 ^ (o + 1) - 1) last c → v ≤ c := by
  have h7 : 2 ^ o ≤ 128 := Nat.pow_le_pow_right (n := 2) (by omega) ho
  have h0 : 2 ≤ 2 ^ o := Nat.pow_le_pow_right (n := 2) (i := 1) (by omega) ho1
  have e2 : 2 ^ (o + 1) - 1 = 2 * (2 ^ o - 1) + 1 := by rw [Nat.pow_succ]; omega
  have hT' : ∀ q, q < o → ∃ v, rd ((2 ^ o - 1) * 7 + q) = nI v ∧ BE D (2 ^ o - 1) q v := fun q hq => hT _ q (by omega) hq (by rw [Nat.testBit_two_pow_sub_one]; simpa using hq)
  obtain ⟨v0, e0, hv0⟩ := hT' 0 (by omega)
  rw [Nat.add_zero] at e0
  obtain ⟨st, n', ⟨L, eL, pL, hL⟩, e⟩ := up_go (F := fun k q (st : Int32) => m_Round_least_L123 (nI o) (nI (2 ^ o - 1)) rd k st (nI q)) o (fun q st => ∃ L, st = nI L ∧ (∃ k last, Pk D 0 k (2 ^ (o + 1) - 1) last L) ∧ ∀ q', q' < q → ∀ k c, Pk D 0 k (2 * (2 ^ o - 1) + 1) (q' + 1) c → L ≤ c)
    (by
      rintro k q st hq ⟨L, rfl, ⟨kL, lL, pL⟩, hL⟩
      obtain ⟨v, ev, ⟨kv, pv⟩, hv⟩ := hT' q hq
      have b1 := Pk_b hD pv (by omega)
      have b2 := Pk_b hD pL (by omega)
      refine ⟨nI (if v < L then v else L), ⟨_, rfl, ?_, fun q' hq' k c hp => ?_⟩, ?_⟩
      · by_cases z : v < L
        · rw [if_pos z, e2]; exact ⟨_, _, pv⟩
        · rw [if_neg z]; exact ⟨_, _, pL⟩
      · by_cases y : q' = q
        · subst y
          have := hv k c hp
          split <;> omega
        · have := hL q' (by omega) k c hp
          split <;> omega
      · show m_Round_least_L123 (nI o) (nI (2 ^ o - 1)) rd (k + 1) (nI L) (nI q) = _
        rw [m_Round_least_L123, ile (by omega) (by omega), if_neg (by omega), show (7 : Int32) = nI 7 from rfl, pk_mul, nI_add, ck_s (by omega) (by omega), cl_s (by omega), ev, ilt (by omega) (by omega), lt_eq, lt_eq, nI_1]
        by_cases z : v < L
        · rw [if_pos z, if_pos z]
        · rw [if_neg z, if_neg z])
    (o - 1) fu 1 (rd ((2 ^ o - 1) * 7)) (by omega) (by omega) ⟨v0, e0, by rw [e2]; exact ⟨_, _, hv0.1.choose_spec⟩, fun q' hq' k c hp => by
      obtain rfl : q' = 0 := by omega
      exact hv0.2 k c hp⟩
  have e : m_Round_least_L123 (nI o) (nI (2 ^ o - 1)) rd fu (rd ((2 ^ o - 1) * 7)) 1 = m_Round_least_L123 (nI o) (nI (2 ^ o - 1)) rd (n' + 1) st (nI o) := e
  subst eL
  refine ⟨L, ?_, pL, fun k last c hp => ?_⟩
  · rw [e, m_Round_least_L123, ile (by omega) (by omega), if_pos (by omega)]
  · rw [e2] at hp
    cases last with
    | zero =>
      cases k with
      | zero => have h1 := hp.1; rw [Nat.pow_zero] at h1; omega
      | succ k => exact absurd rfl (Pk_last hp)
    | succ x =>
      have h3 := (Pk_in hp).1
      rw [tb21, Nat.testBit_two_pow_sub_one] at h3
      exact hL x (of_decide_eq_true h3) k c hp
/-! from the stops to the places and back -/
theorem ka_inj {s κ : Nat → Nat} {n i j : Nat} (h : isKa s n κ) (hi : i < cz s n) (hj : j < cz s n) (e : κ i = κ j) : i = j := by
  have h1 := (h i hi).2.2
  have h2 := (h j hj).2.2
  rw [e] at h1; omega
theorem ka_of {s κ : Nat → Nat} {n p : Nat} (h : isKa s n κ) (hp : p < n) (h0 : s p ≠ 0) : cz s p < cz s n ∧ κ (cz s p) = p := by
  have h1 := cz_lt hp h0
  refine ⟨h1, ?_⟩
  obtain ⟨q1, q2, q3⟩ := h _ h1
  exact fb_ct_kth_one (p := fun i => decide (s i ≠ 0)) (decide_eq_true q2) (decide_eq_true h0) q3
theorem Pk_to {s κ : Nat → Nat} {n : Nat} {D : Nat → Nat → Nat} (h : isKa s n κ) (ht : 0 < cz s n) : ∀ {k mask last c : Nat}, Pk (fun i j => D (κ i) (κ j)) 0 k mask last c → mask < 2 ^ (cz s n) → Pk D (κ 0) k (acc κ mask (cz s n)) (κ last) c
  | 0, mask, last, c, hp, hm => by
    obtain ⟨rfl, rfl, rfl⟩ := hp
    refine ⟨?_, rfl, rfl⟩
    apply Nat.eq_of_testBit_eq
    intro i
    rw [Bool.eq_iff_iff, acc_bit, Nat.testBit_two_pow]
    constructor
    · rintro ⟨k, hk, hb, e⟩
      rw [Nat.testBit_two_pow] at hb
      have := of_decide_eq_true hb
      subst this
      exact decide_eq_true e
    · intro e
      exact ⟨0, ht, by decide, of_decide_eq_true e⟩
  | k + 1, mask, last, c, hp, hm => by
    obtain ⟨mask', last', c', h1, h2, h3, h4⟩ := hp
    have hm' : mask' < 2 ^ (cz s n) := by
      have : mask' ≤ mask := by rw [h3]; exact Nat.left_le_or
      omega
    have hl : last < cz s n := by
      have h5 : mask.testBit last = true := by rw [h3, fb_bit_set]; simp
      rcases Nat.lt_or_ge last (cz s n) with z | z
      · exact z
      · rw [Nat.testBit_lt_two_pow (Nat.lt_of_lt_of_le hm (Nat.pow_le_pow_right (by omega) z))] at h5; cases h5
    refine ⟨acc κ mask' (cz s n), κ last', c', Pk_to h ht h1 hm', ?_, ?_, h4⟩
    · rcases Bool.eq_false_or_eq_true ((acc κ mask' (cz s n)).testBit (κ last)) with z | z
      · obtain ⟨j, hj, hb, e⟩ := (acc_bit _ _ _ _).mp z
        have := ka_inj h hj hl e
        subst this
        rw [h2] at hb; cases hb
      · exact z
    · apply Nat.eq_of_testBit_eq
      intro i
      rw [fb_bit_set, Bool.eq_iff_iff, acc_bit, Bool.or_eq_true, acc_bit, decide_eq_true_iff]
      constructor
      · rintro ⟨j, hj, hb, e⟩
        rw [h3, fb_bit_set, Bool.or_eq_true, decide_eq_true_iff] at hb
        rcases hb with z | z
        · exact Or.inl ⟨j, hj, z, e⟩
        · subst z; exact Or.inr e.symm
      · rintro (⟨j, hj, hb, e⟩ | e)
        · exact ⟨j, hj, by rw [h3, fb_bit_set, hb]; rfl, e⟩
        · exact ⟨last, hl, by rw [h3, fb_bit_set]; simp, e.symm⟩
theorem Pk_from {s κ : Nat → Nat} {n : Nat} {D : Nat → Nat → Nat} (h : isKa s n κ) (ht : 0 < cz s n) : ∀ {k MASK LAST c : Nat}, Pk D (κ 0) k MASK LAST c → subM MASK (mustN s n) → ∃ mask last, mask < 2 ^ (cz s n) ∧ last < cz s n ∧ MASK = acc κ mask (cz s n) ∧ LAST = κ last ∧ Pk (fun i j => D (κ i) (κ j)) 0 k mask last c
  | 0, MASK, LAST, c, hp, hm => by
    obtain ⟨rfl, rfl, rfl⟩ := hp
    have h1 : (1 : Nat) < 2 ^ (cz s n) := Nat.one_lt_two_pow (by omega)
    exact ⟨1, 0, h1, ht, (Pk_to (D := D) h ht (k := 0) (mask := 1) (last := 0) (c := 0) ⟨rfl, rfl, rfl⟩ h1).1.symm, rfl, rfl, rfl, rfl⟩
  | k + 1, MASK, LAST, c, hp, hm => by
    obtain ⟨MASK', LAST', c', h1, h2, h3, h4⟩ := hp
    obtain ⟨mask, last, q1, q2, q3, q4, q5⟩ := Pk_from h ht h1 (fun i hi => hm i (by rw [h3, fb_bit_set, hi]; rfl))
    have hL := must_bit.mp (hm LAST (by rw [h3, fb_bit_set]; simp))
    obtain ⟨k1, k2⟩ := ka_of h hL.1 hL.2
    have hlt : mask ||| 2 ^ cz s LAST < 2 ^ cz s n := Nat.or_lt_two_pow q1 (Nat.pow_lt_pow_right (by omega) k1)
    have hp' : Pk (fun i j => D (κ i) (κ j)) 0 (k + 1) (mask ||| 2 ^ (cz s LAST)) (cz s LAST) c := by
      refine ⟨mask, last, c', q5, ?_, rfl, by dsimp only; rw [h4, q4, k2]⟩
      rcases Bool.eq_false_or_eq_true (mask.testBit (cz s LAST)) with z | z
      · have : MASK'.testBit LAST = true := by rw [q3, acc_bit]; exact ⟨_, k1, z, k2⟩
        rw [h2] at this; cases this
      · exact z
    refine ⟨mask ||| 2 ^ (cz s LAST), cz s LAST, hlt, k1, ?_, k2.symm, hp'⟩
    apply Nat.eq_of_testBit_eq
    intro i
    rw [h3, fb_bit_set, Bool.eq_iff_iff, acc_bit, Bool.or_eq_true, q3, acc_bit, decide_eq_true_iff]
    constructor
    · rintro (⟨j, hj, hb, e⟩ | e)
      · exact ⟨j, hj, by rw [fb_bit_set, hb]; rfl, e⟩
      · exact ⟨_, k1, by rw [fb_bit_set]; simp, by rw [k2, e]⟩
    · rintro ⟨j, hj, hb, e⟩
      rw [fb_bit_set, Bool.or_eq_true, decide_eq_true_iff] at hb
      rcases hb with z | z
      · exact Or.inl ⟨j, hj, z, e⟩
      · subst z; exact Or.inr (by rw [← e, k2])
theorem acc_must {s κ : Nat → Nat} {n : Nat} (h : isKa s n κ) : acc κ (2 ^ (cz s n) - 1) (cz s n) = mustN s n := by
  apply Nat.eq_of_testBit_eq
  intro i
  rw [Bool.eq_iff_iff, acc_bit, must_bit]
  constructor
  · rintro ⟨j, hj, -, e⟩
    obtain ⟨q1, q2, -⟩ := h j hj
    rw [← e]; exact ⟨q1, q2⟩
  · rintro ⟨h1, h2⟩
    obtain ⟨k1, k2⟩ := ka_of h h1 h2
    exact ⟨_, k1, by rw [Nat.testBit_two_pow_sub_one]; simpa using k1, k2⟩
theorem acc_full {s κ : Nat → Nat} {n mask : Nat} (h : isKa s n κ) (hm : mask < 2 ^ cz s n) (e : mustN s n = acc κ mask (cz s n)) : mask = 2 ^ (cz s n) - 1 := by
  apply Nat.eq_of_testBit_eq
  intro i
  rw [Nat.testBit_two_pow_sub_one]
  by_cases c : i < cz s n
  · obtain ⟨q1, q2, -⟩ := h i c
    have : (mustN s n).testBit (κ i) = true := must_bit.mpr ⟨q1, q2⟩
    rw [e, acc_bit] at this
    obtain ⟨j, hj, hb, e⟩ := this
    have := ka_inj h hj c e
    subst this
    rw [hb, decide_eq_true c]
  · rw [decide_eq_false c, Nat.testBit_lt_two_pow (Nat.lt_of_lt_of_le hm (Nat.pow_le_pow_right (by omega) (by omega)))]
theorem fst_ka {s κ : Nat → Nat} {n f : Nat} (h : isKa s n κ) (hf : fst1 (mustN s n) f) : 0 < cz s n ∧ f = κ 0 := by
  obtain ⟨h1, h2⟩ := must_bit.mp hf.1
  obtain ⟨k1, k2⟩ := ka_of h h1 h2
  have h0 : 0 < cz s n := by omega
  refine ⟨h0, ?_⟩
  obtain ⟨q1, q2, q3⟩ := h 0 h0
  rcases Nat.lt_trichotomy f (κ 0) with z | z | z
  · have := cz_lt z h2; omega
  · exact z
  · have := hf.2 _ z
    rw [must_bit.mpr ⟨q1, q2⟩] at this; cases this
theorem round_s {M n fu : Nat} {s : Nat → Nat} {D : Nat → Nat → Nat} {sets st le be : Nat → Int32} {stops : Int32} (hM : inM M) (hn : n ≤ 8) (hs : ∀ p, p < n → s p < 2 ^ M) (hw : ∀ p, p < n → sets p = nI (s p)) (hD1 : ∀ p q, D p q ≤ 72) (hD2 : ∀ p q, D p q = D q p) (hD : ∀ p q, p < n → q < n → s p ≠ 0 → s q ≠ 0 → wayN M (s p) (s q) (D p q)) (hfu : 5000 < fu) (cf ex p gp TB : Nat → Int32) (g1 : Int32) (rp TA : Nat → Int32) (g2 re : Int32) (sl : Nat → Int32) : ∃ v cf' ex' p' gp' TB' g1' rp' TA' g2' re' sl' be' le' st' t', m_Round_least fu (nI n) sets (nI M) cf ex p gp TB g1 rp TA g2 re sl be le st stops = some (nI v, cf', ex', p', gp', TB', g1', rp', TA', g2', re', sl', be', le', st', t') ∧ v ≤ 504 ∧ (mustN s n = 0 → v = 0) ∧ ∀ f, fst1 (mustN s n) f → RV D f (mustN s n) v := by
  have hp2 := p2_le hM.2
  have hFar : FAR = 1000000 := rfl
  obtain ⟨st1, e1, hst⟩ := stops_s (fu := fu) (stopSets := st) (stops := stops) (s := s) hn (fun p hp => ⟨by have := hs p hp; omega, hw p hp⟩) (by omega)
  obtain ⟨κ, hκ⟩ := ka_ex s n
  have hcn : cz s n ≤ n := fb_ct_le _ _
  unfold m_Round_least
  rw [e1, bd2_s, show (2 : Int32) = nI 2 from rfl, ile (by omega) (by omega)]
  by_cases c : 2 ≤ cz s n
  · rw [if_pos c]
    obtain ⟨cf1, ex1, p1, gp1, TB1, g11, rp1, TA1, g21, re1, sl1, le1, e2, hle⟩ := measure8 (M := M) (n := n) (t := cz s n) (fu := fu) (st := st1) (s := s) (κ := κ) (D := D) hM (by omega) (fun i hi => by
      obtain ⟨q1, q2, q3⟩ := hκ i hi
      have := hst (κ i) q1 q2
      rw [q3] at this
      exact ⟨this, q1, q2⟩) hs hD2 hD (by omega) cf ex p gp TB g1 rp TA g2 re sl le
    have ho : cz s n - 1 + 1 = cz s n := by omega
    obtain ⟨rd, e3, hT⟩ := least41 (le := le1) (rd := be) (D := fun i j => D (κ i) (κ j)) (o := cz s n - 1) (fu := fu) (by omega) (fun i j hi hj hne => hle i j (by omega) (by omega) hne) (fun _ _ => hD1 _ _) (by omega)
    obtain ⟨v, e4, ⟨k4, l4, p4⟩, hv⟩ := least123 (fu := fu) (o := cz s n - 1) (by omega) (by omega) (fun _ _ => hD1 _ _) (by omega) hT
    rw [ho] at p4 hv
    have h7 : 2 ^ (cz s n - 1) ≤ 128 := Nat.pow_le_pow_right (n := 2) (j := 7) (by omega) (by omega)
    have h0 : 0 < 2 ^ (cz s n - 1) := Nat.two_pow_pos _
    have h8 : 2 ^ (cz s n) ≤ 256 := Nat.pow_le_pow_right (n := 2) (j := 8) (by omega) (by omega)
    have h80 : 0 < 2 ^ (cz s n) := Nat.two_pow_pos _
    have v5 := Pk_b (fun _ _ => hD1 _ _) p4 (by omega)
    refine ⟨v, cf1, ex1, p1, gp1, TB1, g11, rp1, TA1, g21, re1, sl1, rd, le1, st1, nI (cz s n), ?_, v5, ?_, ?_⟩
    · rw [e2, bd12_s, lt_eq, show (1 : Int32) = nI 1 from rfl, pk_sub (by omega), ← show (1 : Int32) = nI 1 from rfl, p2_s (by omega), lt_eq, show (1 : Int32) = nI 1 from rfl, pk_sub (by omega), ← show (1 : Int32) = nI 1 from rfl, lt_eq, e3, bd1_s, show (7 : Int32) = nI 7 from rfl, pk_mul, ck_s (by omega) (by omega), lt_eq, lt_eq, cl_s (by omega), e4, bd1_s]
    · intro h
      obtain ⟨q1, q2, -⟩ := hκ 0 (by omega)
      have := must_bit.mpr ⟨q1, q2⟩
      rw [h, Nat.zero_testBit] at this; cases this
    · intro f hf
      obtain ⟨h1, rfl⟩ := fst_ka hκ hf
      refine ⟨by omega, fun _ => ?_, fun k last c' hp => ?_⟩
      · have := Pk_to (D := D) hκ h1 p4 (by omega)
        rw [acc_must hκ] at this
        exact ⟨_, _, this⟩
      · obtain ⟨mask, last', q1, q2, q3, q4, q5⟩ := Pk_from hκ h1 hp (fun _ z => z)
        have := acc_full hκ q1 q3
        subst this
        exact hv _ _ _ q5
  · rw [if_neg c]
    refine ⟨0, cf, ex, p, gp, TB, g1, rp, TA, g2, re, sl, be, le, st1, nI (cz s n), rfl, by omega, fun _ => rfl, fun f hf => ?_⟩
    obtain ⟨h1, rfl⟩ := fst_ka hκ hf
    have e1 : cz s n = 1 := by omega
    refine ⟨by omega, fun _ => ⟨0, κ 0, ?_⟩, fun k last c' hp => Nat.zero_le _⟩
    have := Pk_to (D := D) hκ h1 (k := 0) (mask := 1) (last := 0) (c := 0) ⟨rfl, rfl, rfl⟩ (by rw [e1]; omega)
    rw [show (1 : Nat) = 2 ^ cz s n - 1 by rw [e1], acc_must hκ] at this
    exact this
theorem RV_one {D : Nat → Nat → Nat} {f must v v' : Nat} (h : RV D f must v) (h' : RV D f must v') (h5 : v' ≤ 504) : v = v' := by
  have hFar : FAR = 1000000 := rfl
  obtain ⟨k, l, p⟩ := h'.2.1 (by omega)
  have h1 := h.2.2 _ _ _ p
  obtain ⟨k2, l2, p2⟩ := h.2.1 (by omega)
  have h2 := h'.2.2 _ _ _ p2
  omega
/-- both say the same length of the round -/
theorem round_eq {M n fu : Nat} {s : Nat → Nat} {w sets : Nat → Int32} (hM : inM M) (hn : n ≤ 8) (hs : ∀ p, p < n → s p < 2 ^ M) (hw0 : w 0 = nI M) (hw1 : w 1 = nI n) (hw : ∀ p, p < n → sets p = nI (s p)) (hw2 : ∀ p, p < n → w (2 + p) = nI (s p)) (hfu : 5000 < fu) (cf ex p gp TB : Nat → Int32) (g1 : Int32) (rp TA : Nat → Int32) (g2 re : Int32) (sl be le st : Nat → Int32) (stops : Int32) (best next round ways : Nat → Int32) : ∃ v, (∃ cf' ex' p' gp' TB' g1' rp' TA' g2' re' sl' be' le' st' t', m_Round_least fu (nI n) sets (nI M) cf ex p gp TB g1 rp TA g2 re sl be le st stops = some (v, cf', ex', p', gp', TB', g1', rp', TA', g2', re', sl', be', le', st', t')) ∧ ∃ best' next' round' ways', m_Md_roundNow fu best next round w ways = some (v, best', next', round', ways') := by
  obtain ⟨D, hD1, hD2, hD⟩ := way_D (n := n) hM hs
  obtain ⟨v, cf', ex', p', gp', TB', g1', rp', TA', g2', re', sl', be', le', st', t', e, h5, h6, h7⟩ := round_s (be := be) (le := le) (st := st) (stops := stops) hM hn hs hw hD1 hD2 hD hfu cf ex p gp TB g1 rp TA g2 re sl
  obtain ⟨v2, best', next', round', ways', e2, q1, q2⟩ := md_round_s (best := best) (next := next) (round := round) (ways := ways) hM hw0 hw1 hn hs hw2 hD1 hD2 hD hfu
  have hv : v = v2 := by
    by_cases c : mustN s n = 0
    · rw [h6 c, q1 c]
    · obtain ⟨f, hf, hf1⟩ := fst_ex (must256 (s := s) hn) c
      exact (RV_one (q2 f hf hf1) (h7 f hf1) h5).symm
  subst hv
  exact ⟨nI v, ⟨_, _, _, _, _, _, _, _, _, _, _, _, _, _, _, e⟩, _, _, _, _, e2⟩
