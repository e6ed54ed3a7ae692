/-! the class's ways: the search for a free goer -/
def SI (n m i stp j0 RB : Nat) (ex gp rp sl cf : Nat → Int32) (P tm : Nat → Nat) : Prop :=
  (∀ g j, 1 ≤ g → g ≤ n → 1 ≤ j → j ≤ m → (gp g).toInt + (rp j).toInt ≤ (ex (g * 13 + j)).toInt) ∧
  (∀ j, 1 ≤ j → j ≤ m → (rp j).toInt ≤ 0 ∧ (P j = 0 → (rp j).toInt = 0) ∧ (P j ≠ 0 → (gp (P j)).toInt + (rp j).toInt = (ex (P j * 13 + j)).toInt)) ∧
  (∀ g, 1 ≤ g → g ≤ n → 0 ≤ (gp g).toInt ∧ (gp g).toInt ≤ 6) ∧
  (fb_si (fun g => (gp (1 + g)).toInt) n + fb_si (fun j => (rp j).toInt) (m + 1) = 0) ∧
  (RB < 2 ^ 13 ∧ (∀ r, RB.testBit r = true → r ≤ m ∧ P r ≠ 0) ∧ fb_ct (fun r => RB.testBit r) (m + 1) = stp) ∧
  (j0 ≤ m ∧ RB.testBit j0 = false ∧ (stp = 0 → j0 = 0) ∧ (stp ≠ 0 → RB.testBit 0 = true)) ∧
  (∀ j, 1 ≤ j → j ≤ m → (RB.testBit j = true ∨ j = j0) → ∃ c, cf j = nI c ∧ RB.testBit c = true ∧ tm c < tm j ∧ (gp (P c)).toInt + (rp j).toInt = (ex (P c * 13 + j)).toInt) ∧
  (∀ j, (RB.testBit j = true ∨ j = j0) → tm j ≤ stp) ∧
  (∀ j, 1 ≤ j → j ≤ m → RB.testBit j = false → 0 ≤ (sl j).toInt ∧ (stp = 0 → (sl j).toInt = 1000000) ∧ (∀ r, RB.testBit r = true → (sl j).toInt ≤ (ex (P r * 13 + j)).toInt - (gp (P r)).toInt - (rp j).toInt) ∧ (stp ≠ 0 → ∃ c, cf j = nI c ∧ RB.testBit c = true ∧ (sl j).toInt = (ex (P c * 13 + j)).toInt - (gp (P c)).toInt - (rp j).toInt))
theorem si_bd {f : Nat → Int} {c : Int} (hc : 0 ≤ c) {n : Nat} (hn : n ≤ 12) (h : ∀ k, k < n → -c ≤ f k ∧ f k ≤ c) : -(12 * c) ≤ fb_si f n ∧ fb_si f n ≤ 12 * c := by
  obtain ⟨h1, h2⟩ := fb_si_bound hc h
  have hq : (n : Int) * c ≤ 12 * c := Int.mul_le_mul_of_nonneg_right (by omega) hc
  omega
theorem bit_or (RB j r : Nat) : (RB ||| 2 ^ j).testBit r = (RB.testBit r || decide (r = j)) := fb_bit_set RB j r
theorem ct_one {q : Nat → Bool} : ∀ {n : Nat}, (∀ j k, j < n → k < n → q j = true → q k = true → j = k) → fb_ct q n ≤ 1
  | 0, _ => by show 0 ≤ 1; omega
  | n + 1, h => by
    have ih := ct_one (n := n) (fun j k hj hk => h j k (by omega) (by omega))
    rw [fb_ct_succ]
    by_cases c : q n = true
    · rw [if_pos c]
      have : fb_ct q n = 0 := fb_ct_zero.mpr (fun k hk => by
        rw [Bool.eq_false_iff]
        intro z
        have := h k n (by omega) (by omega) z c
        omega)
      omega
    · rw [if_neg c]; exact ih
/-- how often goal g is had by a reached goer -/
def cg (RB m g : Nat) (P : Nat → Nat) : Nat := fb_ct (fun r => RB.testBit r && decide (P r = g)) (m + 1)
theorem cg_hit {RB m g : Nat} {P : Nat → Nat} (hi : ∀ j k, RB.testBit j = true → RB.testBit k = true → P j = P k → j = k) : (hit RB (m + 1) g P → cg RB m g P = 1) ∧ (¬ hit RB (m + 1) g P → cg RB m g P = 0) := by
  have h1 : cg RB m g P ≤ 1 := ct_one (fun j k _ _ a b => by
    rw [Bool.and_eq_true, decide_eq_true_eq] at a b
    exact hi j k a.1 b.1 (by rw [a.2, b.2]))
  refine ⟨fun ⟨r, z1, z2, z3⟩ => ?_, fun h => fb_ct_zero.mpr (fun k hk => ?_)⟩
  · have : 0 < cg RB m g P := fb_ct_pos.mpr ⟨r, z1, by rw [z2, decide_eq_true z3]; rfl⟩
    omega
  · rw [Bool.eq_false_iff]
    intro z
    rw [Bool.and_eq_true, decide_eq_true_eq] at z
    exact h ⟨k, hk, z.1, z.2⟩
theorem cg_sum {RB m n : Nat} {P : Nat → Nat} (hR : ∀ r, RB.testBit r = true → 1 ≤ P r ∧ P r ≤ n) : fb_sm (fun g => cg RB m (1 + g) P) n = fb_ct (fun r => RB.testBit r) (m + 1) := by
  have e : fb_sm (fun g => cg RB m (1 + g) P) n = fb_sm (fun g => fb_sm (fun r => if (RB.testBit r && decide (P r = 1 + g)) = true then 1 else 0) (m + 1)) n := fb_sm_cong (fun g _ => ct_sm _ _)
  rw [e, sm_swap, ct_sm]
  refine fb_sm_cong (fun r _ => ?_)
  by_cases c : RB.testBit r = true
  · rw [if_pos c]
    obtain ⟨h1, h2⟩ := hR r c
    have e2 : fb_sm (fun g => if (RB.testBit r && decide (P r = 1 + g)) = true then 1 else 0) n = fb_sm (fun g => if P r - 1 = g then (fun _ => 1) g else 0) n := by
      refine fb_sm_cong (fun g _ => ?_)
      rw [c, Bool.true_and]
      by_cases z : P r = 1 + g
      · rw [if_pos (decide_eq_true z), if_pos (by omega)]
      · rw [if_neg (by rw [decide_eq_true_eq]; exact z), if_neg (by omega)]
    rw [e2, sm_one (by omega)]
  · rw [if_neg c]
    have e2 : fb_sm (fun g => if (RB.testBit r && decide (P r = 1 + g)) = true then 1 else 0) n = fb_sm (fun _ => 0) n := by
      refine fb_sm_cong (fun g _ => ?_)
      rw [Bool.eq_false_iff.mpr c, Bool.false_and, if_neg (by decide)]
    rw [e2, fb_sm_const, Nat.mul_zero]
set_option maxHeartbeats 4000000 in
theorem SI_step {n m i stp j0 RB fu : Nat} {ex gp rp sl cf p : Nat → Int32} {P tm : Nat → Nat} (hm : m ≤ 12) (hn : n ≤ m) (hi : i ≤ n) (hfu : 20 < fu)
    (hE : ∀ g j, 1 ≤ g → g ≤ n → 1 ≤ j → j ≤ m → 0 ≤ (ex (g * 13 + j)).toInt ∧ (ex (g * 13 + j)).toInt ≤ 6) (hp : ∀ j, j ≤ m → p j = nI (P j)) (hinj : ∀ j k, j ≤ m → k ≤ m → P j ≠ 0 → P j = P k → j = k) (hPi : ∀ j, j ≤ m → P j ≤ i) (hfree : ∃ f, 1 ≤ f ∧ f ≤ m ∧ P f = 0)
    (h : SI n m i stp j0 RB ex gp rp sl cf P tm) (hj0 : P j0 ≠ 0) : ∃ c cf' sl1 gp' rp' sl', m_Ways_closestUnreached fu cf ex p gp rp (nI m) (nI (RB ||| 2 ^ j0)) sl (nI j0) = some (nI c, cf', sl1) ∧ m_Ways_shiftPrices fu p gp rp (nI m) (nI (RB ||| 2 ^ j0)) sl1 (sl1 c) = some (gp', rp', sl') ∧ SI n m i (stp + 1) c (RB ||| 2 ^ j0) ex gp' rp' sl' cf' P (fun j => if j = c then stp + 1 else tm j) ∧ stp < m := by
  obtain ⟨s1, s2, s3, s4, ⟨s5a, s5b, s5c⟩, ⟨s6a, s6b, s6c, s6d⟩, s7, s8, s9⟩ := h
  obtain ⟨f, f1, f2, f3⟩ := hfree
  have hj0i := hPi j0 s6a
  -- who is reached now
  have hR' : ∀ r, (RB ||| 2 ^ j0).testBit r = true → r ≤ m ∧ 1 ≤ P r ∧ P r ≤ n := by
    intro r hr
    rw [bit_or, Bool.or_eq_true, decide_eq_true_eq] at hr
    rcases hr with hr | rfl
    · have := s5b r hr
      have := hPi r this.1
      omega
    · omega
  have hRj : (RB ||| 2 ^ j0).testBit j0 = true := by rw [bit_or]; simp
  have hRo : ∀ r, RB.testBit r = true → (RB ||| 2 ^ j0).testBit r = true := fun r hr => by rw [bit_or, hr]; rfl
  have hRf : (RB ||| 2 ^ j0).testBit f = false := by
    rw [Bool.eq_false_iff]
    intro z
    have := hR' f z
    omega
  have hinj' : ∀ j k, (RB ||| 2 ^ j0).testBit j = true → (RB ||| 2 ^ j0).testBit k = true → P j = P k → j = k := fun j k a b e => hinj j k (hR' j a).1 (hR' k b).1 (by have := (hR' j a).2.1; omega) e
  obtain ⟨c, cf', sl1, e1, c1, c2, c3, c4, hcu⟩ := closest_s (m := m) (RB := RB ||| 2 ^ j0) (g0 := P j0) (j0 := j0) (ex := ex) (gp := gp) (rp := rp) (sl := sl) (cf := cf) (p := p) hm (by omega) (by omega) (hp j0 s6a) hfu ⟨f, f1, f2, hRf⟩
  -- bounds of v
  have hv : ∀ j, 1 ≤ j → j ≤ m → -6 ≤ (rp j).toInt ∧ (rp j).toInt ≤ 0 := by
    intro j h1 h2
    obtain ⟨q1, q2, q3⟩ := s2 j h1 h2
    by_cases z : P j = 0
    · have := q2 z; omega
    · have h3 := q3 z
      have h4 := hPi j h2
      have h5 := hE (P j) j (by omega) (by omega) h1 h2
      have h6 := s3 (P j) (by omega) (by omega)
      omega
  have hu0 := s3 (P j0) (by omega) (by omega)
  have hgap : ∀ j, 1 ≤ j → j ≤ m → (gpx ex gp rp (P j0) j).toInt = (ex (P j0 * 13 + j)).toInt - (gp (P j0)).toInt - (rp j).toInt := by
    intro j h1 h2
    have h3 := hE (P j0) j (by omega) (by omega) h1 h2
    have h4 := hv j h1 h2
    unfold gpx
    have e0 : (ex (P j0 * 13 + j) - gp (P j0)).toInt = (ex (P j0 * 13 + j)).toInt - (gp (P j0)).toInt := fb_subI (by omega) (by omega)
    rw [fb_subI (by rw [e0]; omega) (by rw [e0]; omega), e0]
  -- the slacks behind the look
  have hs1 : ∀ j, 1 ≤ j → j ≤ m → (RB ||| 2 ^ j0).testBit j = false → 0 ≤ (sl1 j).toInt ∧ (sl1 j).toInt ≤ 12 ∧ (∀ r, (RB ||| 2 ^ j0).testBit r = true → (sl1 j).toInt ≤ (ex (P r * 13 + j)).toInt - (gp (P r)).toInt - (rp j).toInt) ∧ ∃ c, cf' j = nI c ∧ (RB ||| 2 ^ j0).testBit c = true ∧ (sl1 j).toInt = (ex (P c * 13 + j)).toInt - (gp (P c)).toInt - (rp j).toInt := by
    intro j h1 h2 h3
    have hRBj : RB.testBit j = false := by
      rw [bit_or, Bool.or_eq_false_iff] at h3
      exact h3.1
    obtain ⟨q1, q2, q3, q4⟩ := s9 j h1 h2 hRBj
    obtain ⟨k1, k2⟩ := (hcu j).1 ⟨h1, by omega, h3⟩
    have hg := hgap j h1 h2
    have hfe := s1 (P j0) j (by omega) (by omega) h1 h2
    have hEj := hE (P j0) j (by omega) (by omega) h1 h2
    have hvj := hv j h1 h2
    by_cases z : sl j ≤ gpx ex gp rp (P j0) j
    · rw [if_pos z] at k1 k2
      rw [fa_le, hg] at z
      rw [k1, k2]
      have hs0 : stp ≠ 0 := fun e => by have := q2 e; omega
      refine ⟨q1, by omega, fun r hr => ?_, ?_⟩
      · rw [bit_or, Bool.or_eq_true, decide_eq_true_eq] at hr
        rcases hr with hr | rfl
        · exact q3 r hr
        · exact z
      · obtain ⟨c', y1, y2, y3⟩ := q4 hs0
        exact ⟨c', y1, hRo c' y2, y3⟩
    · rw [if_neg z] at k1 k2
      rw [fa_le, hg] at z
      rw [k1, k2, hg]
      refine ⟨by omega, by omega, fun r hr => ?_, ⟨j0, rfl, hRj, rfl⟩⟩
      rw [bit_or, Bool.or_eq_true, decide_eq_true_eq] at hr
      rcases hr with hr | rfl
      · have := q3 r hr; omega
      · omega
  obtain ⟨d0, d1, d2, ⟨cc, d3, d4, d5⟩⟩ := hs1 c c1 c2 c3
  obtain ⟨gp', rp', sl', e2, hg, hr, hl⟩ := shift_s (m := m) (RB := RB ||| 2 ^ j0) (d := sl1 c) (gp := gp) (rp := rp) (sl := sl1) (p := p) (P := P) hm hfu hp (fun r z => ⟨(hR' r z).1, by have := (hR' r z).2; omega⟩) hinj'
  -- the new prices
  have hgu : ∀ g, 1 ≤ g → g ≤ n → (gp' g).toInt = (gp g).toInt + (sl1 c).toInt * (cg (RB ||| 2 ^ j0) m g P : Int) := by
    intro g h1 h2
    have h3 := s3 g h1 h2
    obtain ⟨y1, y2⟩ := cg_hit (RB := RB ||| 2 ^ j0) (m := m) (g := g) hinj'
    by_cases z : hit (RB ||| 2 ^ j0) (m + 1) g P
    · rw [(hg g).1 z, fb_addI (by omega) (by omega), y1 z]; omega
    · rw [(hg g).2 z, y2 z]; omega
  have hgh : ∀ r, (RB ||| 2 ^ j0).testBit r = true → (gp' (P r)).toInt = (gp (P r)).toInt + (sl1 c).toInt := by
    intro r z
    have h1 := hR' r z
    rw [hgu (P r) h1.2.1 h1.2.2, (cg_hit hinj').1 ⟨r, by omega, z, rfl⟩]; omega
  have hru : ∀ j, 1 ≤ j → j ≤ m → (RB ||| 2 ^ j0).testBit j = true → (rp' j).toInt = (rp j).toInt - (sl1 c).toInt := by
    intro j h1 h2 z
    have := hv j h1 h2
    rw [(hr j).1 ⟨by omega, z⟩, fb_subI (by omega) (by omega)]
  have hrn : ∀ j, (RB ||| 2 ^ j0).testBit j = false → rp' j = rp j := fun j z => (hr j).2 (fun y => by rw [z] at y; exact absurd y.2 (by decide))
  -- goals of goers that are not reached are not shifted
  have hgn : ∀ j, j ≤ m → P j ≠ 0 → (RB ||| 2 ^ j0).testBit j = false → gp' (P j) = gp (P j) := by
    intro j h1 h2 h3
    refine (hg (P j)).2 (fun ⟨r, z1, z2, z3⟩ => ?_)
    have := hinj j r h1 (by omega) h2 z3.symm
    subst this
    rw [z2] at h3; cases h3
  have hfeas : ∀ g j, 1 ≤ g → g ≤ n → 1 ≤ j → j ≤ m → (gp' g).toInt + (rp' j).toInt ≤ (ex (g * 13 + j)).toInt := by
    intro g j g1 g2 j1 j2
    have h0 := s1 g j g1 g2 j1 j2
    have hgg := hgu g g1 g2
    obtain ⟨y1, y2⟩ := cg_hit (RB := RB ||| 2 ^ j0) (m := m) (g := g) hinj'
    by_cases zj : (RB ||| 2 ^ j0).testBit j = true
    · rw [hru j j1 j2 zj]
      by_cases z : hit (RB ||| 2 ^ j0) (m + 1) g P
      · rw [y1 z] at hgg; omega
      · rw [y2 z] at hgg; omega
    · have zf := Bool.eq_false_iff.mpr zj
      rw [hrn j zf]
      by_cases z : hit (RB ||| 2 ^ j0) (m + 1) g P
      · rw [y1 z] at hgg
        obtain ⟨r, w1, w2, w3⟩ := z
        have k := (hs1 j j1 j2 zf).2.2.1 r w2
        rw [w3] at k
        have k2 := c4 j j1 j2 zf
        rw [fa_le] at k2
        omega
      · rw [y2 z] at hgg; omega
  refine ⟨c, cf', sl1, gp', rp', sl', e1, e2, ⟨hfeas, ?_, ?_, ?_, ⟨?_, fun r z => ⟨(hR' r z).1, by have := (hR' r z).2.1; omega⟩, ?_⟩, ⟨c2, c3, fun e => by omega, ?_⟩, ?_, ?_, ?_⟩, ?_⟩
  · intro j h1 h2
    obtain ⟨q1, q2, q3⟩ := s2 j h1 h2
    by_cases zj : (RB ||| 2 ^ j0).testBit j = true
    · have hP := (hR' j zj).2
      rw [hru j h1 h2 zj]
      refine ⟨by omega, fun e => by omega, fun e => ?_⟩
      rw [hgh j zj]
      have := q3 e
      omega
    · have zf := Bool.eq_false_iff.mpr zj
      rw [hrn j zf]
      refine ⟨q1, q2, fun e => ?_⟩
      rw [hgn j h2 e zf]
      exact q3 e
  · intro g g1 g2
    have h0 := s3 g g1 g2
    have h1 := hgu g g1 g2
    have h2 := hfeas g f g1 g2 f1 f2
    rw [hrn f hRf, (s2 f f1 f2).2.1 f3] at h2
    have h3 := hE g f g1 g2 f1 f2
    have h4 : 0 ≤ (sl1 c).toInt * (cg (RB ||| 2 ^ j0) m g P : Int) := Int.mul_nonneg d0 (by omega)
    omega
  · -- the sum
    have hv0 : -200 ≤ (rp 0).toInt ∧ (rp 0).toInt ≤ 200 := by
      have b1 := si_bd (f := fun g => (gp (1 + g)).toInt) (c := 6) (by omega) (show n ≤ 12 by omega) (fun k hk => by have := s3 (1 + k) (by omega) (by omega); omega)
      have b2 := si_bd (f := fun j => (rp (1 + j)).toInt) (c := 6) (by omega) (show m ≤ 12 by omega) (fun k hk => by have := hv (1 + k) (by omega) (by omega); omega)
      have e0 := fb_si_split (fun j => (rp j).toInt) 1 m
      rw [Nat.add_comm 1 m] at e0
      have e1 : fb_si (fun j => (rp j).toInt) 1 = (rp 0).toInt := by
        show (0 : Int) + (rp 0).toInt = _
        omega
      rw [e1] at e0
      omega
    have eu : fb_si (fun g => (gp' (1 + g)).toInt) n = fb_si (fun g => (gp (1 + g)).toInt) n + (sl1 c).toInt * (fb_ct (fun r => (RB ||| 2 ^ j0).testBit r) (m + 1) : Int) := by
      have a1 : fb_si (fun g => (gp' (1 + g)).toInt) n = fb_si (fun g => (gp (1 + g)).toInt + (sl1 c).toInt * (cg (RB ||| 2 ^ j0) m (1 + g) P : Int)) n := fb_si_cong (fun k hk => hgu (1 + k) (by omega) (by omega))
      rw [a1, fb_si_add, fb_si_mul, fb_si_nat, cg_sum (fun r z => (hR' r z).2)]
    have ev : fb_si (fun j => (rp' j).toInt) (m + 1) = fb_si (fun j => (rp j).toInt) (m + 1) - (sl1 c).toInt * (fb_ct (fun r => (RB ||| 2 ^ j0).testBit r) (m + 1) : Int) := by
      have a1 : fb_si (fun j => (rp' j).toInt) (m + 1) = fb_si (fun j => (rp j).toInt - (sl1 c).toInt * ((if (RB ||| 2 ^ j0).testBit j = true then 1 else 0 : Nat) : Int)) (m + 1) := by
        refine fb_si_cong (fun j hj => ?_)
        by_cases zj : (RB ||| 2 ^ j0).testBit j = true
        · rw [if_pos zj, (hr j).1 ⟨hj, zj⟩]
          by_cases j0' : j = 0
          · subst j0'
            rw [fb_subI (by omega) (by omega)]; omega
          · have := hv j (by omega) (by omega)
            rw [fb_subI (by omega) (by omega)]; omega
        · rw [if_neg zj, hrn j (Bool.eq_false_iff.mpr zj)]; omega
      rw [a1, fb_si_sub, fb_si_mul, fb_si_nat, ct_sm]
    rw [eu, ev]
    omega
  · exact Nat.or_lt_two_pow s5a (Nat.pow_lt_pow_right (by omega) (by omega))
  · -- how many
    have h1 := fb_ct_upd (fun r => RB.testBit r) true (show j0 < m + 1 by omega)
    have h2 : fb_ct (fun r => (RB ||| 2 ^ j0).testBit r) (m + 1) = fb_ct (fun k => if k = j0 then true else RB.testBit k) (m + 1) := fb_ct_cong (fun k _ => by
      rw [bit_or]
      by_cases z : k = j0
      · simp [z]
      · simp [z])
    rw [h2]
    rw [s6b, if_neg (by decide), if_pos rfl] at h1
    omega
  · intro _
    by_cases z : stp = 0
    · rw [← s6c z]; exact hRj
    · exact hRo 0 (s6d z)
  · -- where they came from
    intro j j1 j2 hj
    by_cases zc : j = c
    · subst zc
      refine ⟨cc, d3, d4, ?_, ?_⟩
      · have hne : ¬ cc = j := fun e => by subst e; rw [d4] at c3; cases c3
        have : tm cc ≤ stp := s8 cc (by
          rw [bit_or, Bool.or_eq_true, decide_eq_true_eq] at d4
          exact d4)
        simp only [if_neg hne, if_pos]
        omega
      · rw [hgh cc d4, hrn j c3]
        omega
    · have hjR : (RB ||| 2 ^ j0).testBit j = true := by
        rcases hj with z | z
        · exact z
        · exact absurd z zc
      have hold : RB.testBit j = true ∨ j = j0 := by
        rw [bit_or, Bool.or_eq_true, decide_eq_true_eq] at hjR
        exact hjR
      obtain ⟨c', y1, y2, y3, y4⟩ := s7 j j1 j2 hold
      have hkeep := (hcu j).2 (fun z => by rw [hjR] at z; exact absurd z.2.2 (by decide))
      refine ⟨c', by rw [hkeep.2]; exact y1, hRo c' y2, ?_, ?_⟩
      · have hne : ¬ c' = c := fun e => by subst e; rw [hRo c' y2] at c3; cases c3
        simp only [if_neg hne, if_neg zc]
        exact y3
      · rw [hgh c' (hRo c' y2), hru j j1 j2 hjR]
        omega
  · intro j hj
    by_cases zc : j = c
    · simp only [if_pos zc]; omega
    · simp only [if_neg zc]
      have := s8 j (by
        rcases hj with z | z
        · rw [bit_or, Bool.or_eq_true, decide_eq_true_eq] at z; exact z
        · exact absurd z zc)
      omega
  · -- the slacks
    intro j j1 j2 hj
    obtain ⟨k1, k2, k3, ⟨c', k4, k5, k6⟩⟩ := hs1 j j1 j2 hj
    have hle := c4 j j1 j2 hj
    rw [fa_le] at hle
    have hsl : (sl' j).toInt = (sl1 j).toInt - (sl1 c).toInt := by rw [(hl j).1 ⟨by omega, hj⟩, fb_subI (by omega) (by omega)]
    rw [hsl, hrn j hj]
    refine ⟨by omega, fun e => by omega, fun r z => ?_, fun _ => ⟨c', k4, k5, ?_⟩⟩
    · rw [hgh r z]
      have := k3 r z
      omega
    · rw [hgh c' k5]; omega
  · -- not all are reached
    have h1 : fb_ct (fun r => (RB ||| 2 ^ j0).testBit r) (m + 1) < m + 1 := by
      have h2 := fb_ct_le (fun r => (RB ||| 2 ^ j0).testBit r) (m + 1)
      rcases Nat.lt_or_ge (fb_ct (fun r => (RB ||| 2 ^ j0).testBit r) (m + 1)) (m + 1) with z | z
      · exact z
      · have := fb_ct_all.mp (show fb_ct (fun r => (RB ||| 2 ^ j0).testBit r) (m + 1) = m + 1 by omega) f (by omega)
        rw [hRf] at this; cases this
    have h3 := fb_ct_upd (fun r => RB.testBit r) true (show j0 < m + 1 by omega)
    have h4 : fb_ct (fun r => (RB ||| 2 ^ j0).testBit r) (m + 1) = fb_ct (fun k => if k = j0 then true else RB.testBit k) (m + 1) := fb_ct_cong (fun k _ => by
      rw [bit_or]
      by_cases z : k = j0
      · simp [z]
      · simp [z])
    rw [s6b, if_neg (by decide), if_pos rfl] at h3
    omega
