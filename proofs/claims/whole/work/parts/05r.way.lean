/-! the least way: the class's is the reference's -/
/-- what the prices come to -/
def dual (n m : Nat) (gp rp : Nat → Int32) : Int := fb_si (fun g => (gp (1 + g)).toInt) n + fb_si (fun j => (rp (1 + j)).toInt) m
theorem dual_0 {n m : Nat} {gp rp : Nat → Int32} (h : fb_si (fun g => (gp (1 + g)).toInt) n + fb_si (fun j => (rp j).toInt) (m + 1) = 0) : (rp 0).toInt = - dual n m gp rp := by
  have e0 := fb_si_split (fun j => (rp j).toInt) 1 m
  rw [Nat.add_comm 1 m] at e0
  have e1 : fb_si (fun j => (rp j).toInt) 1 = (rp 0).toInt := by
    show (0 : Int) + (rp 0).toInt = _
    omega
  rw [e1] at e0
  unfold dual
  omega
/-- the costs of a way from goer to goal, by goers -/
theorem cost_re {M A m : Nat} {TA : Nat → Int32} {φ : Nat → Nat} (hM : M ≤ 12) (hA : LT TA A) (hm : m = pop M A) : fb_sm (fun a => if A.testBit a = true then apN M a (φ a) else 0) M = fb_sm (fun j => apN M (tn TA (1 + j)) (φ (tn TA (1 + j)))) m := by
  subst hm
  have := sm_re (p := fun a => A.testBit a) (q := fun j => apN M (tn TA (1 + j)) (φ (tn TA (1 + j)))) (G := fun a => apN M a (φ a)) (x := M) (fun a ha hb => by
    have h := tn_of hA (show a < 12 by omega) hb
    unfold pop at h
    rw [show 1 + fb_ct (fun k => A.testBit k) a = fb_ct (fun k => A.testBit k) a + 1 by omega, h])
  exact this.symm
theorem upper {M A B n m : Nat} {TA TB ex gp rp : Nat → Int32} {P : Nat → Nat} (hM : M ≤ 12) (hA2 : A < 2 ^ M) (hB2 : B < 2 ^ M) (hA : LT TA A) (hB : LT TB B) (hm : m = pop M A) (hn : n = pop M B) (hn1 : 1 ≤ n) (hex : ∀ i j, 1 ≤ i → i ≤ n → 1 ≤ j → j ≤ m → (ex (i * 13 + j)).toInt = (dst M TA TB i j : Int) - (nr M n TA TB j : Int)) (h : HI n m n ex gp rp P) : ∃ c, Rch M A B M B c ∧ (c : Int) = (fb_sm (fun j => nr M n TA TB (1 + j)) m : Int) + dual n m gp rp := by
  obtain ⟨-, h2, h3, h4, -, -⟩ := h
  -- the nearest goal of each goer
  have hnear : ∀ j, 1 ≤ j → j ≤ m → ∃ i, 1 ≤ i ∧ i ≤ n ∧ dst M TA TB i j = nr M n TA TB j := by
    intro j j1 j2
    have hA' := tn_at hM hA2 hA j1 (by omega)
    rcases fmn_mem (fun i => dst M TA TB (1 + i) j) 1000000 n with z | ⟨k, k1, k2⟩
    · have hB' := tn_at hM hB2 hB (j := 1) (by omega) (by omega)
      have := fmn_le (fun i => dst M TA TB (1 + i) j) 1000000 n 0 (by omega)
      have h6 : dst M TA TB 1 j ≤ 6 := apN_6 hM hA'.1 hB'.1
      try dsimp only at this
      rw [show 1 + 0 = 1 from rfl] at this
      omega
    · exact ⟨1 + k, by omega, by omega, k2⟩
  -- where each goer goes
  obtain ⟨ψ, hψ⟩ : ∃ ψ : Nat → Nat, ∀ j, 1 ≤ j → j ≤ m → (P j ≠ 0 → ψ j = P j) ∧ (P j = 0 → 1 ≤ ψ j ∧ ψ j ≤ n ∧ dst M TA TB (ψ j) j = nr M n TA TB j) := by
    refine ⟨fun j => if hj : (1 ≤ j ∧ j ≤ m) then (if P j = 0 then Classical.choose (hnear j hj.1 hj.2) else P j) else 0, fun j j1 j2 => ?_⟩
    dsimp only
    rw [dif_pos ⟨j1, j2⟩]
    refine ⟨fun z => by rw [if_neg z], fun z => ?_⟩
    rw [if_pos z]
    exact Classical.choose_spec (hnear j j1 j2)
  have hψr : ∀ j, 1 ≤ j → j ≤ m → 1 ≤ ψ j ∧ ψ j ≤ n := by
    intro j j1 j2
    by_cases z : P j = 0
    · exact ⟨((hψ j j1 j2).2 z).1, ((hψ j j1 j2).2 z).2.1⟩
    · rw [(hψ j j1 j2).1 z]
      have := (h2 j j1 j2).1
      omega
  refine ⟨fb_sm (fun j => dst M TA TB (ψ (1 + j)) (1 + j)) m, ⟨fun a => tn TB (ψ (pop a A + 1)), ?_, ?_, ?_⟩, ?_⟩
  · intro a ha hb
    have h1 := pop_lt ha hb
    have h5 := hψr (pop a A + 1) (by omega) (by omega)
    have h6 := tn_at hM hB2 hB h5.1 (by omega)
    exact ⟨h6.1, h6.2.1⟩
  · apply Nat.eq_of_testBit_eq
    intro i
    rw [Bool.eq_iff_iff, acc_bit]
    constructor
    · rintro ⟨a, ha, hb, e⟩
      have h1 := pop_lt ha hb
      have h5 := hψr (pop a A + 1) (by omega) (by omega)
      have h6 := tn_at hM hB2 hB h5.1 (by omega)
      rw [← e]; exact h6.2.1
    · intro hb
      have hi : i < M := by
        rcases Nat.lt_or_ge i M with z | z
        · exact z
        · rw [Nat.testBit_lt_two_pow (Nat.lt_of_lt_of_le hB2 (Nat.pow_le_pow_right (by omega) z))] at hb; cases hb
      have hpi := pop_lt hi hb
      obtain ⟨j, j1, j2, j3⟩ := h4 (pop i B + 1) (by omega) (by omega)
      have h5 := tn_at hM hA2 hA j1 (by omega)
      refine ⟨tn TA j, h5.1, h5.2.1, ?_⟩
      rw [h5.2.2.1, (hψ j j1 j2).1 (by omega), j3]
      exact tn_of hB (by omega) hb
  · rw [cost_re hM hA hm]
    refine fb_sm_cong (fun k hk => ?_)
    have h5 := tn_at hM hA2 hA (show 1 ≤ 1 + k by omega) (by omega)
    rw [h5.2.2.1]
    rfl
  · -- the sum
    have e1 : ∀ k, k < m → (dst M TA TB (ψ (1 + k)) (1 + k) : Int) = (nr M n TA TB (1 + k) : Int) + ((if P (1 + k) = 0 then 0 else (gp (P (1 + k))).toInt) + (rp (1 + k)).toInt) := by
      intro k hk
      obtain ⟨p1, p2, p3, p4⟩ := h2 (1 + k) (by omega) (by omega)
      by_cases z : P (1 + k) = 0
      · have := ((hψ (1 + k) (by omega) (by omega)).2 z).2.2
        rw [if_pos z, this, p3 z]; omega
      · have hq := hψr (1 + k) (by omega) (by omega)
        have hx := hex (ψ (1 + k)) (1 + k) hq.1 hq.2 (by omega) (by omega)
        have := (hψ (1 + k) (by omega) (by omega)).1 z
        rw [this] at hx ⊢
        have p4' := p4 z
        rw [if_neg z]
        omega
    have e2 : fb_si (fun k => if P (1 + k) = 0 then 0 else (gp (P (1 + k))).toInt) m = fb_si (fun g => (gp (1 + g)).toInt) n := by
      have a1 : fb_si (fun k => if P (1 + k) = 0 then 0 else (gp (P (1 + k))).toInt) m = fb_si (fun k => fb_si (fun g => if P (1 + k) = 1 + g then (gp (1 + g)).toInt else 0) n) m := by
        refine fb_si_cong (fun k hk => ?_)
        by_cases z : P (1 + k) = 0
        · rw [if_pos z]
          have : fb_si (fun g => if P (1 + k) = 1 + g then (gp (1 + g)).toInt else 0) n = fb_si (fun _ => 0) n := fb_si_cong (fun g _ => if_neg (by omega))
          rw [this, si_zero]
        · rw [if_neg z]
          have p1 := (h2 (1 + k) (by omega) (by omega)).1
          have : fb_si (fun g => if P (1 + k) = 1 + g then (gp (1 + g)).toInt else 0) n = fb_si (fun g => if P (1 + k) - 1 = g then (fun g => (gp (1 + g)).toInt) g else 0) n := by
            refine fb_si_cong (fun g _ => ?_)
            by_cases y : P (1 + k) = 1 + g
            · rw [if_pos y, if_pos (by omega)]
            · rw [if_neg y, if_neg (by omega)]
          rw [this, si_one (by omega), show 1 + (P (1 + k) - 1) = P (1 + k) by omega]
      rw [a1, si_swap]
      refine fb_si_cong (fun g hg => ?_)
      obtain ⟨j, j1, j2, j3⟩ := h4 (1 + g) (by omega) (by omega)
      have : fb_si (fun k => if P (1 + k) = 1 + g then (gp (1 + g)).toInt else 0) m = fb_si (fun k => if j - 1 = k then (fun _ => (gp (1 + g)).toInt) k else 0) m := by
        refine fb_si_cong (fun k hk => ?_)
        by_cases y : P (1 + k) = 1 + g
        · have := h3 (1 + k) j (by omega) (by omega) j1 j2 (by omega) (by omega)
          rw [if_pos y, if_pos (by omega)]
        · rw [if_neg y, if_neg (fun z => y (by rw [← z, show 1 + (j - 1) = j by omega]; exact j3))]
      rw [this, si_one (by omega)]
    have e3 := fb_si_nat (fun k => dst M TA TB (ψ (1 + k)) (1 + k)) m
    rw [← e3, fb_si_cong e1, fb_si_add, fb_si_add, e2, fb_si_nat (fun k => nr M n TA TB (1 + k)) m]
    unfold dual
    omega
theorem lower {M A B n m c : Nat} {TA TB ex gp rp : Nat → Int32} {P : Nat → Nat} (hM : M ≤ 12) (hA2 : A < 2 ^ M) (hB2 : B < 2 ^ M) (hA : LT TA A) (hB : LT TB B) (hm : m = pop M A) (hn : n = pop M B) (hex : ∀ i j, 1 ≤ i → i ≤ n → 1 ≤ j → j ≤ m → (ex (i * 13 + j)).toInt = (dst M TA TB i j : Int) - (nr M n TA TB j : Int)) (hnr : ∀ i j, 1 ≤ i → i ≤ n → 1 ≤ j → j ≤ m → nr M n TA TB j ≤ dst M TA TB i j) (h : HI n m n ex gp rp P) (hR : Rch M A B M B c) : (fb_sm (fun j => nr M n TA TB (1 + j)) m : Int) + dual n m gp rp ≤ (c : Int) := by
  obtain ⟨h1, h2, -, -, -, -⟩ := h
  obtain ⟨φ, r1, r2, r3⟩ := hR
  rw [cost_re hM hA hm] at r3
  -- the goal of each goer
  have hκ : ∀ j, 1 ≤ j → j ≤ m → 1 ≤ pop (φ (tn TA j)) B + 1 ∧ pop (φ (tn TA j)) B + 1 ≤ n ∧ tn TB (pop (φ (tn TA j)) B + 1) = φ (tn TA j) := by
    intro j j1 j2
    have h5 := tn_at hM hA2 hA j1 (by omega)
    obtain ⟨q1, q2⟩ := r1 (tn TA j) h5.1 h5.2.1
    have := pop_lt q1 q2
    exact ⟨by omega, by omega, tn_of hB (by omega) q2⟩
  -- a goer for each goal
  have hrep : ∀ g, 1 ≤ g → g ≤ n → ∃ j, 1 ≤ j ∧ j ≤ m ∧ pop (φ (tn TA j)) B + 1 = g := by
    intro g g1 g2
    have h5 := tn_at hM hB2 hB g1 (by omega)
    have : (acc φ A M).testBit (tn TB g) = true := by rw [r2]; exact h5.2.1
    obtain ⟨a, ha, hb, e⟩ := (acc_bit φ A (tn TB g) M).mp this
    have hp := pop_lt ha hb
    refine ⟨pop a A + 1, by omega, by omega, ?_⟩
    rw [tn_of hA (by omega) hb, e]
    exact h5.2.2.1
  obtain ⟨ρ, hρ⟩ : ∃ ρ : Nat → Nat, ∀ g, 1 ≤ g → g ≤ n → 1 ≤ ρ g ∧ ρ g ≤ m ∧ pop (φ (tn TA (ρ g))) B + 1 = g := by
    refine ⟨fun g => if hg : (1 ≤ g ∧ g ≤ n) then Classical.choose (hrep g hg.1 hg.2) else 0, fun g g1 g2 => ?_⟩
    dsimp only
    rw [dif_pos ⟨g1, g2⟩]
    exact Classical.choose_spec (hrep g g1 g2)
  have e1 : ∀ k, k < m → (nr M n TA TB (1 + k) : Int) + ((if ρ (pop (φ (tn TA (1 + k))) B + 1) = 1 + k then (gp (pop (φ (tn TA (1 + k))) B + 1)).toInt else 0) + (rp (1 + k)).toInt) ≤ (apN M (tn TA (1 + k)) (φ (tn TA (1 + k))) : Int) := by
    intro k hk
    obtain ⟨q1, q2, q3⟩ := hκ (1 + k) (by omega) (by omega)
    have hd : apN M (tn TA (1 + k)) (φ (tn TA (1 + k))) = dst M TA TB (pop (φ (tn TA (1 + k))) B + 1) (1 + k) := by unfold dst; rw [q3]
    have hx := hex _ (1 + k) q1 q2 (by omega) (by omega)
    have hf := h1 _ (1 + k) q1 q2 (by omega) (by omega)
    have hv := (h2 (1 + k) (by omega) (by omega)).2.1
    have hn2 := hnr _ (1 + k) q1 q2 (by omega) (by omega)
    rw [hd]
    split <;> omega
  have e2 : fb_si (fun k => if ρ (pop (φ (tn TA (1 + k))) B + 1) = 1 + k then (gp (pop (φ (tn TA (1 + k))) B + 1)).toInt else 0) m = fb_si (fun g => (gp (1 + g)).toInt) n := by
    have a1 : fb_si (fun k => if ρ (pop (φ (tn TA (1 + k))) B + 1) = 1 + k then (gp (pop (φ (tn TA (1 + k))) B + 1)).toInt else 0) m = fb_si (fun k => fb_si (fun g => if ρ (1 + g) = 1 + k then (gp (1 + g)).toInt else 0) n) m := by
      refine fb_si_cong (fun k hk => ?_)
      obtain ⟨q1, q2, q3⟩ := hκ (1 + k) (by omega) (by omega)
      by_cases z : ρ (pop (φ (tn TA (1 + k))) B + 1) = 1 + k
      · rw [if_pos z]
        have : fb_si (fun g => if ρ (1 + g) = 1 + k then (gp (1 + g)).toInt else 0) n = fb_si (fun g => if pop (φ (tn TA (1 + k))) B = g then (fun g => (gp (1 + g)).toInt) g else 0) n := by
          refine fb_si_cong (fun g hg => ?_)
          by_cases y : ρ (1 + g) = 1 + k
          · have w := (hρ (1 + g) (by omega) (by omega)).2.2
            rw [y] at w
            rw [if_pos y, if_pos (by omega)]
          · rw [if_neg y, if_neg (fun w => y (by rw [← w, show 1 + pop (φ (tn TA (1 + k))) B = pop (φ (tn TA (1 + k))) B + 1 by omega]; exact z))]
        rw [this, si_one (by omega), show 1 + pop (φ (tn TA (1 + k))) B = pop (φ (tn TA (1 + k))) B + 1 by omega]
      · rw [if_neg z]
        have : fb_si (fun g => if ρ (1 + g) = 1 + k then (gp (1 + g)).toInt else 0) n = fb_si (fun _ => 0) n := by
          refine fb_si_cong (fun g hg => if_neg (fun y => z ?_))
          have w := (hρ (1 + g) (by omega) (by omega)).2.2
          rw [y] at w
          rw [w]; exact y
        rw [this, si_zero]
    rw [a1, si_swap]
    refine fb_si_cong (fun g hg => ?_)
    have w := hρ (1 + g) (by omega) (by omega)
    have : fb_si (fun k => if ρ (1 + g) = 1 + k then (gp (1 + g)).toInt else 0) m = fb_si (fun k => if ρ (1 + g) - 1 = k then (fun _ => (gp (1 + g)).toInt) k else 0) m := by
      refine fb_si_cong (fun k hk => ?_)
      by_cases y : ρ (1 + g) = 1 + k
      · rw [if_pos y, if_pos (by omega)]
      · rw [if_neg y, if_neg (by omega)]
    rw [this, si_one (by omega)]
  have e3 := si_le e1
  rw [fb_si_add, fb_si_add, e2, fb_si_nat (fun k => nr M n TA TB (1 + k)) m, fb_si_nat (fun k => apN M (tn TA (1 + k)) (φ (tn TA (1 + k)))) m, r3] at e3
  unfold dual
  omega
/-- the least cost, as the reference has it -/
def isWay (M A B v : Nat) : Prop := v ≤ 72 ∧ Rch M A B M B v ∧ ∀ c, Rch M A B M B c → v ≤ c
theorem isWay_one {M A B v v' : Nat} (h : isWay M A B v) (h' : isWay M A B v') : v = v' := by
  have h1 := h.2.2 v' h'.2.1
  have h2 := h'.2.2 v h.2.1
  omega
theorem rch_72 {M A B c : Nat} (hM : M ≤ 12) (h : Rch M A B M B c) : c ≤ 72 := by
  obtain ⟨φ, r1, r2, r3⟩ := h
  rw [← r3]
  have := fb_sm_bound (f := fun a => if A.testBit a = true then apN M a (φ a) else 0) (c := 6) (n := M) (fun a ha => by
    by_cases z : A.testBit a = true
    · rw [if_pos z]; exact apN_6 hM ha (r1 a ha z).1
    · rw [if_neg z]; omega)
  omega
theorem oriented {M A B fu : Nat} {cf ex p gp TB rp TA sl : Nat → Int32} {reached : Int32} (hM : inM M) (hA2 : A < 2 ^ M) (hB2 : B < 2 ^ M) (hAB : pop M B ≤ pop M A) (hB1 : 1 ≤ pop M B) (hfu : 20 < fu) : ∃ v, isWay M A B v ∧ ∃ TA' TB' ex' cf' p' gp' rp' re' sl' gp1 rp1 p1, m_Ways_listTones fu 13 TA (nI A) = some (nI (pop M A), TA') ∧ m_Ways_listTones fu 13 TB (nI B) = some (nI (pop M B), TB') ∧ ∃ S, m_Ways_measure fu ex TB' (nI (pop M B)) TA' (nI (pop M A)) (nI M) = some (S, ex') ∧ m_Ja_fill fu 13 gp 0 = some gp1 ∧ m_Ja_fill fu 13 rp 0 = some rp1 ∧ m_Ja_fill fu 13 p 0 = some p1 ∧ m_Ways_least_L96 fu (nI (pop M B)) ex' (nI (pop M A)) fu 1 cf p1 gp1 rp1 reached sl = some (cf', p', gp', rp', re', sl') ∧ S - rp' 0 = nI v := by
  have h5 := hM.1; have h12 := hM.2
  have hp := p2_le h12
  have pA := pop_le M A
  have pB := pop_le M B
  obtain ⟨TA', eA, hA⟩ := list_s (f := TA) h12 hA2 hfu
  obtain ⟨TB', eB, hB⟩ := list_s (f := TB) h12 hB2 hfu
  have tA := fun j (j1 : 1 ≤ j) (j2 : j ≤ pop M A) => tn_at h12 hA2 hA j1 j2
  have tB := fun j (j1 : 1 ≤ j) (j2 : j ≤ pop M B) => tn_at h12 hB2 hB j1 j2
  obtain ⟨ex', eM, hx⟩ := measure_s (M := M) (n := pop M B) (m := pop M A) (ex := ex) h12 (by omega) (by omega) hfu (fun j a b => ⟨(tA j a b).1, (tA j a b).2.2.2⟩) (fun j a b => ⟨(tB j a b).1, (tB j a b).2.2.2⟩)
  have hd6 : ∀ i j, 1 ≤ i → i ≤ pop M B → 1 ≤ j → j ≤ pop M A → dst M TA' TB' i j ≤ 6 := fun i j a b c d => apN_6 h12 (tA j c d).1 (tB i a b).1
  have hnr : ∀ i j, 1 ≤ i → i ≤ pop M B → 1 ≤ j → j ≤ pop M A → nr M (pop M B) TA' TB' j ≤ dst M TA' TB' i j := fun i j a b c d => by
    have := fmn_le (fun i => dst M TA' TB' (1 + i) j) 1000000 (pop M B) (i - 1) (by omega)
    try dsimp only at this
    rw [show 1 + (i - 1) = i by omega] at this
    exact this
  have hex : ∀ i j, 1 ≤ i → i ≤ pop M B → 1 ≤ j → j ≤ pop M A → (ex' (i * 13 + j)).toInt = (dst M TA' TB' i j : Int) - (nr M (pop M B) TA' TB' j : Int) := fun i j a b c d => by
    have q1 := hd6 i j a b c d
    have q2 := hnr i j a b c d
    rw [hx i j a b c d, pk_sub_toInt (by omega) (by omega)]
  have hE : ∀ g j, 1 ≤ g → g ≤ pop M B → 1 ≤ j → j ≤ pop M A → 0 ≤ (ex' (g * 13 + j)).toInt ∧ (ex' (g * 13 + j)).toInt ≤ 6 := fun i j a b c d => by
    have q1 := hd6 i j a b c d
    have q2 := hnr i j a b c d
    have := hex i j a b c d
    omega
  have z0 : ∀ (f : Nat → Int32) k, k ≤ 12 → fa_fill (fun _ => (0 : Int32)) f 13 k = 0 := fun f k hk => fa_fill_in (by omega)
  have zi : ((0 : Int32)).toInt = 0 := rfl
  have hinit : HI (pop M B) (pop M A) 0 ex' (fa_fill (fun _ => 0) gp 13) (fa_fill (fun _ => 0) rp 13) (fun _ => 0) := by
    refine ⟨fun g j a b c d => ?_, fun j a b => ?_, fun j k _ _ _ _ z => absurd rfl z, fun g a b => absurd b (by omega), fun g a b => ?_, ?_⟩
    · rw [z0 gp g (by omega), z0 rp j (by omega), zi]
      have := hE g j a b c d
      omega
    · rw [z0 rp j (by omega), zi]
      exact ⟨Nat.le_refl 0, by omega, fun _ => rfl, fun z => absurd rfl z⟩
    · rw [z0 gp g (by omega), zi]
      omega
    · have a1 : fb_si (fun g => (fa_fill (fun _ => (0 : Int32)) gp 13 (1 + g)).toInt) (pop M B) = fb_si (fun _ => 0) (pop M B) := fb_si_cong (fun k hk => by rw [z0 gp (1 + k) (by omega), zi])
      have a2 : fb_si (fun j => (fa_fill (fun _ => (0 : Int32)) rp 13 j).toInt) (pop M A + 1) = fb_si (fun _ => 0) (pop M A + 1) := fb_si_cong (fun k hk => by rw [z0 rp k (by omega), zi])
      rw [a1, a2, si_zero, si_zero]
      rfl
  -- goal by goal
  obtain ⟨⟨cf', p', gp', rp', re', sl'⟩, n', ⟨P', hp', hH⟩, e⟩ := up_go (F := fun k i (c : (Nat → Int32) × (Nat → Int32) × (Nat → Int32) × (Nat → Int32) × Int32 × (Nat → Int32)) => m_Ways_least_L96 fu (nI (pop M B)) ex' (nI (pop M A)) k (nI (i + 1)) c.1 c.2.1 c.2.2.1 c.2.2.2.1 c.2.2.2.2.1 c.2.2.2.2.2) (pop M B) (fun i c => ∃ P : Nat → Nat, (∀ j, 1 ≤ j → j ≤ pop M A → c.2.1 j = nI (P j)) ∧ HI (pop M B) (pop M A) i ex' c.2.2.1 c.2.2.2.1 P)
    (by
      rintro k i ⟨cf1, p1, gp1, rp1, re1, sl1⟩ hi ⟨P, hP, hH⟩
      obtain ⟨r, cf2, p2, gp2, rp2, RB, sl2, p3, P3, e1, e2, q1, q2⟩ := goal_s (reached := re1) (sl := sl1) (cf := cf1) (p := p1) (show pop M A ≤ 12 by omega) hAB (show i + 1 ≤ pop M B by omega) hfu hE hP hH
      refine ⟨(cf2, p3, gp2, rp2, RB, sl2), ⟨P3, q1, q2⟩, ?_⟩
      show m_Ways_least_L96 fu (nI (pop M B)) ex' (nI (pop M A)) (k + 1) (nI (i + 1)) cf1 p1 gp1 rp1 re1 sl1 = _
      have e1 : m_Ways_findFreeGoer fu cf1 ex' p1 gp1 rp1 (nI (pop M A)) re1 sl1 (nI (i + 1)) = some (r, cf2, p2, gp2, rp2, RB, sl2) := e1
      rw [m_Ways_least_L96, ilt (by omega) (by omega), if_neg (by omega), e1, bd7_s, lt_eq, e2, bd1_s, lt_eq, nI_1])
    (pop M B) fu 0 (cf, fa_fill (fun _ => 0) p 13, fa_fill (fun _ => 0) gp 13, fa_fill (fun _ => 0) rp 13, reached, sl) (by omega) (by omega) ⟨fun _ => 0, fun j a b => z0 p j (by omega), hinit⟩
  have e : m_Ways_least_L96 fu (nI (pop M B)) ex' (nI (pop M A)) fu 1 cf (fa_fill (fun _ => 0) p 13) (fa_fill (fun _ => 0) gp 13) (fa_fill (fun _ => 0) rp 13) reached sl = m_Ways_least_L96 fu (nI (pop M B)) ex' (nI (pop M A)) (n' + 1) (nI (pop M B + 1)) cf' p' gp' rp' re' sl' := e
  have hH : HI (pop M B) (pop M A) (pop M B) ex' gp' rp' P' := hH
  obtain ⟨v, hv1, hv2⟩ := upper h12 hA2 hB2 hA hB rfl rfl hB1 hex hH
  have hlow : ∀ c, Rch M A B M B c → v ≤ c := fun c hc => by
    have := lower h12 hA2 hB2 hA hB rfl rfl hex hnr hH hc
    omega
  have hv72 := rch_72 h12 hv1
  have h0 := dual_0 hH.2.2.2.2.2
  have hS : fb_sm (fun j => nr M (pop M B) TA' TB' (1 + j)) (pop M A) ≤ 72 := by
    have := fb_sm_bound (f := fun j => nr M (pop M B) TA' TB' (1 + j)) (c := 6) (n := pop M A) (fun k hk => Nat.le_trans (hnr 1 (1 + k) (by omega) hB1 (by omega) (by omega)) (hd6 1 (1 + k) (by omega) hB1 (by omega) (by omega)))
    omega
  refine ⟨v, ⟨hv72, hv1, hlow⟩, TA', TB', ex', cf', p', gp', rp', re', sl', _, _, _, eA, eB, _, eM, fill_s gp 0 (by omega) (by omega), fill_s rp 0 (by omega) (by omega), fill_s p 0 (by omega) (by omega), ?_, ?_⟩
  · rw [e, m_Ways_least_L96, ilt (by omega) (by omega), if_pos (by omega)]
  · rw [← Int32.toInt_inj, nI_toInt (show v < 2 ^ 31 by omega)]
    have hs := nI_toInt (n := fb_sm (fun j => nr M (pop M B) TA' TB' (1 + j)) (pop M A)) (by omega)
    rw [fb_subI (by rw [hs]; omega) (by rw [hs]; omega), hs]
    omega
/-- WAY, of two sets that are not empty -/
def wayN (M a b v : Nat) : Prop := if pop M a < pop M b then isWay M b a v else isWay M a b v
theorem wayN_one {M a b v v' : Nat} (h : wayN M a b v) (h' : wayN M a b v') : v = v' := by
  unfold wayN at h h'
  by_cases c : pop M a < pop M b
  · rw [if_pos c] at h h'; exact isWay_one h h'
  · rw [if_neg c] at h h'; exact isWay_one h h'
theorem pop_pos {M s : Nat} (hs : s < 2 ^ M) (h : s ≠ 0) : 1 ≤ pop M s := by
  rcases Nat.lt_or_ge 0 (pop M s) with c | c
  · exact c
  · exfalso
    have h0 : pop M s = 0 := by omega
    have := fb_ct_zero.mp h0
    apply h
    apply Nat.eq_of_testBit_eq
    intro i
    rw [Nat.zero_testBit]
    rcases Nat.lt_or_ge i M with z | z
    · exact this i z
    · exact Nat.testBit_lt_two_pow (Nat.lt_of_lt_of_le hs (Nat.pow_le_pow_right (by omega) z))
theorem least_s {M a b fu : Nat} {cf ex p gp TB rp TA sl : Nat → Int32} {goals goers reached : Int32} (hM : inM M) (ha : a < 2 ^ M) (hb : b < 2 ^ M) (ha0 : a ≠ 0) (hb0 : b ≠ 0) (hfu : 20 < fu) : ∃ v, wayN M a b v ∧ v ≤ 72 ∧ ∃ cf' ex' p' gp' TB' g1 rp' TA' g2 re' sl', m_Ways_least fu cf ex p gp TB goals rp TA goers reached sl (nI a) (nI b) (nI M) = some (nI v, cf', ex', p', gp', TB', g1, rp', TA', g2, re', sl') := by
  have h5 := hM.1; have h12 := hM.2
  have pa := pop_le M a
  have pb := pop_le M b
  have pa1 := pop_pos ha ha0
  have pb1 := pop_pos hb hb0
  have C1 : ∀ (β : Type) (k : Option β), ck (0 : Int32) 13 k = k := fun β k => ck_s (i := 0) (by omega) (by omega)
  by_cases c : pop M a < pop M b
  · obtain ⟨v, hv, TA', TB', ex', cf', p', gp', rp', re', sl', gp1, rp1, p1, e1, e2, S, e3, e4, e5, e6, e7, e8⟩ := oriented (cf := cf) (ex := ex) (p := p) (gp := gp) (TB := TB) (rp := rp) (TA := TA) (sl := sl) (reached := reached) hM hb ha (by omega) pa1 hfu
    refine ⟨v, by unfold wayN; rw [if_pos c]; exact hv, hv.1, cf', ex', p', gp', TB', nI (pop M a), rp', TA', nI (pop M b), re', sl', ?_⟩
    unfold m_Ways_least
    rw [bc_s h12 ha, bd1_s, bc_s h12 hb, bd1_s, ile (by omega) (by omega), if_neg (by omega), bd1_s, lt_eq, if_neg (show ¬ (1 : Int32) = 0 by decide), bd1_s, e1, bd2_s, lt_eq, if_neg (show ¬ (1 : Int32) = 0 by decide), bd1_s, e2, bd2_s, lt_eq, e3, bd2_s, lt_eq, e4, bd1_s, e5, bd1_s, e6, bd1_s, lt_eq, e7, bd6_s, C1, show (0 : Int32).toNatClampNeg = 0 from rfl, e8]
  · obtain ⟨v, hv, TA', TB', ex', cf', p', gp', rp', re', sl', gp1, rp1, p1, e1, e2, S, e3, e4, e5, e6, e7, e8⟩ := oriented (cf := cf) (ex := ex) (p := p) (gp := gp) (TB := TB) (rp := rp) (TA := TA) (sl := sl) (reached := reached) hM ha hb (by omega) pb1 hfu
    refine ⟨v, by unfold wayN; rw [if_neg c]; exact hv, hv.1, cf', ex', p', gp', TB', nI (pop M b), rp', TA', nI (pop M a), re', sl', ?_⟩
    unfold m_Ways_least
    rw [bc_s h12 ha, bd1_s, bc_s h12 hb, bd1_s, ile (by omega) (by omega), if_pos (by omega), bd1_s, lt_eq, if_pos (show (0 : Int32) = 0 from rfl), bd1_s, e1, bd2_s, lt_eq, if_pos (show (0 : Int32) = 0 from rfl), bd1_s, e2, bd2_s, lt_eq, e3, bd2_s, lt_eq, e4, bd1_s, e5, bd1_s, e6, bd1_s, lt_eq, e7, bd6_s, C1, show (0 : Int32).toNatClampNeg = 0 from rfl, e8]
theorem md_way_s {w best next : Nat → Int32} {M a b fu v : Nat} (hM : inM M) (hw : w 0 = nI M) (ha : a < 2 ^ M) (hb : b < 2 ^ M) (hfu : 5000 < fu) (hv : wayN M a b v) : ∃ best' next', m_Md_wayOf fu best next w (nI a) (nI b) = some (nI v, best', next') := by
  have h5 := hM.1; have h12 := hM.2
  have pa := pop_le M a
  have pb := pop_le M b
  have hF : FAR = 1000000 := rfl
  have key : ∀ A B, isWay M A B v → A < 2 ^ M → B < 2 ^ M → ∃ best' next', m_Md_wayDown fu best next w (nI A) (nI B) = some (nI v, best', next') := by
    intro A B h hA hB
    obtain ⟨v', b', n', e, q1, q2, q3⟩ := wayDown_s (best := best) (next := next) hM hw hA hB hfu
    have h1 := q3 v h.2.1
    have h2 := h.1
    have h3 := h.2.2 v' (q2 (by omega))
    obtain rfl : v' = v := by omega
    exact ⟨b', n', e⟩
  unfold wayN at hv
  unfold m_Md_wayOf
  rw [md_ones_s h12 ha (by omega), bd1_s, md_ones_s h12 hb (by omega), bd1_s, ilt (by omega) (by omega)]
  by_cases c : pop M a < pop M b
  · rw [if_pos c] at hv ⊢
    obtain ⟨b', n', e⟩ := key b a hv hb ha
    exact ⟨b', n', by rw [e, bd3_s]⟩
  · rw [if_neg c] at hv ⊢
    obtain ⟨b', n', e⟩ := key a b hv ha hb
    exact ⟨b', n', by rw [e, bd3_s]⟩
