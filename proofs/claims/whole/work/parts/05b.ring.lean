/-! the ring: turned, mirrored, multiplied, as the class and the reference have them -/
theorem acc_congr {g g' : Nat → Nat} {s : Nat} : ∀ {n : Nat}, (∀ k, k < n → g k = g' k) → acc g s n = acc g' s n
  | 0, _ => rfl
  | n + 1, h => by rw [acc, acc, acc_congr (fun k hk => h k (by omega)), h n (by omega)]
theorem acc_comp (g f : Nat → Nat) (s n m : Nat) (hf : ∀ k, k < n → f k < m) : acc g (acc f s n) m = acc (fun k => g (f k)) s n := by
  apply Nat.eq_of_testBit_eq
  intro i
  rw [Bool.eq_iff_iff, acc_bit, acc_bit]
  constructor
  · rintro ⟨k, h1, h2, h3⟩
    obtain ⟨j, h4, h5, h6⟩ := (acc_bit f s k n).mp h2
    exact ⟨j, h4, h5, by rw [h6]; exact h3⟩
  · rintro ⟨k, h1, h2, h3⟩
    exact ⟨f k, hf k h1, (acc_bit f s (f k) n).mpr ⟨k, h1, h2, rfl⟩, h3⟩
theorem acc_id {s n : Nat} (h : s < 2 ^ n) : acc (fun k => k) s n = s := by
  apply Nat.eq_of_testBit_eq
  intro i
  rw [Bool.eq_iff_iff, acc_bit]
  constructor
  · rintro ⟨k, h1, h2, rfl⟩; exact h2
  · intro hi
    refine ⟨i, ?_, hi, rfl⟩
    rcases Nat.lt_or_ge i n with q | q
    · exact q
    · rw [Nat.testBit_lt_two_pow (Nat.lt_of_lt_of_le h (Nat.pow_le_pow_right (by omega) q))] at hi
      cases hi
/-- the ring's maps of tones: k below M turns by k, M and k mirrors, then turns by k -/
def rot (M k j : Nat) : Nat := if k < M then (j + k) % M else (k - M + M - j) % M
def img (M s k : Nat) : Nat := acc (rot M k) s M
theorem rot_lt {M k j : Nat} (hM : 0 < M) : rot M k j < M := by
  unfold rot
  split <;> exact Nat.mod_lt _ hM
theorem img_lt {M s k : Nat} (hM : 0 < M) : img M s k < 2 ^ M := acc_lt _ s M M (fun _ _ => rot_lt hM)
theorem p2_le {M : Nat} (h : M ≤ 12) : 2 ^ M ≤ 4096 := Nat.pow_le_pow_right (n := 2) (by omega) h
theorem p2_s {M : Nat} (h : M ≤ 12) : (1 : Int32) <<< (nI M &&& 31) = nI (2 ^ M) := by
  have := p2_le h
  rw [show (1 : Int32) = nI 1 from rfl, shl_s (by omega) (by omega), Nat.one_mul]
theorem all_s {M : Nat} (h : M ≤ 12) : m_Ring_allTones (nI M) = some (nI (2 ^ M - 1)) := by
  unfold m_Ring_allTones
  rw [p2_s h, show (1 : Int32) = nI 1 from rfl, pk_sub (Nat.two_pow_pos M)]
theorem turn_nat {M s t : Nat} (ht : t < M) (hs : s < 2 ^ M) : (s * 2 ^ t ||| s / 2 ^ (M - t)) &&& (2 ^ M - 1) = img M s t := by
  apply Nat.eq_of_testBit_eq
  intro i
  have hz : ∀ j, M ≤ j → s.testBit j = false := fun j hj => Nat.testBit_lt_two_pow (Nat.lt_of_lt_of_le hs (Nat.pow_le_pow_right (by omega) hj))
  rw [Nat.and_two_pow_sub_one_eq_mod, Nat.testBit_mod_two_pow, Nat.testBit_or, ← Nat.shiftLeft_eq, ← Nat.shiftRight_eq_div_pow, Nat.testBit_shiftLeft, Nat.testBit_shiftRight]
  rw [Bool.eq_iff_iff, img, acc_bit]
  simp only [Bool.and_eq_true, Bool.or_eq_true, decide_eq_true_eq]
  constructor
  · rintro ⟨h1, ⟨h2, h3⟩ | h3⟩
    · refine ⟨i - t, by omega, h3, ?_⟩
      rw [rot, if_pos ht, show i - t + t = i by omega, Nat.mod_eq_of_lt h1]
    · have h4 : M - t + i < M := by
        rcases Nat.lt_or_ge (M - t + i) M with q | q
        · exact q
        · rw [hz _ q] at h3; cases h3
      refine ⟨M - t + i, h4, h3, ?_⟩
      rw [rot, if_pos ht, show M - t + i + t = i + M by omega, Nat.add_mod_right, Nat.mod_eq_of_lt h1]
  · rintro ⟨k, h1, h2, h3⟩
    rw [rot, if_pos ht] at h3
    have hi : i < M := by rw [← h3]; exact Nat.mod_lt _ (by omega)
    refine ⟨hi, ?_⟩
    rcases Nat.lt_or_ge (k + t) M with q | q
    · rw [Nat.mod_eq_of_lt q] at h3
      exact Or.inl ⟨by omega, by rw [show i - t = k by omega]; exact h2⟩
    · rw [Nat.mod_eq_sub_mod q, Nat.mod_eq_of_lt (by omega)] at h3
      exact Or.inr (by rw [show M - t + i = k by omega]; exact h2)
theorem turned_s {M s t : Nat} (hM : inM M) (ht : t < M) (hs : s < 2 ^ M) : m_Ring_turned (nI s) (nI t) (nI M) = some (nI (img M s t)) := by
  obtain ⟨h5, h12⟩ := hM
  have hp := p2_le h12
  have hpt : 2 ^ t ≤ 4096 := p2_le (by omega)
  unfold m_Ring_turned
  rw [all_s h12, bd1_s, pk_sub (Nat.le_of_lt ht), shl_s (by omega) ?_, shr_s (by omega) (by omega), fa_or, fa_and, turn_nat ht hs]
  calc s * 2 ^ t ≤ 4096 * 4096 := Nat.mul_le_mul (by omega) hpt
    _ < 4294967296 := by omega
theorem bit_s {s k : Nat} (hs : s < 2147483648) (hk : k < 32) : (nI s >>> (nI k &&& 31)) &&& 1 = nI (if s.testBit k then 1 else 0) := by
  rw [shr_s hk hs, show (1 : Int32) = nI 1 from rfl, fa_and, bit_and1]
theorem acc_step (g : Nat → Nat) (s n : Nat) : nI (acc g s n) ||| nI ((if s.testBit n then 1 else 0) * 2 ^ g n) = nI (acc g s (n + 1)) := by
  rw [fa_or, acc]
  by_cases c : s.testBit n = true
  · rw [if_pos c, if_pos c, Nat.one_mul]
  · rw [if_neg c, if_neg c, Nat.zero_mul]
theorem b01 (b : Bool) : (if b = true then 1 else 0) ≤ 1 := by cases b <;> simp
theorem bpow {b : Bool} {k : Nat} (hk : k ≤ 12) : (if b = true then 1 else 0) * 2 ^ k < 4294967296 := by
  have := p2_le hk
  have := b01 b
  calc (if b = true then 1 else 0) * 2 ^ k ≤ 1 * 4096 := Nat.mul_le_mul (b01 b) (p2_le hk)
    _ < 4294967296 := by omega
theorem mirrored_s {M s fu : Nat} (hM : inM M) (hs : s < 2 ^ M) (hfu : 20 < fu) : m_Ring_mirrored fu (nI s) (nI M) = some (nI (img M s M)) := by
  obtain ⟨h5, h12⟩ := hM
  have hp := p2_le h12
  unfold m_Ring_mirrored
  rw [lt_eq, lt_eq]
  obtain ⟨c, n', hc, e⟩ := up_go (F := fun n i (c : Int32) => m_Ring_mirrored_L6 (nI M) (nI s) n c (nI i)) M (fun i c => 1 ≤ i ∧ c = nI (acc (rot M M) s i))
    (by
      rintro n i c hi ⟨h1, rfl⟩
      refine ⟨_, ⟨by omega, rfl⟩, ?_⟩
      show m_Ring_mirrored_L6 (nI M) (nI s) (n + 1) _ (nI i) = _
      rw [m_Ring_mirrored_L6, if_neg (by rw [le_s (by omega) (by omega)]; omega), lt_eq, lt_eq, bit_s (by omega) (by omega), pk_sub (by omega), shl_s (by omega) (bpow (by omega)), nI_1]
      have hr : M - i = rot M M i := by
        rw [rot, if_neg (by omega), show M - M + M - i = M - i by omega, Nat.mod_eq_of_lt (by omega)]
      rw [hr, acc_step])
    (M - 1) fu 1 (nI s &&& 1) (by omega) (by omega) ⟨by omega, by
      rw [show (1 : Int32) = nI 1 from rfl, fa_and]
      have : s &&& 1 = acc (rot M M) s 1 := by
        have h := bit_and1 s 0
        rw [Nat.pow_zero, Nat.div_one] at h
        have hr : rot M M 0 = 0 := by rw [rot, if_neg (by omega), show M - M + M - 0 = M by omega, Nat.mod_self]
        rw [h, acc, acc, hr, Nat.zero_or, Nat.pow_zero]
      rw [this]⟩
  have e : m_Ring_mirrored_L6 (nI M) (nI s) fu (nI s &&& 1) 1 = m_Ring_mirrored_L6 (nI M) (nI s) (n' + 1) c (nI M) := e
  rw [e, m_Ring_mirrored_L6, if_pos (by rw [le_s (by omega) (by omega)]; omega), bd1_s, hc.2]
  rfl
