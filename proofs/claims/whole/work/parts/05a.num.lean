/-! numbers: small Nats as Int32, and how a loop is followed -/
theorem lt_eq {α β : Type} (v : α) (k : α → β) : lt v k = k v := rfl
theorem ck_s {β : Type} {i n : Nat} {k : Option β} (h : i < n) (hn : n < 2147483648) : ck (nI i) n k = k := if_neg (vp_in_nI h hn)
theorem dv_s {β : Type} {y : Nat} {k : Option β} (h0 : 0 < y) (h : y < 2147483648) : dv (nI y) k = k := if_neg (nI_ne0 h0 h)
theorem bz_1 {β : Type} {k : Option β} : bz 1 k = k := rfl
theorem bz_0 {β : Type} {k : Option β} : bz 0 k = k := rfl
theorem cl_s {n : Nat} (h : n < 2147483648) : (nI n).toNatClampNeg = n := nI_clamp h
theorem shl_s {n k : Nat} (hk : k < 32) (h : n * 2 ^ k < 4294967296) : nI n <<< (nI k &&& 31) = nI (n * 2 ^ k) := pk_shlN _ k (s_l k hk) h
theorem shr_s {n k : Nat} (hk : k < 32) (h : n < 2147483648) : nI n >>> (nI k &&& 31) = nI (n / 2 ^ k) := pk_shrN h _ k (s_l k hk)
theorem le_s {a b : Nat} (ha : a < 2147483648) (hb : b < 2147483648) : (nI a ≤ nI b) = (a ≤ b) := propext (nI_leI ha hb)
theorem lt_s2 {a b : Nat} (ha : a < 2147483648) (hb : b < 2147483648) : (nI a < nI b) = (a < b) := propext (nI_ltI ha hb)
theorem eq_s {a b : Nat} (ha : a < 2147483648) (hb : b < 2147483648) : (nI a = nI b) = (a = b) := propext (nI_eq ha hb)
theorem ile {α : Type} {a b : Nat} {x y : α} (ha : a < 2147483648) (hb : b < 2147483648) : (if nI a ≤ nI b then x else y) = (if a ≤ b then x else y) := by
  by_cases h : a ≤ b
  · rw [if_pos h, if_pos ((nI_leI ha hb).mpr h)]
  · rw [if_neg h, if_neg (fun q => h ((nI_leI ha hb).mp q))]
theorem ilt {α : Type} {a b : Nat} {x y : α} (ha : a < 2147483648) (hb : b < 2147483648) : (if nI a < nI b then x else y) = (if a < b then x else y) := by
  by_cases h : a < b
  · rw [if_pos h, if_pos ((nI_ltI ha hb).mpr h)]
  · rw [if_neg h, if_neg (fun q => h ((nI_ltI ha hb).mp q))]
theorem ieq {α : Type} {a b : Nat} {x y : α} (ha : a < 2147483648) (hb : b < 2147483648) : (if nI a = nI b then x else y) = (if a = b then x else y) := by
  by_cases h : a = b
  · rw [if_pos h, if_pos ((nI_eq ha hb).mpr h)]
  · rw [if_neg h, if_neg (fun q => h ((nI_eq ha hb).mp q))]
theorem up_go {σ β : Type} (F : Nat → Nat → σ → Option β) (e : Nat) (I : Nat → σ → Prop) (hs : ∀ n i s, i < e → I i s → ∃ s', I (i + 1) s' ∧ F (n + 1) i s = F n (i + 1) s') : ∀ (d n i : Nat) (s : σ), i + d = e → d < n → I i s → ∃ s' n', I e s' ∧ F n i s = F (n' + 1) e s'
  | 0, n, i, s, h, hn, hI => by
    obtain ⟨n', rfl⟩ : ∃ n', n = n' + 1 := ⟨n - 1, by omega⟩
    obtain rfl : i = e := by omega
    exact ⟨s, n', hI, rfl⟩
  | d + 1, n, i, s, h, hn, hI => by
    obtain ⟨n', rfl⟩ : ∃ n', n = n' + 1 := ⟨n - 1, by omega⟩
    obtain ⟨s', hI', e'⟩ := hs n' i s (by omega) hI
    obtain ⟨s2, n2, h2, e2⟩ := up_go F e I hs d n' (i + 1) s' (by omega) (by omega) hI'
    exact ⟨s2, n2, h2, e'.trans e2⟩
/-! sets: bit by bit -/
/-- the tones k below n that are in s, each put at g k -/
def acc (g : Nat → Nat) (s : Nat) : Nat → Nat
  | 0 => 0
  | n + 1 => acc g s n ||| (if s.testBit n then 2 ^ g n else 0)
theorem acc_lt (g : Nat → Nat) (s m : Nat) : ∀ n, (∀ k, k < n → g k < m) → acc g s n < 2 ^ m
  | 0, _ => Nat.two_pow_pos m
  | n + 1, h => by
    have h1 := acc_lt g s m n (fun k hk => h k (by omega))
    have h2 : (if s.testBit n then 2 ^ g n else 0) < 2 ^ m := by
      by_cases c : s.testBit n
      · rw [if_pos c]; exact Nat.pow_lt_pow_right (by omega) (h n (by omega))
      · rw [if_neg c]; exact Nat.two_pow_pos m
    exact Nat.or_lt_two_pow h1 h2
theorem acc_bit (g : Nat → Nat) (s i : Nat) : ∀ n, (acc g s n).testBit i = true ↔ ∃ k, k < n ∧ s.testBit k = true ∧ g k = i
  | 0 => by simp [acc]
  | n + 1 => by
    have ih := acc_bit g s i n
    have e : (acc g s (n + 1)).testBit i = ((acc g s n).testBit i || (if s.testBit n then 2 ^ g n else 0).testBit i) := by rw [acc, Nat.testBit_or]
    rw [e, Bool.or_eq_true, ih]
    constructor
    · rintro (⟨k, h1, h2, h3⟩ | h)
      · exact ⟨k, by omega, h2, h3⟩
      · by_cases c : s.testBit n = true
        · rw [if_pos c, Nat.testBit_two_pow] at h
          exact ⟨n, by omega, c, of_decide_eq_true h⟩
        · rw [if_neg c] at h; simp at h
    · rintro ⟨k, h1, h2, h3⟩
      rcases Nat.lt_or_ge k n with q | q
      · exact Or.inl ⟨k, q, h2, h3⟩
      · obtain rfl : k = n := by omega
        right
        rw [if_pos h2, Nat.testBit_two_pow]
        exact decide_eq_true h3
theorem bit_and1 (s k : Nat) : s / 2 ^ k &&& 1 = if s.testBit k then 1 else 0 := by
  rw [Nat.and_one_is_mod, Nat.testBit_eq_decide_div_mod_eq]
  by_cases c : s / 2 ^ k % 2 = 1
  · simp [c]
  · have : s / 2 ^ k % 2 = 0 := by omega
    simp [this]
/-! what a program decides -/
def allB (p : Nat → Bool) : Nat → Bool
  | 0 => true
  | n + 1 => p n && allB p n
theorem allB_spec {p : Nat → Bool} : ∀ {n : Nat}, allB p n = true → ∀ k, k < n → p k = true
  | 0, _, k, hk => absurd hk (Nat.not_lt_zero k)
  | n + 1, h, k, hk => by
    rw [allB, Bool.and_eq_true] at h
    rcases Nat.lt_or_ge k n with q | q
    · exact allB_spec h.2 k q
    · obtain rfl : k = n := by omega
      exact h.1
def inM (M : Nat) : Prop := 5 ≤ M ∧ M ≤ 12
def ringB (P : Nat → Bool) : Bool := P 5 && (P 6 && (P 7 && (P 8 && (P 9 && (P 10 && (P 11 && P 12))))))
theorem ringB_spec {P : Nat → Bool} (h : ringB P = true) {M : Nat} (hM : inM M) : P M = true := by
  simp only [ringB, Bool.and_eq_true] at h
  obtain ⟨h5, h6, h7, h8, h9, h10, h11, h12⟩ := h
  obtain ⟨q1, q2⟩ := hM
  rcases (show M = 5 ∨ M = 6 ∨ M = 7 ∨ M = 8 ∨ M = 9 ∨ M = 10 ∨ M = 11 ∨ M = 12 by omega) with rfl | rfl | rfl | rfl | rfl | rfl | rfl | rfl <;> assumption
