/-! small things: bounds -/
theorem lgc_lt (x y : Int64) : lg_cmp x y < 0 ↔ x.toInt < y.toInt := by
  unfold lg_cmp
  by_cases h1 : x > y
  · rw [if_pos h1]
    have h2 : y.toInt < x.toInt := (fa_lt64 y x).mp h1
    constructor
    · intro h; exact absurd h (by decide)
    · intro h; omega
  · rw [if_neg h1]
    have h1' : ¬ y.toInt < x.toInt := fun h => h1 ((fa_lt64 y x).mpr h)
    by_cases h2 : x = y
    · rw [if_pos h2, h2]
      constructor
      · intro h; exact absurd h (by decide)
      · intro h; omega
    · rw [if_neg h2]
      have h3 : x.toInt ≠ y.toInt := fun h => h2 ((fa_eq64 x y).mpr h)
      constructor
      · intro _; omega
      · intro _; decide
theorem lgc_gt (x y : Int64) : 0 < lg_cmp x y ↔ y.toInt < x.toInt := by
  unfold lg_cmp
  by_cases h1 : x > y
  · rw [if_pos h1]
    have h2 : y.toInt < x.toInt := (fa_lt64 y x).mp h1
    exact ⟨fun _ => h2, fun _ => by decide⟩
  · rw [if_neg h1]
    have h1' : ¬ y.toInt < x.toInt := fun h => h1 ((fa_lt64 y x).mpr h)
    by_cases h2 : x = y
    · rw [if_pos h2]
      exact ⟨fun h => absurd h (by decide), fun h => absurd h h1'⟩
    · rw [if_neg h2]
      exact ⟨fun h => absurd h (by decide), fun h => absurd h h1'⟩
/-- x lies from lo to hi -/
abbrev rg (lo hi x : Int32) : Prop := lo.toInt ≤ x.toInt ∧ x.toInt ≤ hi.toInt
theorem in_s {x : Int32} {a b : Int64} (lo hi : Int32) (ha : a.toInt = lo.toInt) (hb : b.toInt = hi.toInt) : m_Md_in x.toInt64 a b = some (if rg lo hi x then 1 else 0) := by
  unfold m_Md_in
  by_cases h1 : x.toInt < lo.toInt
  · rw [if_pos ((lgc_lt _ _).mpr (by rw [Int32.toInt_toInt64, ha]; exact h1)), if_neg (fun h => by omega)]
  · rw [if_neg (fun h => h1 (by have := (lgc_lt _ _).mp h; rw [Int32.toInt_toInt64, ha] at this; exact this))]
    by_cases h2 : hi.toInt < x.toInt
    · rw [if_pos ((lgc_gt _ _).mpr (by rw [Int32.toInt_toInt64, hb]; exact h2)), if_neg (fun h => by omega)]
    · rw [if_neg (fun h => h2 (by have := (lgc_gt _ _).mp h; rw [Int32.toInt_toInt64, hb] at this; exact this)), if_pos ⟨by omega, by omega⟩]
theorem rg_nat {x : Int32} (h : 0 ≤ x.toInt) : ∃ q, q < 2147483648 ∧ x = nI q ∧ (q : Int) = x.toInt := by
  have h1 := Int32.toInt_lt x
  refine ⟨x.toInt.toNat, by omega, ?_, by omega⟩
  rw [fa_eq, nI_toInt (by omega)]
  omega
theorem two1 {α : Type} {x lo hi : Int32} {A B : α} : (if x < lo then A else if hi < x then A else B) = if rg lo hi x then B else A := by
  unfold rg
  by_cases h1 : x < lo
  · rw [if_pos h1, if_neg (fun h => by rw [fa_lt] at h1; omega)]
  · rw [if_neg h1]
    by_cases h2 : hi < x
    · rw [if_pos h2, if_neg (fun h => by rw [fa_lt] at h2; omega)]
    · rw [if_neg h2, if_pos (by rw [fa_lt] at h1 h2; omega)]
theorem two2 {α : Type} {x lo hi : Int32} {A B : α} : (if x < lo then A else if x ≤ hi then B else A) = if rg lo hi x then B else A := by
  unfold rg
  by_cases h1 : x < lo
  · rw [if_pos h1, if_neg (fun h => by rw [fa_lt] at h1; omega)]
  · rw [if_neg h1]
    by_cases h2 : x ≤ hi
    · rw [if_pos h2, if_pos (by rw [fa_lt] at h1; rw [fa_le] at h2; omega)]
    · rw [if_neg h2, if_neg (by rw [fa_le] at h2; omega)]
/-- x is a place of n -/
abbrev pl (n : Nat) (x : Int32) : Prop := 0 ≤ x ∧ x < nI n
theorem pl_ex {n : Nat} {x : Int32} (hn : n < 2147483648) (h : pl n x) : ∃ q, q < n ∧ x = nI q := by
  have h1 := (fa_le _ _).mp h.1
  have h2 := (fa_lt _ _).mp h.2
  rw [nI_toInt hn] at h2
  obtain ⟨q, q1, q2, q3⟩ := rg_nat (x := x) h1
  exact ⟨q, by omega, q2⟩
theorem pl_of {n q : Nat} (hn : n < 2147483648) (h : q < n) : pl n (nI q) := ⟨nI_pos' (by omega), (nI_ltI (by omega) hn).mpr h⟩
theorem two3 {α : Type} {n : Nat} {x : Int32} {A B : α} : (if x < 0 then A else if x < nI n then B else A) = if pl n x then B else A := by
  unfold pl
  by_cases h1 : x < 0
  · rw [if_pos h1, if_neg (fun h => by have h2 := (fa_le _ _).mp h.1; rw [fa_lt] at h1; omega)]
  · rw [if_neg h1]
    have h0 : 0 ≤ x := by rw [fa_lt] at h1; rw [fa_le]; omega
    by_cases h2 : x < nI n
    · rw [if_pos h2, if_pos ⟨h0, h2⟩]
    · rw [if_neg h2, if_neg (fun h => h2 h.2)]
theorem two4 {α : Type} {n : Nat} {x : Int32} {A B : α} : (if x < 0 then A else if nI n ≤ x then A else B) = if pl n x then B else A := by
  unfold pl
  by_cases h1 : x < 0
  · rw [if_pos h1, if_neg (fun h => by have h2 := (fa_le _ _).mp h.1; rw [fa_lt] at h1; omega)]
  · rw [if_neg h1]
    have h0 : 0 ≤ x := by rw [fa_lt] at h1; rw [fa_le]; omega
    by_cases h2 : nI n ≤ x
    · rw [if_pos h2, if_neg (fun h => by have h3 := (fa_lt _ _).mp h.2; rw [fa_le] at h2; omega)]
    · rw [if_neg h2, if_pos ⟨h0, by rw [fa_le] at h2; rw [fa_lt]; omega⟩]
theorem rg_pl {n : Nat} {x : Int32} (hn : n ≤ 5000) : rg 0 (nI n - 1) x ↔ pl n x := by
  unfold rg pl
  rw [show (1 : Int32) = nI 1 from rfl, pk_sub_toInt (by omega) (by omega), fa_le, fa_lt, nI_toInt (by omega), show (0 : Int32).toInt = 0 from rfl]
  constructor <;> intro h <;> constructor <;> omega
theorem hasP {n : Nat} (hn : n ≤ 8) (p : Int32) : m_Shelf_has (nI n) p = some (if pl n p then 1 else 0) := has_s hn p
theorem C1 {β : Type} (k : Option β) : ck (1 : Int32) 190 k = k := ck_s (i := 1) (by omega) (by omega)
theorem isPlace_s {w : Nat → Int32} {n : Nat} (hn : n ≤ 8) (hw : w 1 = nI n) (p : Int32) : m_Md_isPlace w p = some (if pl n p then 1 else 0) := by
  unfold m_Md_isPlace
  have W1 : w (1 : Int32).toNatClampNeg = nI n := hw
  rw [C1, W1, in_s 0 (nI n - 1) (by decide) (by rw [Int32.toInt_toInt64]), bd1_s]
  by_cases h : pl n p
  · rw [if_pos ((rg_pl (by omega)).mpr h), if_pos h]; rfl
  · rw [if_neg (fun z => h ((rg_pl (by omega)).mp z)), if_neg h]; rfl
theorem setAt_o {n : Nat} {p : Int32} {sets : Nat → Int32} (hn : n ≤ 8) (h : ¬ pl n p) : m_Shelf_setAt (nI n) sets p = some 0 := by
  unfold m_Shelf_setAt
  rw [hasP hn, if_neg h, bd1_s, if_pos rfl]
/-! one of a row of numbers -/
def exB (f : Nat → Bool) (d : Nat) : Nat → Bool
  | 0 => false
  | m + 1 => f d || exB f (d + 1) m
theorem exB_top (f : Nat → Bool) : ∀ (m d : Nat), exB f d (m + 1) = (exB f d m || f (d + m))
  | 0, d => by simp [exB]
  | m + 1, d => by
    rw [exB, exB_top f m (d + 1), exB, Bool.or_assoc, show d + 1 + m = d + (m + 1) by omega]
/-! common divisors -/
def cdv (v M d : Nat) : Bool := decide (v % d = 0) && decide (M % d = 0)
theorem cdL2 {v M : Nat} (hv : v < 100) (hM : M < 100) : ∀ (m d n : Nat), 2 ≤ d → d + m = v + 1 → m < n → m_Ring_haveCommonDivisor_L2 (nI v) (nI M) n (nI d) = some (if exB (cdv v M) d m then 1 else 0)
  | 0, d, n, hd, e, hn => by
    obtain ⟨n, rfl⟩ : ∃ z, n = z + 1 := ⟨n - 1, by omega⟩
    rw [m_Ring_haveCommonDivisor_L2, ilt (by omega) (by omega), if_pos (by omega)]
    rfl
  | m + 1, d, n, hd, e, hn => by
    obtain ⟨n, rfl⟩ : ∃ z, n = z + 1 := ⟨n - 1, by omega⟩
    rw [m_Ring_haveCommonDivisor_L2, ilt (by omega) (by omega), if_neg (by omega), dv_s (by omega) (by omega), pk_rem (by omega) (by omega) (by omega), show (0 : Int32) = nI 0 from rfl, ieq (by have := Nat.mod_le v d; omega) (by omega), dv_s (by omega) (by omega), pk_rem (by omega) (by omega) (by omega), ieq (by have := Nat.mod_le M d; omega) (by omega), lt_eq, nI_1, cdL2 hv hM m (d + 1) n (by omega) (by omega) (by omega), exB]
    unfold cdv
    by_cases h1 : v % d = 0
    · rw [if_pos h1]
      by_cases h2 : M % d = 0
      · rw [if_pos h2, decide_eq_true h1, decide_eq_true h2]; rfl
      · rw [if_neg h2, decide_eq_false h2, Bool.and_false, Bool.false_or]; rfl
    · rw [if_neg h1, decide_eq_false h1, Bool.false_and, Bool.false_or]; rfl
theorem cd_s {v M fu : Nat} (h1 : 1 ≤ v) (hv : v < 100) (hM : M < 100) (hfu : 200 < fu) : m_Ring_haveCommonDivisor fu (nI v) (nI M) = some (if exB (cdv v M) 2 (v - 1) then 1 else 0) := by
  unfold m_Ring_haveCommonDivisor
  rw [lt_eq]
  exact cdL2 hv hM (v - 1) 2 fu (by omega) (by omega) (by omega)
theorem shL4 {w : Nat → Int32} {v M : Nat} (hw : w 0 = nI M) (hv : v < 100) (hM : M < 100) : ∀ (m d n : Nat) (f : Bool), 2 ≤ d → d + m = v + 1 → m < n → m_Md_share_L4 (nI v) w n (if f then 1 else 0) (nI d) = some (if (f || exB (cdv v M) d m) then 1 else 0)
  | 0, d, n, f, hd, e, hn => by
    obtain ⟨n, rfl⟩ : ∃ z, n = z + 1 := ⟨n - 1, by omega⟩
    rw [m_Md_share_L4, ilt (by omega) (by omega), if_pos (by omega), exB, Bool.or_false]
  | m + 1, d, n, f, hd, e, hn => by
    obtain ⟨n, rfl⟩ : ∃ z, n = z + 1 := ⟨n - 1, by omega⟩
    have key : (if (if f then (1 : Int32) else 0) = 0 then dv (nI d) (if nI v - nI v / nI d * nI d = 0 then bd1 (m_Md_m w) fun r_1 => dv (nI d) (if r_1 - r_1 / nI d * nI d = 0 then some 1 else some 0) else some 0) else some 1) = some (if (f || cdv v M d) then (1 : Int32) else 0) := by
      cases f
      · rw [if_pos (by decide), dv_s (by omega) (by omega), pk_rem (by omega) (by omega) (by omega), show (0 : Int32) = nI 0 from rfl, ieq (by have := Nat.mod_le v d; omega) (by omega), md_m hw, bd1_s, dv_s (by omega) (by omega), pk_rem (by omega) (by omega) (by omega), ieq (by have := Nat.mod_le M d; omega) (by omega), Bool.false_or]
        unfold cdv
        by_cases h1 : v % d = 0
        · rw [if_pos h1]
          by_cases h2 : M % d = 0
          · rw [if_pos h2, decide_eq_true h1, decide_eq_true h2]; rfl
          · rw [if_neg h2, decide_eq_false h2, Bool.and_false]; rfl
        · rw [if_neg h1, decide_eq_false h1, Bool.false_and]; rfl
      · rfl
    rw [m_Md_share_L4, ilt (by omega) (by omega), if_neg (by omega), key, bd1_s, lt_eq, lt_eq, nI_1, shL4 hw hv hM m (d + 1) n _ (by omega) (by omega) (by omega), exB, Bool.or_assoc]
theorem share_s {w : Nat → Int32} {v M fu : Nat} (hw : w 0 = nI M) (h1 : 1 ≤ v) (hv : v < 100) (hM : M < 100) (hfu : 200 < fu) : m_Md_share fu w (nI v) = some (if exB (cdv v M) 2 (v - 1) then 1 else 0) := by
  unfold m_Md_share
  have := shL4 hw hv hM (v - 1) 2 fu false (by omega) (by omega) (by omega)
  rw [Bool.false_or] at this
  have e : m_Md_share_L4 (nI v) w fu 0 2 = _ := this
  rw [lt_eq, lt_eq, e, bd1_s]
  split <;> rfl
/-! a set times a number -/
theorem mulN_lt {M s v : Nat} (hM : 0 < M) : acc (fun k => k * v % M) s M < 2 ^ M := acc_lt _ s M M (fun _ _ => Nat.mod_lt _ hM)
theorem mult_s {M s v fu : Nat} (hM : inM M) (hs : s < 2 ^ M) (hv : v < M) (hfu : 20 < fu) : m_Ring_multiplied fu (nI s) (nI v) (nI M) = some (nI (acc (fun k => k * v % M) s M)) := by
  have hp := p2_le hM.2
  have hM12 := hM.2
  have hM5 := hM.1
  unfold m_Ring_multiplied
  rw [lt_eq, lt_eq, lt_eq]
  obtain ⟨⟨p, g⟩, n', ⟨h1, h2⟩, e⟩ := up_go (F := fun n t (x : Int32 × Int32) => m_Ring_multiplied_L8 (nI M) (nI s) (nI v) n x.1 x.2 (nI t)) M (fun t x => x.1 = nI (acc (fun k => k * v % M) s t) ∧ x.2 = nI (t * v % M))
    (by
      rintro n t ⟨p, g⟩ ht ⟨h1, h2⟩
      obtain rfl : p = nI (acc (fun k => k * v % M) s t) := h1
      obtain rfl : g = nI (t * v % M) := h2
      have hg : t * v % M < M := Nat.mod_lt _ (by omega)
      refine ⟨(nI (acc (fun k => k * v % M) s (t + 1)), nI ((t + 1) * v % M)), ⟨rfl, rfl⟩, ?_⟩
      show m_Ring_multiplied_L8 (nI M) (nI s) (nI v) (n + 1) (nI (acc (fun k => k * v % M) s t)) (nI (t * v % M)) (nI t) = _
      have hb : (if s.testBit t then 1 else 0) * 2 ^ (t * v % M) < 4294967296 := by
        have h3 : 2 ^ (t * v % M) ≤ 4096 := Nat.pow_le_pow_right (n := 2) (j := 12) (by omega) (by omega)
        split <;> omega
      have es := acc_step (fun k => k * v % M) s t
      have eg : (if nI (t * v % M) + nI v < nI M then some (nI (t * v % M) + nI v) else some (nI (t * v % M) + nI v - nI M)) = some (nI ((t + 1) * v % M)) := by
        rw [nI_add, ilt (by omega) (by omega)]
        have e1 : (t + 1) * v % M = (t * v % M + v) % M := by rw [Nat.add_mul, Nat.one_mul, Nat.mod_add_mod]
        rw [e1]
        by_cases c : t * v % M + v < M
        · rw [if_pos c, Nat.mod_eq_of_lt c]
        · rw [if_neg c, pk_sub (by omega), Nat.mod_eq_sub_mod (a := t * v % M + v) (by omega), Nat.mod_eq_of_lt (show t * v % M + v - M < M by omega)]
      rw [m_Ring_multiplied_L8, ile (by omega) (by omega), if_neg (by omega), bit_s (by omega) (by omega), shl_s (by omega) hb, es, lt_eq, lt_eq, lt_eq, eg, bd1_s, lt_eq, nI_1])
    M fu 0 (0, 0) (by omega) (by omega) ⟨rfl, by show (0 : Int32) = nI (0 * v % M); rw [Nat.zero_mul, Nat.zero_mod]; rfl⟩
  have e : m_Ring_multiplied_L8 (nI M) (nI s) (nI v) fu 0 0 0 = m_Ring_multiplied_L8 (nI M) (nI s) (nI v) (n' + 1) p g (nI M) := e
  obtain rfl : p = nI (acc (fun k => k * v % M) s M) := h1
  rw [e, m_Ring_multiplied_L8, ile (by omega) (by omega), if_pos (by omega), bd1_s]
/-! what a set becomes -/
theorem cmpl_s {M s : Nat} (hM : M ≤ 12) (hs : s < 2 ^ M) : nI (2 ^ M - 1) &&& (nI s ^^^ (-1)) = nI (2 ^ M - 1 - s) := by
  refine b_ext (fun i hi => ?_)
  rw [b_and, b_not hi, bt_nI hi, bt_nI hi, bt_nI hi, Nat.testBit_two_pow_sub_one, show 2 ^ M - 1 - s = 2 ^ M - (s + 1) by omega, Nat.testBit_two_pow_sub_succ hs]
theorem anot_s {a b : Nat} : nI a &&& (nI b ^^^ (-1)) = nI (a ^^^ (a &&& b)) := by
  refine b_ext (fun i hi => ?_)
  rw [b_and, b_not hi, bt_nI hi, bt_nI hi, bt_nI hi, Nat.testBit_xor, Nat.testBit_and]
  cases a.testBit i <;> cases b.testBit i <;> rfl
