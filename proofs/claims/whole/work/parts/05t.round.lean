/-! the way round the shelf: the reference -/
theorem apN_c (M a b : Nat) : apN M a b = apN M b a := by
  unfold apN
  by_cases h1 : b ≤ a
  · by_cases h2 : a ≤ b
    · obtain rfl : a = b := by omega
      rfl
    · simp only [if_pos h1, if_neg h2]
  · simp only [if_neg h1, if_pos (show a ≤ b by omega)]
theorem rch_symm {M A B c : Nat} (hM : M ≤ 12) (hA2 : A < 2 ^ M) (hB2 : B < 2 ^ M) (hp : pop M A = pop M B) (h : Rch M A B M B c) : Rch M B A M A c := by
  obtain ⟨TA, -, hA⟩ := list_s (fu := 21) (f := fun _ => 0) hM hA2 (by omega)
  obtain ⟨TB, -, hB⟩ := list_s (fu := 21) (f := fun _ => 0) hM hB2 (by omega)
  obtain ⟨φ, r1, r2, r3⟩ := h
  rw [cost_re hM hA rfl] at r3
  have tA := fun j (j1 : 1 ≤ j) (j2 : j ≤ pop M A) => tn_at hM hA2 hA j1 j2
  have tB := fun j (j1 : 1 ≤ j) (j2 : j ≤ pop M B) => tn_at hM hB2 hB j1 j2
  -- the goal of goer j, both from 0 on
  have hr : ∀ j, j < pop M A → pop (φ (tn TA (1 + j))) B < pop M A ∧ tn TB (1 + pop (φ (tn TA (1 + j))) B) = φ (tn TA (1 + j)) := by
    intro j hj
    have h5 := tA (1 + j) (by omega) (by omega)
    obtain ⟨q1, q2⟩ := r1 _ h5.1 h5.2.1
    have := pop_lt q1 q2
    refine ⟨by omega, ?_⟩
    rw [Nat.add_comm 1]
    exact tn_of hB (by omega) q2
  have hs : ∀ g, g < pop M A → ∃ j, j < pop M A ∧ pop (φ (tn TA (1 + j))) B = g := by
    intro g hg
    have h5 := tB (1 + g) (by omega) (by omega)
    have : (acc φ A M).testBit (tn TB (1 + g)) = true := by rw [r2]; exact h5.2.1
    obtain ⟨a, ha, hb, e⟩ := (acc_bit φ A _ M).mp this
    have hpl := pop_lt ha hb
    refine ⟨pop a A, hpl, ?_⟩
    rw [Nat.add_comm 1, tn_of hA (by omega) hb, e]
    have := h5.2.2.1
    omega
  obtain ⟨σ, hσ⟩ : ∃ σ : Nat → Nat, ∀ g, g < pop M A → σ g < pop M A ∧ pop (φ (tn TA (1 + σ g))) B = g := by
    refine ⟨fun g => if hg : g < pop M A then Classical.choose (hs g hg) else 0, fun g hg => ?_⟩
    dsimp only
    rw [dif_pos hg]
    exact Classical.choose_spec (hs g hg)
  have hback : ∀ j, j < pop M A → σ (pop (φ (tn TA (1 + j))) B) = j := by
    intro j hj
    obtain ⟨g, hg, e⟩ := fb_onto (n := pop M A) (f := σ) (fun i hi => (hσ i hi).1) (fun i k hik hk e => by
      have h1 := (hσ i (by omega)).2
      have h2 := (hσ k hk).2
      rw [e, h2] at h1
      omega) hj
    have h1 := (hσ g hg).2
    rw [e] at h1
    rw [h1]; exact e
  refine ⟨fun b => tn TA (1 + σ (pop b B)), ?_, ?_, ?_⟩
  · intro b hb hbb
    have h1 := pop_lt hb hbb
    have h2 := hσ (pop b B) (by omega)
    have h5 := tA (1 + σ (pop b B)) (by omega) (by omega)
    exact ⟨h5.1, h5.2.1⟩
  · apply Nat.eq_of_testBit_eq
    intro i
    rw [Bool.eq_iff_iff, acc_bit]
    constructor
    · rintro ⟨b, hb, hbb, e⟩
      have h1 := pop_lt hb hbb
      have h2 := hσ (pop b B) (by omega)
      have h5 := tA (1 + σ (pop b B)) (by omega) (by omega)
      rw [← e]; exact h5.2.1
    · intro hi
      have hiM : i < M := by
        rcases Nat.lt_or_ge i M with z | z
        · exact z
        · rw [Nat.testBit_lt_two_pow (Nat.lt_of_lt_of_le hA2 (Nat.pow_le_pow_right (by omega) z))] at hi; cases hi
      have hpi := pop_lt hiM hi
      have e0 : tn TA (1 + pop i A) = i := by rw [Nat.add_comm 1]; exact tn_of hA (by omega) hi
      obtain ⟨q1, q2⟩ := r1 i hiM hi
      refine ⟨φ i, q1, q2, ?_⟩
      have := hback (pop i A) hpi
      rw [e0] at this
      rw [this, e0]
  · rw [cost_re (TA := TB) hM hB rfl, ← hp, ← r3]
    rw [← sm_perm (f := fun g => apN M (tn TB (1 + g)) (tn TA (1 + σ (pop (tn TB (1 + g)) B)))) (σ := fun j => pop (φ (tn TA (1 + j))) B) (τ := σ) (n := pop M A) (fun k hk => ⟨(hr k hk).1, hback k hk⟩) (fun k hk => hσ k hk)]
    refine fb_sm_cong (fun j hj => ?_)
    rw [(hr j hj).2, hback j hj, apN_c]
theorem isWay_symm {M A B v : Nat} (hM : M ≤ 12) (hA2 : A < 2 ^ M) (hB2 : B < 2 ^ M) (hp : pop M A = pop M B) (h : isWay M A B v) : isWay M B A v :=
  ⟨h.1, rch_symm hM hA2 hB2 hp h.2.1, fun c hc => h.2.2 c (rch_symm hM hB2 hA2 hp.symm hc)⟩
theorem wayN_symm {M a b v : Nat} (hM : M ≤ 12) (ha : a < 2 ^ M) (hb : b < 2 ^ M) (h : wayN M a b v) : wayN M b a v := by
  unfold wayN at *
  rcases Nat.lt_trichotomy (pop M a) (pop M b) with c | c | c
  · rw [if_pos c] at h
    rw [if_neg (by omega)]; exact h
  · rw [if_neg (by omega)] at h
    rw [if_neg (by omega)]; exact isWay_symm hM ha hb c h
  · rw [if_neg (by omega)] at h
    rw [if_pos c]; exact h
theorem way_ex {M a b : Nat} (hM : inM M) (ha : a < 2 ^ M) (hb : b < 2 ^ M) (ha0 : a ≠ 0) (hb0 : b ≠ 0) : ∃ v, wayN M a b v ∧ v ≤ 72 := by
  obtain ⟨v, h1, h2, -⟩ := least_s (fu := 21) (cf := fun _ => 0) (ex := fun _ => 0) (p := fun _ => 0) (gp := fun _ => 0) (TB := fun _ => 0) (rp := fun _ => 0) (TA := fun _ => 0) (sl := fun _ => 0) (goals := 0) (goers := 0) (reached := 0) hM ha hb ha0 hb0 (by omega)
  exact ⟨v, h1, h2⟩
/-- the ways between the sets s p -/
theorem way_D {M n : Nat} {s : Nat → Nat} (hM : inM M) (hs : ∀ p, p < n → s p < 2 ^ M) : ∃ D : Nat → Nat → Nat, (∀ p q, D p q ≤ 72) ∧ (∀ p q, D p q = D q p) ∧ ∀ p q, p < n → q < n → s p ≠ 0 → s q ≠ 0 → wayN M (s p) (s q) (D p q) := by
  refine ⟨fun p q => if h : p < n ∧ q < n ∧ s p ≠ 0 ∧ s q ≠ 0 then Classical.choose (way_ex hM (hs p h.1) (hs q h.2.1) h.2.2.1 h.2.2.2) else 0, fun p q => ?_, fun p q => ?_, fun p q hp hq p0 q0 => ?_⟩
  · dsimp only
    by_cases h : p < n ∧ q < n ∧ s p ≠ 0 ∧ s q ≠ 0
    · rw [dif_pos h]; exact (Classical.choose_spec (way_ex hM (hs p h.1) (hs q h.2.1) h.2.2.1 h.2.2.2)).2
    · rw [dif_neg h]; omega
  · dsimp only
    by_cases h : p < n ∧ q < n ∧ s p ≠ 0 ∧ s q ≠ 0
    · have h' : q < n ∧ p < n ∧ s q ≠ 0 ∧ s p ≠ 0 := ⟨h.2.1, h.1, h.2.2.2, h.2.2.1⟩
      rw [dif_pos h, dif_pos h']
      exact wayN_one (wayN_symm hM.2 (hs p h.1) (hs q h.2.1) (Classical.choose_spec (way_ex hM (hs p h.1) (hs q h.2.1) h.2.2.1 h.2.2.2)).1 |> fun z => wayN_symm hM.2 (hs q h.2.1) (hs p h.1) z) (wayN_symm hM.2 (hs q h.2.1) (hs p h.1) (Classical.choose_spec (way_ex hM (hs q h'.1) (hs p h'.2.1) h'.2.2.1 h'.2.2.2)).1)
    · have h' : ¬ (q < n ∧ p < n ∧ s q ≠ 0 ∧ s p ≠ 0) := fun z => h ⟨z.2.1, z.1, z.2.2.2, z.2.2.1⟩
      rw [dif_neg h, dif_neg h']
  · dsimp only
    rw [dif_pos ⟨hp, hq, p0, q0⟩]
    exact (Classical.choose_spec (way_ex hM (hs p hp) (hs q hq) p0 q0)).1
/-! paths -/
/-- k steps from f on: the places that were come to, the last one, the cost -/
def Pk (D : Nat → Nat → Nat) (f : Nat) : Nat → Nat → Nat → Nat → Prop
  | 0, mask, last, c => mask = 2 ^ f ∧ last = f ∧ c = 0
  | k + 1, mask, last, c => ∃ mask' last' c', Pk D f k mask' last' c' ∧ mask'.testBit last = false ∧ mask = mask' ||| 2 ^ last ∧ c = c' + D last' last
theorem Pk_in {D : Nat → Nat → Nat} {f : Nat} : ∀ {k mask last c : Nat}, Pk D f k mask last c → mask.testBit last = true ∧ mask.testBit f = true
  | 0, mask, last, c, h => by
    obtain ⟨rfl, rfl, -⟩ := h
    exact ⟨by rw [Nat.testBit_two_pow]; simp, by rw [Nat.testBit_two_pow]; simp⟩
  | k + 1, mask, last, c, h => by
    obtain ⟨mask', last', c', h, -, rfl, -⟩ := h
    have ih := Pk_in h
    rw [fb_bit_set, fb_bit_set]
    exact ⟨by simp, by rw [ih.2]; rfl⟩
theorem Pk_last {D : Nat → Nat → Nat} {f k mask last c : Nat} (h : Pk D f (k + 1) mask last c) : last ≠ f := by
  obtain ⟨mask', last', c', h1, h2, -, -⟩ := h
  intro e
  subst e
  have := (Pk_in h1).2
  rw [h2] at this; cases this
theorem pop_or {n mask q : Nat} (hq : q < n) (h : mask.testBit q = false) : pop n (mask ||| 2 ^ q) = pop n mask + 1 := by
  have h1 := fb_ct_upd (fun k => mask.testBit k) true hq
  have h2 : pop n (mask ||| 2 ^ q) = fb_ct (fun k => if k = q then true else mask.testBit k) n := fb_ct_cong (fun k _ => by
    rw [fb_bit_set]
    by_cases z : k = q
    · simp [z]
    · simp [z])
  rw [h, if_neg (by decide), if_pos rfl] at h1
  unfold pop at *
  omega
theorem Pk_pop {D : Nat → Nat → Nat} {f n : Nat} : ∀ {k mask last c : Nat}, Pk D f k mask last c → mask < 2 ^ n → pop n mask = k + 1
  | 0, mask, last, c, h, hm => by
    obtain ⟨rfl, rfl, -⟩ := h
    have hf : last < n := by
      rcases Nat.lt_or_ge last n with z | z
      · exact z
      · have := Nat.pow_le_pow_right (n := 2) (by omega) z; omega
    have := pop_or (n := n) (mask := 0) hf (Nat.zero_testBit _)
    rw [Nat.zero_or] at this
    rw [this]
    have h3 : pop n 0 = 0 := fb_ct_zero.mpr (fun k _ => Nat.zero_testBit k)
    omega
  | k + 1, mask, last, c, h, hm => by
    obtain ⟨mask', last', c', h, hb, e, -⟩ := h
    subst e
    have hl : last < n := by
      rcases Nat.lt_or_ge last n with z | z
      · exact z
      · have h1 : (mask' ||| 2 ^ last).testBit last = true := by rw [fb_bit_set]; simp
        rw [Nat.testBit_lt_two_pow (Nat.lt_of_lt_of_le hm (Nat.pow_le_pow_right (by omega) z))] at h1; cases h1
    have hm' : mask' < 2 ^ n := Nat.lt_of_le_of_lt (Nat.left_le_or) hm
    rw [pop_or hl hb, Pk_pop h hm']
theorem Pk_cost {D : Nat → Nat → Nat} {f : Nat} (hD : ∀ p q, D p q ≤ 72) : ∀ {k mask last c : Nat}, Pk D f k mask last c → c ≤ 72 * k
  | 0, mask, last, c, h => by obtain ⟨-, -, rfl⟩ := h; omega
  | k + 1, mask, last, c, h => by
    obtain ⟨mask', last', c', h, hb, e, e2⟩ := h
    have := Pk_cost hD h
    have := hD last' last
    omega
theorem or_lt8 {mask q : Nat} (h : mask.testBit q = false) : mask < mask ||| 2 ^ q := by
  rcases Nat.lt_or_ge mask (mask ||| 2 ^ q) with z | z
  · exact z
  · have h1 : mask ≤ mask ||| 2 ^ q := Nat.left_le_or
    have e : mask = mask ||| 2 ^ q := by omega
    have h2 : (mask ||| 2 ^ q).testBit q = true := by rw [fb_bit_set]; simp
    rw [← e, h] at h2; cases h2
/-! the reference's table -/
def subM (a b : Nat) : Prop := ∀ i, a.testBit i = true → b.testBit i = true
def RT (D : Nat → Nat → Nat) (f must K : Nat) (rd : Nat → Int32) : Prop :=
  (∀ i, i < 2048 → ∃ v, v ≤ FAR ∧ rd i = nI v ∧ (v < FAR → subM (i / 8) must ∧ ∃ k, Pk D f k (i / 8) (i % 8) v)) ∧
  (∃ v, rd (8 * 2 ^ f + f) = nI v ∧ v = 0) ∧
  (∀ k mask last c q v, Pk D f k mask last c → mask < 256 → last < 8 → q < 8 → subM (mask ||| 2 ^ q) must → mask.testBit q = false → 8 * mask + last < K → rd (8 * (mask ||| 2 ^ q) + q) = nI v → v ≤ FAR → v ≤ c + D last q)
/-- a place of the table is right once all smaller sets are done -/
theorem RT_at {D : Nat → Nat → Nat} {f must K mask last : Nat} {rd : Nat → Int32} (hf : f < 8) (h : RT D f must K rd) (hm : mask < 256) (hl : last < 8) (hK : 8 * mask ≤ K) (hs : subM mask must) : ∀ k c v, Pk D f k mask last c → rd (8 * mask + last) = nI v → v ≤ FAR → v ≤ c := by
  intro k c v hp hv hF
  have hFar : FAR = 1000000 := rfl
  cases k with
  | zero =>
    obtain ⟨rfl, rfl, rfl⟩ := hp
    obtain ⟨v', e, rfl⟩ := h.2.1
    rw [e] at hv
    have := (nI_eq (by omega) (by omega)).mp hv
    omega
  | succ k =>
    obtain ⟨mask', last', c', h1, h2, rfl, rfl⟩ := hp
    have hlt := or_lt8 h2
    have hl' : last' < 8 := by
      have := (Pk_in h1).1
      rcases Nat.lt_or_ge last' 8 with z | z
      · exact z
      · rw [Nat.testBit_lt_two_pow (show mask' < 2 ^ last' from Nat.lt_of_lt_of_le (show mask' < 2 ^ 8 by omega) (Nat.pow_le_pow_right (by omega) z))] at this; cases this
    exact h.2.2 k mask' last' c' last v h1 (by omega) hl' hl hs h2 (by omega) hv hF
theorem or256 {m q : Nat} (hm : m < 256) (hq : q < 8) : m ||| 2 ^ q < 256 := Nat.or_lt_two_pow (n := 8) hm (Nat.pow_lt_pow_right (by omega) hq)
theorem rd165 {w ways : Nat → Int32} {D : Nat → Nat → Nat} {f must n m0 l0 fu : Nat} (hf : f < 8) (hn : n ≤ 8) (hw1 : w 1 = nI n) (hmust : must < 256) (hmn : ∀ q, must.testBit q = true → q < n) (hD : ∀ p q, D p q ≤ 72) (hways : ∀ p q, p ≠ q → must.testBit p = true → must.testBit q = true → ways (8 * p + q) = nI (D p q)) (hm0 : m0 < 256) (hl0 : l0 < 8) (hfu : 20 < fu) {rd : Nat → Int32} (h : RT D f must (8 * m0 + l0) rd) : ∃ rd', m_Md_roundNow_L165 w (nI (8 * m0 + l0)) (nI m0) (nI l0) ways (nI must) fu 0 rd = some rd' ∧ RT D f must (8 * m0 + l0 + 1) rd' ∧ ∀ i, i < 8 * m0 + 8 → rd' i = rd i := by
  have hFar : FAR = 1000000 := rfl
  have F1 : (1000000 : Int32) = nI FAR := rfl
  obtain ⟨v, hv, ev, hvp⟩ := h.1 (8 * m0 + l0) (by omega)
  have e8 : (8 * m0 + l0) / 8 = m0 := by omega
  have e8' : (8 * m0 + l0) % 8 = l0 := by omega
  rw [e8, e8'] at hvp
  have C1 : ∀ (β : Type) (k : Option β), ck (1 : Int32) 190 k = k := fun β k => ck_s (i := 1) (by omega) (by omega)
  have W1 : w (1 : Int32).toNatClampNeg = nI n := hw1
  by_cases c : v < FAR
  · obtain ⟨hsub, k0, hp0⟩ := hvp c
    have hl0m : must.testBit l0 = true := hsub l0 (Pk_in hp0).1
    have hc0 := Pk_cost hD hp0
    have hk0 := Pk_pop (n := 8) hp0 hm0
    have hk8 := pop_le 8 m0
    -- the loop over q
    obtain ⟨rd', n', ⟨hI1, hI2, hI3, hI4⟩, e⟩ := up_go (F := fun k q (rd : Nat → Int32) => m_Md_roundNow_L165 w (nI (8 * m0 + l0)) (nI m0) (nI l0) ways (nI must) k (nI q) rd) n (fun q rd1 => (∀ i, i < 2048 → ∃ v, v ≤ FAR ∧ rd1 i = nI v ∧ (v < FAR → subM (i / 8) must ∧ ∃ k, Pk D f k (i / 8) (i % 8) v)) ∧ (∀ i, i < 8 * m0 + 8 → rd1 i = rd i) ∧ (∀ i v v', rd i = nI v → rd1 i = nI v' → v ≤ FAR → v' ≤ FAR → i < 2048 → v' ≤ v) ∧ ∀ q', q' < q → must.testBit q' = true → m0.testBit q' = false → ∀ v', rd1 (8 * (m0 ||| 2 ^ q') + q') = nI v' → v' ≤ FAR → v' ≤ v + D l0 q')
      (by
        rintro k q rd1 hq ⟨h1, h2, h3, h4⟩
        have hto := or256 hm0 (show q < 8 by omega)
        obtain ⟨t, ht, et, htp⟩ := h1 (8 * (m0 ||| 2 ^ q) + q) (by omega)
        have ek : rd1 (8 * m0 + l0) = nI v := by rw [h2 _ (by omega)]; exact ev
        have hd := hD l0 q
        have base : ∀ X : Int32, (if (must.testBit q = true ∧ m0.testBit q = false ∧ v + D l0 q < t) then X = nI (v + D l0 q) else X = nI t) → m_Md_roundNow_L165 w (nI (8 * m0 + l0)) (nI m0) (nI l0) ways (nI must) (k + 1) (nI q) rd1 = m_Md_roundNow_L165 w (nI (8 * m0 + l0)) (nI m0) (nI l0) ways (nI must) k (nI (q + 1)) (upd rd1 (8 * (m0 ||| 2 ^ q) + q) X) := by
          intro X hX
          rw [m_Md_roundNow_L165, C1, W1, ile (by omega) (by omega), if_neg (by omega), ck_s (by omega) (by omega), cl_s (by omega), ek, F1, ile (by omega) (by omega), if_neg (by omega), p2_s (by omega), fa_or, show (8 : Int32) = nI 8 from rfl, pk_mul, nI_add, lt_eq, ck_s (by omega) (by omega), pk_mul, nI_add, ck_s (by omega) (by omega), cl_s (by omega), lt_eq, md_has (by omega) (by omega), bd1_s, md_has (by omega) (by omega), bd1_s, cl_s (by omega), et, ck_s (by omega) (by omega)]
          by_cases c1 : must.testBit q = true
          · by_cases c2 : m0.testBit q = true
            · rw [if_neg (fun z => by rw [c2] at z; exact absurd z.2.1 (by decide))] at hX
              rw [if_pos c1, if_neg (show ¬ (1 : Int32) = 0 by decide), if_pos c2, if_neg (show ¬ (1 : Int32) = 0 by decide), bd1_s, lt_eq, if_pos (show (0 : Int32) = 0 from rfl), ck_s (by omega) (by omega), bd1_s, ck_s (by omega) (by omega), lt_eq, lt_eq, nI_1, hX]
            · have hne : l0 ≠ q := fun z => by subst z; exact c2 (Pk_in hp0).1
              rw [if_pos c1, if_neg (show ¬ (1 : Int32) = 0 by decide), if_neg c2, if_pos (show (0 : Int32) = 0 from rfl), hways l0 q hne hl0m c1, nI_add, ile (by omega) (by omega)]
              by_cases c3 : t ≤ v + D l0 q
              · rw [if_neg (fun z => by omega)] at hX
                rw [if_pos c3, bd1_s, lt_eq, if_pos (show (0 : Int32) = 0 from rfl), ck_s (by omega) (by omega), bd1_s, ck_s (by omega) (by omega), lt_eq, lt_eq, nI_1, hX]
              · rw [if_pos ⟨c1, Bool.eq_false_iff.mpr c2, by omega⟩] at hX
                rw [if_neg c3, bd1_s, lt_eq, if_neg (show ¬ (1 : Int32) = 0 by decide), bd1_s, ck_s (by omega) (by omega), lt_eq, lt_eq, nI_1, hX]
          · rw [if_neg (fun z => c1 z.1)] at hX
            rw [if_neg c1, if_pos (show (0 : Int32) = 0 from rfl), bd1_s, lt_eq, if_pos (show (0 : Int32) = 0 from rfl), ck_s (by omega) (by omega), bd1_s, ck_s (by omega) (by omega), lt_eq, lt_eq, nI_1, hX]
        by_cases c4 : must.testBit q = true ∧ m0.testBit q = false ∧ v + D l0 q < t
        · have hlt := or_lt8 c4.2.1
          refine ⟨_, ⟨?_, ?_, ?_, ?_⟩, base _ (by rw [if_pos c4])⟩
          · intro i hi
            by_cases z : i = 8 * (m0 ||| 2 ^ q) + q
            · subst z
              refine ⟨v + D l0 q, by omega, pk_us, fun _ => ?_⟩
              rw [show (8 * (m0 ||| 2 ^ q) + q) / 8 = m0 ||| 2 ^ q by omega, show (8 * (m0 ||| 2 ^ q) + q) % 8 = q by omega]
              refine ⟨fun j hj => ?_, k0 + 1, m0, l0, v, hp0, c4.2.1, rfl, rfl⟩
              rw [fb_bit_set, Bool.or_eq_true, decide_eq_true_eq] at hj
              rcases hj with hj | rfl
              · exact hsub j hj
              · exact c4.1
            · rw [pk_un z]; exact h1 i hi
          · intro i hi
            rw [pk_un (by omega)]; exact h2 i hi
          · intro i v1 v2 e1 e2 b1 b2 hi
            by_cases z : i = 8 * (m0 ||| 2 ^ q) + q
            · subst z
              rw [pk_us] at e2
              have q1 := (nI_eq (by omega) (by omega)).mp e2
              have q2 := h3 _ v1 t e1 et b1 ht hi
              omega
            · rw [pk_un z] at e2
              exact h3 i v1 v2 e1 e2 b1 b2 hi
          · intro q' hq' c1' c2' v' e' b'
            by_cases z : q' = q
            · subst z
              rw [pk_us] at e'
              have := (nI_eq (by omega) (by omega)).mp e'
              omega
            · rw [pk_un (by omega)] at e'
              exact h4 q' (by omega) c1' c2' v' e' b'
        · refine ⟨_, ⟨?_, ?_, ?_, ?_⟩, base _ (by rw [if_neg c4])⟩
          · intro i hi
            by_cases z : i = 8 * (m0 ||| 2 ^ q) + q
            · subst z
              rw [pk_us]
              exact ⟨t, ht, rfl, htp⟩
            · rw [pk_un z]; exact h1 i hi
          · intro i hi
            by_cases z : i = 8 * (m0 ||| 2 ^ q) + q
            · subst z
              rw [pk_us, ← et]; exact h2 _ hi
            · rw [pk_un z]; exact h2 i hi
          · intro i v1 v2 e1 e2 b1 b2 hi
            by_cases z : i = 8 * (m0 ||| 2 ^ q) + q
            · subst z
              rw [pk_us, ← et] at e2
              exact h3 _ v1 v2 e1 e2 b1 b2 hi
            · rw [pk_un z] at e2
              exact h3 i v1 v2 e1 e2 b1 b2 hi
          · intro q' hq' c1' c2' v' e' b'
            by_cases z : q' = q
            · subst z
              rw [pk_us] at e'
              have := (nI_eq (by omega) (by omega)).mp e'
              rcases Nat.lt_or_ge (v + D l0 q') t with y | y
              · exact absurd ⟨c1', c2', y⟩ c4
              · omega
            · have hne : ¬ 8 * (m0 ||| 2 ^ q') + q' = 8 * (m0 ||| 2 ^ q) + q := by omega
              rw [pk_un hne] at e'
              exact h4 q' (by omega) c1' c2' v' e' b')
      n fu 0 rd (by omega) (by omega) ⟨h.1, fun i _ => rfl, fun i v v' a b c d _ => by
          rw [a] at b
          have := (nI_eq (by omega) (by omega)).mp b
          omega, fun q' hq' => absurd hq' (Nat.not_lt_zero q')⟩
    have e : m_Md_roundNow_L165 w (nI (8 * m0 + l0)) (nI m0) (nI l0) ways (nI must) fu 0 rd = m_Md_roundNow_L165 w (nI (8 * m0 + l0)) (nI m0) (nI l0) ways (nI must) (n' + 1) (nI n) rd' := e
    refine ⟨rd', ?_, ⟨hI1, ?_, ?_⟩, hI2⟩
    · rw [e, m_Md_roundNow_L165, C1, W1, ile (by omega) (by omega), if_pos (by omega)]
    · obtain ⟨v0, e0, z0⟩ := h.2.1
      have p8 := or256 (m := 0) (by omega) hf
      rw [Nat.zero_or] at p8
      obtain ⟨v1, b1, e1, -⟩ := hI1 (8 * 2 ^ f + f) (by omega)
      have := hI3 _ v0 v1 e0 e1 (by omega) b1 (by omega)
      exact ⟨v1, e1, by omega⟩
    · intro k mask last c' q v' hp hm hl hq hs hb hK e' b'
      by_cases z : 8 * mask + last < 8 * m0 + l0
      · obtain ⟨v1, b1, e1, -⟩ := h.1 (8 * (mask ||| 2 ^ q) + q) (by have := or256 hm hq; omega)
        have q1 := h.2.2 k mask last c' q v1 hp hm hl hq hs hb z e1 b1
        have q2 := hI3 _ v1 v' e1 e' b1 b' (by have := or256 hm hq; omega)
        omega
      · obtain rfl : mask = m0 := by omega
        obtain rfl : last = l0 := by omega
        have hqm : must.testBit q = true := hs q (by rw [fb_bit_set]; simp)
        have q1 := hI4 q (hmn q hqm) hqm hb v' e' b'
        have q2 := RT_at hf h hm hl (by omega) hsub k c' v hp ev hv
        omega
  · refine ⟨rd, ?_, ⟨h.1, h.2.1, ?_⟩, fun i _ => rfl⟩
    · obtain ⟨fu, rfl⟩ : ∃ z, fu = z + 1 := ⟨fu - 1, by omega⟩
      rw [m_Md_roundNow_L165, C1, W1, show (0 : Int32) = nI 0 from rfl, ile (by omega) (by omega)]
      by_cases z : n ≤ 0
      · rw [if_pos z]
      · rw [if_neg z, ck_s (by omega) (by omega), cl_s (by omega), ev, F1, ile (by omega) (by omega), if_pos (by omega)]
    · intro k mask last c' q v' hp hm hl hq hs hb hK e' b'
      by_cases z : 8 * mask + last < 8 * m0 + l0
      · exact h.2.2 k mask last c' q v' hp hm hl hq hs hb z e' b'
      · obtain rfl : mask = m0 := by omega
        obtain rfl : last = l0 := by omega
        have hsm : subM mask must := fun i hi => hs i (by rw [fb_bit_set, hi]; rfl)
        have q2 := RT_at hf h hm hl (by omega) hsm k c' v hp ev hv
        have hc0 := Pk_cost hD hp
        have hk0 := Pk_pop (n := 8) hp hm
        have hk8 := pop_le 8 mask
        omega
