/-! the class's ways: tones listed, distances measured, the least way -/
theorem si_swap (f : Nat → Nat → Int) (n : Nat) : ∀ m, fb_si (fun j => fb_si (fun k => f j k) n) m = fb_si (fun k => fb_si (fun j => f j k) m) n
  | 0 => by
    have h : fb_si (fun _ => (0 : Int)) n = 0 := by
      have := fb_si_nat (fun _ => 0) n
      rw [fb_sm_const, Nat.mul_zero] at this
      exact this
    exact h.symm
  | m + 1 => by
    rw [fb_si_succ, si_swap f n m, ← fb_si_add]
    exact fb_si_cong (fun k _ => rfl)
theorem si_zero (n : Nat) : fb_si (fun _ => (0 : Int)) n = 0 := by
  have := fb_si_nat (fun _ => 0) n
  rw [fb_sm_const, Nat.mul_zero] at this
  exact this
theorem si_one {g : Nat → Int} {c : Nat} : ∀ {n : Nat}, c < n → fb_si (fun j => if c = j then g j else 0) n = g c
  | 0, h => absurd h (Nat.not_lt_zero c)
  | n + 1, h => by
    rw [fb_si_succ]
    by_cases e : c = n
    · subst e
      rw [if_pos rfl]
      have : fb_si (fun j => if c = j then g j else 0) c = fb_si (fun _ => 0) c := fb_si_cong (fun k hk => if_neg (by omega))
      rw [this, si_zero]; omega
    · rw [if_neg e, si_one (by omega)]; omega
theorem si_le {f g : Nat → Int} : ∀ {n : Nat}, (∀ k, k < n → f k ≤ g k) → fb_si f n ≤ fb_si g n
  | 0, _ => by show (0 : Int) ≤ 0; omega
  | n + 1, h => by
    have h1 := si_le (n := n) (fun k hk => h k (by omega))
    have h2 := h n (by omega)
    rw [fb_si_succ, fb_si_succ]; omega
/-! tones -/
def LT (f : Nat → Int32) (s : Nat) : Prop := ∀ t, t < 12 → s.testBit t = true → f (pop t s + 1) = nI t
theorem pop_lt {n s t : Nat} (ht : t < n) (h : s.testBit t = true) : pop t s < pop n s := by
  have : pop (t + 1) s ≤ pop n s := fb_ct_mono _ ht
  unfold pop at *
  rw [fb_ct_succ, if_pos h] at this
  omega
theorem list_s {M s fu : Nat} {f : Nat → Int32} (hM : M ≤ 12) (hs : s < 2 ^ M) (hfu : 20 < fu) : ∃ f', m_Ways_listTones fu 13 f (nI s) = some (nI (pop M s), f') ∧ LT f' s := by
  unfold m_Ways_listTones
  rw [lt_eq, lt_eq]
  obtain ⟨⟨c, f1⟩, n', ⟨hc, hf⟩, e⟩ := up_go (F := fun n t (c : Int32 × (Nat → Int32)) => m_Ways_listTones_L5 (nI s) 13 n c.1 (nI t) c.2) 12 (fun t c => c.1 = nI (pop t s) ∧ ∀ k, k < t → s.testBit k = true → c.2 (pop k s + 1) = nI k)
    (by
      rintro n t ⟨c, f1⟩ ht ⟨rfl, hf⟩
      have hf : ∀ k, k < t → s.testBit k = true → f1 (pop k s + 1) = nI k := hf
      have hpl := pop_le t s
      have es : pop (t + 1) s = pop t s + if s.testBit t = true then 1 else 0 := fb_ct_succ _ _
      have ha := and1_s (y := nI s) (l := t) (by omega)
      rw [bt_nI (by omega)] at ha
      by_cases q : s.testBit t = true
      · refine ⟨(nI (pop (t + 1) s), upd f1 (pop t s + 1) (nI t)), ⟨rfl, fun k hk hb => ?_⟩, ?_⟩
        · show upd f1 (pop t s + 1) (nI t) (pop k s + 1) = nI k
          by_cases z : k = t
          · subst z; exact pk_us
          · have := pop_lt (show k < t by omega) hb
            rw [pk_un (by omega)]; exact hf k (by omega) hb
        · show m_Ways_listTones_L5 (nI s) 13 (n + 1) (nI (pop t s)) (nI t) f1 = _
          rw [m_Ways_listTones_L5, show (12 : Int32) = nI 12 from rfl, ile (by omega) (by omega), if_neg (by omega), if_neg (fun z => by rw [ha] at z; rw [z] at q; cases q), nI_1, lt_eq, ck_s (by omega) (by omega), lt_eq, bd2_s, lt_eq, nI_1, cl_s (by omega), es, if_pos q]
      · refine ⟨(nI (pop (t + 1) s), f1), ⟨rfl, fun k hk hb => ?_⟩, ?_⟩
        · by_cases z : k = t
          · subst z; exact absurd hb q
          · exact hf k (by omega) hb
        · show m_Ways_listTones_L5 (nI s) 13 (n + 1) (nI (pop t s)) (nI t) f1 = _
          rw [m_Ways_listTones_L5, show (12 : Int32) = nI 12 from rfl, ile (by omega) (by omega), if_neg (by omega), if_pos (ha.mpr (Bool.eq_false_iff.mpr q)), bd2_s, lt_eq, nI_1, es, if_neg q]
          rfl)
    12 fu 0 (0, f) (by omega) (by omega) ⟨rfl, fun k hk => absurd hk (Nat.not_lt_zero k)⟩
  have e : m_Ways_listTones_L5 (nI s) 13 fu 0 0 f = m_Ways_listTones_L5 (nI s) 13 (n' + 1) c (nI 12) f1 := e
  obtain rfl : c = nI (pop 12 s) := hc
  refine ⟨f1, ?_, hf⟩
  rw [e, m_Ways_listTones_L5, show (12 : Int32) = nI 12 from rfl, ile (by omega) (by omega), if_pos (by omega), bd2_s, pop_12 hM hs]
/-- the tone of number j, from 1 on -/
def tn (f : Nat → Int32) (j : Nat) : Nat := (f j).toNatClampNeg
theorem tn_at {f : Nat → Int32} {M s : Nat} (hM : M ≤ 12) (hs : s < 2 ^ M) (h : LT f s) {j : Nat} (h1 : 1 ≤ j) (h2 : j ≤ pop M s) : tn f j < M ∧ s.testBit (tn f j) = true ∧ pop (tn f j) s + 1 = j ∧ f j = nI (tn f j) := by
  obtain ⟨t, a, b, c⟩ := fb_ct_kth (p := fun k => s.testBit k) (k := j - 1) (n := M) (by unfold pop at h2; omega)
  have e := h t (by omega) b
  have e2 : pop t s + 1 = j := by unfold pop; omega
  rw [e2] at e
  have e3 : tn f j = t := by unfold tn; rw [e, cl_s (by omega)]
  rw [e3]
  exact ⟨a, b, e2, e⟩
theorem tn_of {f : Nat → Int32} {s t : Nat} (h : LT f s) (ht : t < 12) (hb : s.testBit t = true) : tn f (pop t s + 1) = t := by
  unfold tn
  rw [h t ht hb, cl_s (by omega)]
/-! distances -/
theorem apN_6 {M a b : Nat} (hM : M ≤ 12) (ha : a < M) (hb : b < M) : apN M a b ≤ 6 := by
  unfold apN
  split <;> split <;> omega
set_option maxRecDepth 100000 in
theorem abs_0 : allB (fun a => allB (fun b => decide ((if (0 : Int32) ≤ nI a - nI b then nI a - nI b else 0 - (nI a - nI b)) = nI (if b ≤ a then a - b else b - a))) 12) 12 = true := by decide +kernel
theorem abs_s {a b : Nat} (ha : a < 12) (hb : b < 12) : (if (0 : Int32) ≤ nI a - nI b then nI a - nI b else 0 - (nI a - nI b)) = nI (if b ≤ a then a - b else b - a) := of_decide_eq_true (allB_spec (allB_spec abs_0 a ha) b hb)
theorem ap_s {M a b : Nat} (hM : M ≤ 12) (ha : a < M) (hb : b < M) : (if nI M - nI (if b ≤ a then a - b else b - a) < nI (if b ≤ a then a - b else b - a) then nI M - nI (if b ≤ a then a - b else b - a) else nI (if b ≤ a then a - b else b - a)) = nI (apN M a b) := by
  unfold apN
  generalize hz : (if b ≤ a then a - b else b - a) = z
  have : z < M := by rw [← hz]; split <;> omega
  rw [pk_sub (by omega), ilt (by omega) (by omega)]
  by_cases c : M - z < z
  · rw [if_pos c, if_pos (by omega)]
  · rw [if_neg c]
    by_cases c2 : M - z ≤ z
    · rw [if_pos c2]
      congr 1
      omega
    · rw [if_neg c2]
/-- how far goer j is from goal i -/
def dst (M : Nat) (TA TB : Nat → Int32) (i j : Nat) : Nat := apN M (tn TA j) (tn TB i)
def nr (M n : Nat) (TA TB : Nat → Int32) (j : Nat) : Nat := fmn (fun i => dst M TA TB (1 + i) j) 1000000 n
theorem measure_s {M n m fu : Nat} {TA TB ex : Nat → Int32} (hM : M ≤ 12) (hn : n ≤ 12) (hm : m ≤ 12) (hfu : 20 < fu) (hA : ∀ j, 1 ≤ j → j ≤ m → tn TA j < M ∧ TA j = nI (tn TA j)) (hB : ∀ i, 1 ≤ i → i ≤ n → tn TB i < M ∧ TB i = nI (tn TB i)) : ∃ ex', m_Ways_measure fu ex TB (nI n) TA (nI m) (nI M) = some (nI (fb_sm (fun j => nr M n TA TB (1 + j)) m), ex') ∧ ∀ i j, 1 ≤ i → i ≤ n → 1 ≤ j → j ≤ m → ex' (i * 13 + j) = nI (dst M TA TB i j) - nI (nr M n TA TB j) := by
  have hnr : ∀ j, nr M n TA TB j ≤ 1000000 := fun j => fmn_le0 _ _ _
  unfold m_Ways_measure
  rw [lt_eq, lt_eq]
  obtain ⟨⟨c, ex1⟩, n', ⟨hc, hx⟩, e⟩ := up_go (F := fun k j (c : Int32 × (Nat → Int32)) => m_Ways_measure_L4 fu (nI m) (nI n) TA TB (nI M) k c.1 (nI (1 + j)) c.2) m (fun j c => c.1 = nI (fb_sm (fun j => nr M n TA TB (1 + j)) j) ∧ ∀ i j', 1 ≤ i → i ≤ n → 1 ≤ j' → j' ≤ j → c.2 (i * 13 + j') = nI (dst M TA TB i j') - nI (nr M n TA TB j'))
    (by
      rintro k j ⟨c, ex1⟩ hj ⟨rfl, hx⟩
      have hx : ∀ i j', 1 ≤ i → i ≤ n → 1 ≤ j' → j' ≤ j → ex1 (i * 13 + j') = nI (dst M TA TB i j') - nI (nr M n TA TB j') := hx
      obtain ⟨hA1, hA2⟩ := hA (1 + j) (by omega) (by omega)
      -- the distances
      obtain ⟨⟨v, ex2⟩, n2, ⟨hv, hx2, hx2'⟩, e2⟩ := up_go (F := fun k i (c : Int32 × (Nat → Int32)) => m_Ways_measure_L19 (nI n) (nI (1 + j)) TA TB (nI M) k c.1 (nI (1 + i)) c.2) n (fun i c => c.1 = nI (fmn (fun i => dst M TA TB (1 + i) (1 + j)) 1000000 i) ∧ (∀ i', 1 ≤ i' → i' ≤ i → c.2 (i' * 13 + (1 + j)) = nI (dst M TA TB i' (1 + j))) ∧ ∀ x, (∀ i', 1 ≤ i' → i' ≤ n → x ≠ i' * 13 + (1 + j)) → c.2 x = ex1 x)
        (by
          rintro k i ⟨v, ex2⟩ hi ⟨rfl, h1, h2⟩
          have h1 : ∀ i', 1 ≤ i' → i' ≤ i → ex2 (i' * 13 + (1 + j)) = nI (dst M TA TB i' (1 + j)) := h1
          have h2 : ∀ x, (∀ i', 1 ≤ i' → i' ≤ n → x ≠ i' * 13 + (1 + j)) → ex2 x = ex1 x := h2
          obtain ⟨hB1, hB2⟩ := hB (1 + i) (by omega) (by omega)
          have hd : dst M TA TB (1 + i) (1 + j) ≤ 6 := apN_6 hM hA1 hB1
          have hf := fmn_le0 (fun i => dst M TA TB (1 + i) (1 + j)) 1000000 i
          refine ⟨(nI (fmn (fun i => dst M TA TB (1 + i) (1 + j)) 1000000 (i + 1)), upd ex2 ((1 + i) * 13 + (1 + j)) (nI (dst M TA TB (1 + i) (1 + j)))), ⟨rfl, fun i' a b => ?_, fun x hx => ?_⟩, ?_⟩
          · show upd ex2 ((1 + i) * 13 + (1 + j)) (nI (dst M TA TB (1 + i) (1 + j))) (i' * 13 + (1 + j)) = _
            by_cases z : i' = 1 + i
            · subst z; exact pk_us
            · rw [pk_un (by omega)]; exact h1 i' a (by omega)
          · show upd ex2 ((1 + i) * 13 + (1 + j)) (nI (dst M TA TB (1 + i) (1 + j))) x = _
            rw [pk_un (hx (1 + i) (by omega) (by omega))]; exact h2 x hx
          · show m_Ways_measure_L19 (nI n) (nI (1 + j)) TA TB (nI M) (k + 1) _ (nI (1 + i)) ex2 = _
            have ea : nI (apN M (tn TA (1 + j)) (tn TB (1 + i))) = nI (dst M TA TB (1 + i) (1 + j)) := rfl
            rw [m_Ways_measure_L19, ilt (by omega) (by omega), if_neg (by omega), ck_s (by omega) (by omega), ck_s (by omega) (by omega), cl_s (by omega), cl_s (by omega), hA2, hB2, abs_s (by omega) (by omega), lt_eq, ap_s hM hA1 hB1, lt_eq, show (13 : Int32) = nI 13 from rfl, pk_mul, nI_add, ck_s (by omega) (by omega), cl_s (by omega), lt_eq, ea, min_s (by omega) (by omega), lt_eq, lt_eq, nI_1, Nat.add_assoc, fmn])
        n fu 0 (1000000, ex1) (by omega) (by omega) ⟨rfl, fun i' a b => absurd b (by omega), fun x _ => rfl⟩
      have e2 : m_Ways_measure_L19 (nI n) (nI (1 + j)) TA TB (nI M) fu 1000000 1 ex1 = m_Ways_measure_L19 (nI n) (nI (1 + j)) TA TB (nI M) (n2 + 1) v (nI (1 + n)) ex2 := e2
      obtain rfl : v = nI (nr M n TA TB (1 + j)) := hv
      have hx2 : ∀ i', 1 ≤ i' → i' ≤ n → ex2 (i' * 13 + (1 + j)) = nI (dst M TA TB i' (1 + j)) := hx2
      have hx2' : ∀ x, (∀ i', 1 ≤ i' → i' ≤ n → x ≠ i' * 13 + (1 + j)) → ex2 x = ex1 x := hx2'
      -- less the nearest
      obtain ⟨ex3, n3, ⟨hx3, hx3', hx3''⟩, e3⟩ := up_go (F := fun k i (c : Nat → Int32) => m_Ways_measure_L90 (nI n) (nI (1 + j)) (nI (nr M n TA TB (1 + j))) k (nI (1 + i)) c) n (fun i c => (∀ i', 1 ≤ i' → i' ≤ i → c (i' * 13 + (1 + j)) = nI (dst M TA TB i' (1 + j)) - nI (nr M n TA TB (1 + j))) ∧ (∀ i', i < i' → i' ≤ n → c (i' * 13 + (1 + j)) = nI (dst M TA TB i' (1 + j))) ∧ ∀ x, (∀ i', 1 ≤ i' → i' ≤ n → x ≠ i' * 13 + (1 + j)) → c x = ex1 x)
        (by
          rintro k i c hi ⟨h1, h2, h3⟩
          refine ⟨upd c ((1 + i) * 13 + (1 + j)) (nI (dst M TA TB (1 + i) (1 + j)) - nI (nr M n TA TB (1 + j))), ⟨fun i' a b => ?_, fun i' a b => ?_, fun x hx => ?_⟩, ?_⟩
          · by_cases z : i' = 1 + i
            · subst z; exact pk_us
            · rw [pk_un (by omega)]; exact h1 i' a (by omega)
          · rw [pk_un (by omega)]; exact h2 i' (by omega) b
          · rw [pk_un (hx (1 + i) (by omega) (by omega))]; exact h3 x hx
          · show m_Ways_measure_L90 (nI n) (nI (1 + j)) (nI (nr M n TA TB (1 + j))) (k + 1) (nI (1 + i)) c = _
            rw [m_Ways_measure_L90, ilt (by omega) (by omega), if_neg (by omega), show (13 : Int32) = nI 13 from rfl, pk_mul, nI_add, ck_s (by omega) (by omega), ck_s (by omega) (by omega), cl_s (by omega), lt_eq, lt_eq, nI_1, h2 (1 + i) (by omega) (by omega), Nat.add_assoc])
        n fu 0 ex2 (by omega) (by omega) ⟨fun i' a b => absurd b (by omega), fun i' a b => hx2 i' (by omega) b, hx2'⟩
      have e3 : m_Ways_measure_L90 (nI n) (nI (1 + j)) (nI (nr M n TA TB (1 + j))) fu 1 ex2 = m_Ways_measure_L90 (nI n) (nI (1 + j)) (nI (nr M n TA TB (1 + j))) (n3 + 1) (nI (1 + n)) ex3 := e3
      refine ⟨(nI (fb_sm (fun j => nr M n TA TB (1 + j)) (j + 1)), ex3), ⟨rfl, fun i j' a b a' b' => ?_⟩, ?_⟩
      · show ex3 (i * 13 + j') = _
        by_cases z : j' = 1 + j
        · subst z; exact hx3 i a b
        · rw [hx3'' (i * 13 + j') (fun i' p q => by omega)]
          exact hx i j' a b a' (by omega)
      · show m_Ways_measure_L4 fu (nI m) (nI n) TA TB (nI M) (k + 1) _ (nI (1 + j)) ex1 = _
        rw [m_Ways_measure_L4, ilt (by omega) (by omega), if_neg (by omega), lt_eq, lt_eq, e2, m_Ways_measure_L19, ilt (by omega) (by omega), if_pos (by omega), bd2_s, lt_eq, e3, m_Ways_measure_L90, ilt (by omega) (by omega), if_pos (by omega), bd1_s, lt_eq, lt_eq, nI_add, nI_1, fb_sm_succ, Nat.add_assoc])
    m fu 0 (0, ex) (by omega) (by omega) ⟨rfl, fun i j' a b a' b' => absurd b' (by omega)⟩
  have e : m_Ways_measure_L4 fu (nI m) (nI n) TA TB (nI M) fu 0 1 ex = m_Ways_measure_L4 fu (nI m) (nI n) TA TB (nI M) (n' + 1) c (nI (1 + m)) ex1 := e
  obtain rfl : c = nI (fb_sm (fun j => nr M n TA TB (1 + j)) m) := hc
  refine ⟨ex1, ?_, hx⟩
  rw [e, m_Ways_measure_L4, ilt (by omega) (by omega), if_pos (by omega), bd2_s]
