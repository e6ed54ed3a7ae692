/-! the way round the shelf: the class -/
theorem has_s {n : Nat} (hn : n ≤ 8) (p : Int32) : m_Shelf_has (nI n) p = some (if (0 ≤ p ∧ p < nI n) then 1 else 0) := by
  unfold m_Shelf_has
  by_cases c1 : p < 0
  · rw [if_pos c1, if_neg (fun z => by have := z.1; rw [fa_le] at this; rw [fa_lt] at c1; omega)]
  · have h0 : 0 ≤ p := by rw [fa_le]; rw [fa_lt] at c1; omega
    rw [if_neg c1]
    by_cases c2 : nI n ≤ p
    · rw [if_pos c2, if_neg (fun z => by have := z.2; rw [fa_lt] at this; rw [fa_le] at c2; omega)]
    · rw [if_neg c2, if_pos ⟨h0, by rw [fa_lt]; rw [fa_le] at c2; omega⟩]
theorem has_t {n p : Nat} (hn : n ≤ 8) (hp : p < n) : m_Shelf_has (nI n) (nI p) = some 1 := by
  rw [has_s hn, if_pos ⟨nI_pos' (by omega), (nI_ltI (by omega) (by omega)).mpr hp⟩]
theorem setAt_s {n p : Nat} {sets : Nat → Int32} (hn : n ≤ 8) (hp : p < n) : m_Shelf_setAt (nI n) sets (nI p) = some (sets p) := by
  unfold m_Shelf_setAt
  rw [has_t hn hp, bd1_s, if_neg (by decide), ck_s (by omega) (by omega), cl_s (by omega)]
/-- how many places below p have a set that is not 0 -/
def cz (s : Nat → Nat) (p : Nat) : Nat := fb_ct (fun i => decide (s i ≠ 0)) p
theorem cz_lt {s : Nat → Nat} {p q : Nat} (h : p < q) (h0 : s p ≠ 0) : cz s p < cz s q := by
  have : cz s (p + 1) ≤ cz s q := fb_ct_mono _ h
  unfold cz at *
  rw [fb_ct_succ, if_pos (decide_eq_true h0)] at this
  omega
theorem stops_s {n fu : Nat} {s : Nat → Nat} {sets stopSets : Nat → Int32} {stops : Int32} (hn : n ≤ 8) (hs : ∀ p, p < n → s p < 4096 ∧ sets p = nI (s p)) (hfu : 20 < fu) : ∃ st, m_Round_listStops fu (nI n) sets stopSets stops = some (st, nI (cz s n)) ∧ ∀ p, p < n → s p ≠ 0 → st (cz s p) = nI (s p) := by
  unfold m_Round_listStops
  rw [lt_eq, lt_eq]
  obtain ⟨⟨st, c⟩, n', ⟨hc, hst⟩, e⟩ := up_go (F := fun k p (c : (Nat → Int32) × Int32) => m_Round_listStops_L7 (nI n) sets k (nI p) c.1 c.2) n (fun p c => c.2 = nI (cz s p) ∧ ∀ q, q < p → s q ≠ 0 → c.1 (cz s q) = nI (s q))
    (by
      rintro k p ⟨st, c⟩ hp ⟨hc, hst⟩
      obtain rfl : c = nI (cz s p) := hc
      have hst : ∀ q, q < p → s q ≠ 0 → st (cz s q) = nI (s q) := hst
      obtain ⟨h1, h2⟩ := hs p hp
      have hcz : cz s p ≤ p := fb_ct_le _ _
      have es : cz s (p + 1) = cz s p + if s p = 0 then 0 else 1 := by
        unfold cz
        rw [fb_ct_succ]
        by_cases z : s p = 0 <;> simp [z]
      by_cases z : s p = 0
      · refine ⟨(st, nI (cz s (p + 1))), ⟨rfl, fun q hq q0 => ?_⟩, ?_⟩
        · by_cases y : q = p
          · subst y; exact absurd z q0
          · exact hst q (by omega) q0
        · show m_Round_listStops_L7 (nI n) sets (k + 1) (nI p) st (nI (cz s p)) = _
          rw [m_Round_listStops_L7, ile (by omega) (by omega), if_neg (by omega), show (8 : Int32) = nI 8 from rfl, ile (by omega) (by omega), if_neg (by omega), setAt_s hn hp, bd1_s, h2, z, if_pos (show nI 0 = 0 from rfl), bd2_s, lt_eq, nI_1, es, if_pos z]
          rfl
      · refine ⟨(upd st (cz s p) (nI (s p)), nI (cz s (p + 1))), ⟨rfl, fun q hq q0 => ?_⟩, ?_⟩
        · show upd st (cz s p) (nI (s p)) (cz s q) = _
          by_cases y : q = p
          · subst y; exact pk_us
          · have := cz_lt (show q < p by omega) q0
            rw [pk_un (by omega)]; exact hst q (by omega) q0
        · show m_Round_listStops_L7 (nI n) sets (k + 1) (nI p) st (nI (cz s p)) = _
          rw [m_Round_listStops_L7, ile (by omega) (by omega), if_neg (by omega), show (8 : Int32) = nI 8 from rfl, ile (by omega) (by omega), if_neg (by omega), setAt_s hn hp, bd1_s, bd1_s, h2, if_neg (nI_ne0 (by omega) (by omega)), ck_s (by omega) (by omega), lt_eq, lt_eq, bd2_s, lt_eq, nI_1, nI_1, cl_s (by omega), es, if_neg z])
    n fu 0 (stopSets, 0) (by omega) (by omega) ⟨rfl, fun q hq => absurd hq (Nat.not_lt_zero q)⟩
  have e : m_Round_listStops_L7 (nI n) sets fu 0 stopSets 0 = m_Round_listStops_L7 (nI n) sets (n' + 1) (nI n) st c := e
  obtain rfl : c = nI (cz s n) := hc
  refine ⟨st, ?_, hst⟩
  rw [e, m_Round_listStops_L7, ile (by omega) (by omega), if_pos (by omega), bd2_s]
/-- the places of the stops -/
def isKa (s : Nat → Nat) (n : Nat) (κ : Nat → Nat) : Prop := ∀ i, i < cz s n → κ i < n ∧ s (κ i) ≠ 0 ∧ cz s (κ i) = i
theorem ka_ex (s : Nat → Nat) (n : Nat) : ∃ κ, isKa s n κ := by
  have h : ∀ i, i < cz s n → ∃ p, p < n ∧ s p ≠ 0 ∧ cz s p = i := fun i hi => by
    obtain ⟨p, h1, h2, h3⟩ := fb_ct_kth hi
    exact ⟨p, h1, of_decide_eq_true h2, h3⟩
  refine ⟨fun i => if hi : i < cz s n then Classical.choose (h i hi) else 0, fun i hi => ?_⟩
  dsimp only
  rw [dif_pos hi]
  exact Classical.choose_spec (h i hi)
theorem measure8 {M n t fu : Nat} {st : Nat → Int32} {s κ : Nat → Nat} {D : Nat → Nat → Nat} (hM : inM M) (ht : t ≤ 8) (hst : ∀ i, i < t → st i = nI (s (κ i)) ∧ κ i < n ∧ s (κ i) ≠ 0) (hs : ∀ p, p < n → s p < 2 ^ M) (hD2 : ∀ p q, D p q = D q p) (hD : ∀ p q, p < n → q < n → s p ≠ 0 → s q ≠ 0 → wayN M (s p) (s q) (D p q)) (hfu : 20 < fu) (cf ex p gp TB : Nat → Int32) (g1 : Int32) (rp TA : Nat → Int32) (g2 re : Int32) (sl le : Nat → Int32) : ∃ cf' ex' p' gp' TB' g1' rp' TA' g2' re' sl' le', m_Round_measure fu cf ex p gp TB g1 rp TA g2 re sl le st (nI t) (nI M) = some (cf', ex', p', gp', TB', g1', rp', TA', g2', re', sl', le') ∧ ∀ i j, i < t → j < t → i ≠ j → le' (i * 8 + j) = nI (D (κ i) (κ j)) := by
  -- the inner loop
  have inner : ∀ i, i < t → ∀ (d j k : Nat) (cf ex p gp TB : Nat → Int32) (g1 : Int32) (rp TA : Nat → Int32) (g2 re : Int32) (sl le : Nat → Int32), j + d = t → d < k → i < j → (∀ a b, a < i → b < t → a ≠ b → (le (a * 8 + b) = nI (D (κ a) (κ b)) ∧ le (b * 8 + a) = nI (D (κ b) (κ a)))) → (∀ b, i < b → b < j → le (i * 8 + b) = nI (D (κ i) (κ b)) ∧ le (b * 8 + i) = nI (D (κ b) (κ i))) → ∃ cf' ex' p' gp' TB' g1' rp' TA' g2' re' sl' le', m_Round_measure_L15 fu (nI t) (nI i) st (nI M) k (nI j) cf ex p gp TB g1 rp TA g2 re sl le = some (cf', ex', p', gp', TB', g1', rp', TA', g2', re', sl', le') ∧ ∀ a b, a < i + 1 → b < t → a ≠ b → (le' (a * 8 + b) = nI (D (κ a) (κ b)) ∧ le' (b * 8 + a) = nI (D (κ b) (κ a))) := by
    intro i hi d
    induction d with
    | zero =>
      intro j k cf ex p gp TB g1 rp TA g2 re sl le ej hk hij h1 h2
      obtain ⟨k, rfl⟩ : ∃ z, k = z + 1 := ⟨k - 1, by omega⟩
      refine ⟨cf, ex, p, gp, TB, g1, rp, TA, g2, re, sl, le, ?_, ?_⟩
      · rw [m_Round_measure_L15, ile (by omega) (by omega), if_pos (by omega)]
      · intro a b ha hb hne
        by_cases z : a = i
        · subst z
          rcases Nat.lt_or_ge b a with y | y
          · have := h1 b a y (by omega) (by omega)
            exact ⟨this.2, this.1⟩
          · exact h2 b (by omega) (by omega)
        · exact h1 a b (by omega) hb hne
    | succ d ih =>
      intro j k cf ex p gp TB g1 rp TA g2 re sl le ej hk hij h1 h2
      obtain ⟨k, rfl⟩ : ∃ z, k = z + 1 := ⟨k - 1, by omega⟩
      obtain ⟨si1, si2, si3⟩ := hst i hi
      obtain ⟨sj1, sj2, sj3⟩ := hst j (by omega)
      obtain ⟨v, hv, hv2, cf', ex', p', gp', TB', g1', rp', TA', g2', re', sl', el⟩ := least_s (fu := fu) (cf := cf) (ex := ex) (p := p) (gp := gp) (TB := TB) (goals := g1) (rp := rp) (TA := TA) (goers := g2) (reached := re) (sl := sl) hM (hs _ si2) (hs _ sj2) si3 sj3 hfu
      obtain rfl : v = D (κ i) (κ j) := wayN_one hv (hD _ _ si2 sj2 si3 sj3)
      obtain ⟨cf2, ex2, p2, gp2, TB2, g12, rp2, TA2, g22, re2, sl2, le2, e2, q2⟩ := ih (j + 1) k cf' ex' p' gp' TB' g1' rp' TA' g2' re' sl' (upd (upd le (i * 8 + j) (nI (D (κ i) (κ j)))) (j * 8 + i) (nI (D (κ i) (κ j)))) (by omega) (by omega) (by omega) (fun a b ha hb hne => by
          have n1 : ¬ a * 8 + b = i * 8 + j := fun h => by have := idx8 (a := a) (b := b) (c := i) (d := j) (by omega) (by omega) (by omega); omega
          have n2 : ¬ a * 8 + b = j * 8 + i := fun h => by have := idx8 (a := a) (b := b) (c := j) (d := i) (by omega) (by omega) (by omega); omega
          have n3 : ¬ b * 8 + a = i * 8 + j := fun h => by have := idx8 (a := b) (b := a) (c := i) (d := j) (by omega) (by omega) (by omega); omega
          have n4 : ¬ b * 8 + a = j * 8 + i := fun h => by have := idx8 (a := b) (b := a) (c := j) (d := i) (by omega) (by omega) (by omega); omega
          rw [pk_un n2, pk_un n1, pk_un n4, pk_un n3]
          exact h1 a b ha hb hne) (fun b hb1 hb2 => by
          have m1 : ¬ i * 8 + j = j * 8 + i := fun h => by have := idx8 (a := i) (b := j) (c := j) (d := i) (by omega) (by omega) (by omega); omega
          by_cases y : b = j
          · subst y
            rw [pk_un m1, pk_us, pk_us, hD2 (κ b)]
            exact ⟨rfl, rfl⟩
          · have n1 : ¬ i * 8 + b = i * 8 + j := by omega
            have n2 : ¬ i * 8 + b = j * 8 + i := fun h => by have := idx8 (a := i) (b := b) (c := j) (d := i) (by omega) (by omega) (by omega); omega
            have n3 : ¬ b * 8 + i = i * 8 + j := fun h => by have := idx8 (a := b) (b := i) (c := i) (d := j) (by omega) (by omega) (by omega); omega
            have n4 : ¬ b * 8 + i = j * 8 + i := by omega
            rw [pk_un n2, pk_un n1, pk_un n4, pk_un n3]
            exact h2 b hb1 (by omega))
      refine ⟨cf2, ex2, p2, gp2, TB2, g12, rp2, TA2, g22, re2, sl2, le2, ?_, q2⟩
      rw [m_Round_measure_L15, ile (by omega) (by omega), if_neg (by omega), ck_s (by omega) (by omega), ck_s (by omega) (by omega), cl_s (by omega), cl_s (by omega), si1, sj1, el, bd12_s, lt_eq, show (8 : Int32) = nI 8 from rfl, pk_mul, nI_add, ck_s (by omega) (by omega), cl_s (by omega), lt_eq, pk_mul, nI_add, ck_s (by omega) (by omega), cl_s (by omega), lt_eq, lt_eq, nI_1]
      exact e2
  -- the outer loop
  have outer : ∀ (d i k : Nat) (cf ex p gp TB : Nat → Int32) (g1 : Int32) (rp TA : Nat → Int32) (g2 re : Int32) (sl le : Nat → Int32), i + d = t → d < k → (∀ a b, a < i → b < t → a ≠ b → (le (a * 8 + b) = nI (D (κ a) (κ b)) ∧ le (b * 8 + a) = nI (D (κ b) (κ a)))) → ∃ cf' ex' p' gp' TB' g1' rp' TA' g2' re' sl' le', m_Round_measure_L2 fu (nI t) st (nI M) k (nI i) cf ex p gp TB g1 rp TA g2 re sl le = some (cf', ex', p', gp', TB', g1', rp', TA', g2', re', sl', le') ∧ ∀ a b, a < t → b < t → a ≠ b → le' (a * 8 + b) = nI (D (κ a) (κ b)) := by
    intro d
    induction d with
    | zero =>
      intro i k cf ex p gp TB g1 rp TA g2 re sl le ei hk h1
      obtain ⟨k, rfl⟩ : ∃ z, k = z + 1 := ⟨k - 1, by omega⟩
      refine ⟨cf, ex, p, gp, TB, g1, rp, TA, g2, re, sl, le, ?_, fun a b ha hb hne => (h1 a b (by omega) hb hne).1⟩
      rw [m_Round_measure_L2, ile (by omega) (by omega), if_pos (by omega)]
    | succ d ih =>
      intro i k cf ex p gp TB g1 rp TA g2 re sl le ei hk h1
      obtain ⟨k, rfl⟩ : ∃ z, k = z + 1 := ⟨k - 1, by omega⟩
      obtain ⟨cf1, ex1, p1, gp1, TB1, g11, rp1, TA1, g21, re1, sl1, le1, e1, q1⟩ := inner i (by omega) (t - (i + 1)) (i + 1) fu cf ex p gp TB g1 rp TA g2 re sl le (by omega) (by omega) (by omega) h1 (fun b a b' => absurd b' (by omega))
      obtain ⟨cf2, ex2, p2, gp2, TB2, g12, rp2, TA2, g22, re2, sl2, le2, e2, q2⟩ := ih (i + 1) k cf1 ex1 p1 gp1 TB1 g11 rp1 TA1 g21 re1 sl1 le1 (by omega) (by omega) q1
      refine ⟨cf2, ex2, p2, gp2, TB2, g12, rp2, TA2, g22, re2, sl2, le2, ?_, q2⟩
      rw [m_Round_measure_L2, ile (by omega) (by omega), if_neg (by omega), nI_1, lt_eq, e1, bd12_s, lt_eq]
      exact e2
  obtain ⟨cf2, ex2, p2, gp2, TB2, g12, rp2, TA2, g22, re2, sl2, le2, e2, q2⟩ := outer t 0 fu cf ex p gp TB g1 rp TA g2 re sl le (by omega) (by omega) (fun a b h => absurd h (Nat.not_lt_zero a))
  refine ⟨cf2, ex2, p2, gp2, TB2, g12, rp2, TA2, g22, re2, sl2, le2, ?_, q2⟩
  have e2 : m_Round_measure_L2 fu (nI t) st (nI M) fu 0 cf ex p gp TB g1 rp TA g2 re sl le = _ := e2
  unfold m_Round_measure
  rw [lt_eq, e2, bd12_s]
