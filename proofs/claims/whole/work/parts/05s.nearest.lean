/-! the nearest image -/
def nsL (f : Nat → Nat) : Nat → Nat
  | 0 => 1000000
  | k + 1 => if f k < nsL f k then f k else nsL f k
def nsN (f : Nat → Nat) : Nat → Nat
  | 0 => 0
  | k + 1 => if f k < nsL f k then k else nsN f k
theorem ns_0 {f : Nat → Nat} {k : Nat} (h : nsL f k = 0) : ∀ d, nsL f (k + d) = 0 ∧ nsN f (k + d) = nsN f k
  | 0 => ⟨h, rfl⟩
  | d + 1 => by
    obtain ⟨h1, h2⟩ := ns_0 h d
    rw [← Nat.add_assoc, nsL, nsN, h1, if_neg (by omega), if_neg (by omega)]
    exact ⟨rfl, h2⟩
theorem ns_bd {f : Nat → Nat} : ∀ k, nsL f k ≤ 1000000 ∧ nsN f k ≤ k
  | 0 => ⟨Nat.le_refl _, Nat.le_refl _⟩
  | k + 1 => by
    obtain ⟨h1, h2⟩ := ns_bd (f := f) k
    rw [nsL, nsN]
    by_cases c : f k < nsL f k
    · rw [if_pos c, if_pos c]; omega
    · rw [if_neg c, if_neg c]; omega
theorem ns_at {f : Nat → Nat} (h : ∀ k, f k ≤ 72) : ∀ k, 0 < k → nsN f k < k ∧ f (nsN f k) = nsL f k
  | 0, h0 => absurd h0 (Nat.lt_irrefl 0)
  | k + 1, _ => by
    rw [nsL, nsN]
    by_cases c : f k < nsL f k
    · rw [if_pos c, if_pos c]
      exact ⟨by omega, rfl⟩
    · rw [if_neg c, if_neg c]
      rcases Nat.eq_zero_or_pos k with z | z
      · subst z
        have := h 0
        have e : nsL f 0 = 1000000 := rfl
        omega
      · obtain ⟨h1, h2⟩ := ns_at h k z
        exact ⟨by omega, h2⟩
theorem img_ne {M s k : Nat} (hM : inM M) (hs : s < 2 ^ M) (h0 : s ≠ 0) (hk : k < 2 * M) : img M s k ≠ 0 := by
  intro e
  have h1 := pop_img (s := s) hM hk
  have h2 := pop_pos hs h0
  have h3 : pop M 0 = 0 := fb_ct_zero.mpr (fun k _ => Nat.zero_testBit k)
  rw [e, h3] at h1
  omega
/-- the ways to the images -/
theorem wayF {M a b : Nat} (hM : inM M) (ha : a < 2 ^ M) (hb : b < 2 ^ M) (ha0 : a ≠ 0) (hb0 : b ≠ 0) : ∃ f : Nat → Nat, (∀ k, f k ≤ 72) ∧ ∀ k, k < 2 * M → wayN M a (img M b k) (f k) := by
  have h : ∀ k, k < 2 * M → ∃ v, wayN M a (img M b k) v ∧ v ≤ 72 := fun k hk => by
    obtain ⟨v, h1, h2, -⟩ := least_s (fu := 21) (cf := fun _ => 0) (ex := fun _ => 0) (p := fun _ => 0) (gp := fun _ => 0) (TB := fun _ => 0) (rp := fun _ => 0) (TA := fun _ => 0) (sl := fun _ => 0) (goals := 0) (goers := 0) (reached := 0) hM ha (img_lt (s := b) (k := k) (by have := hM.1; omega)) ha0 (img_ne hM hb hb0 hk) (by omega)
    exact ⟨v, h1, h2⟩
  refine ⟨fun k => if hk : k < 2 * M then Classical.choose (h k hk) else 0, fun k => ?_, fun k hk => ?_⟩
  · dsimp only
    by_cases c : k < 2 * M
    · rw [dif_pos c]; exact (Classical.choose_spec (h k c)).2
    · rw [dif_neg c]; omega
  · dsimp only
    rw [dif_pos hk]
    exact (Classical.choose_spec (h k hk)).1
theorem near21 {M a b fu : Nat} {f : Nat → Nat} (hM : inM M) (ha : a < 2 ^ M) (hb : b < 2 ^ M) (ha0 : a ≠ 0) (hb0 : b ≠ 0) (hfu : 20 < fu) (hf : ∀ k, f k ≤ 72) (hw : ∀ k, k < 2 * M → wayN M a (img M b k) (f k)) :
    ∀ (d k n : Nat) (cf ex p gp TB : Nat → Int32) (g1 : Int32) (rp TA : Nat → Int32) (g2 re : Int32) (sl : Nat → Int32), k + d = 2 * M → d < n → ∃ cf' ex' p' gp' TB' g1' rp' TA' g2' re' sl', m_Ways_findNearestImage_L21 fu (nI M) (nI (img M b M)) (nI b) (nI a) n (nI k) cf ex p gp TB g1 rp TA g2 (nI (nsL f k)) (nI (nsN f k)) re sl = some (cf', ex', p', gp', TB', g1', rp', TA', g2', nI (nsL f (2 * M)), nI (nsN f (2 * M)), re', sl')
  | 0, k, n, cf, ex, p, gp, TB, g1, rp, TA, g2, re, sl, e, hn => by
    obtain ⟨n, rfl⟩ : ∃ z, n = z + 1 := ⟨n - 1, by omega⟩
    have h5 := hM.1; have h12 := hM.2
    obtain rfl : k = 2 * M := by omega
    refine ⟨cf, ex, p, gp, TB, g1, rp, TA, g2, re, sl, ?_⟩
    rw [m_Ways_findNearestImage_L21, show (2 : Int32) = nI 2 from rfl, pk_mul, ile (by omega) (by omega), if_pos (by omega)]
  | d + 1, k, n, cf, ex, p, gp, TB, g1, rp, TA, g2, re, sl, e, hn => by
    obtain ⟨n, rfl⟩ : ∃ z, n = z + 1 := ⟨n - 1, by omega⟩
    have h5 := hM.1; have h12 := hM.2
    have hp := p2_le h12
    obtain ⟨b1, b2⟩ := ns_bd (f := f) k
    have hm := img_lt (M := M) (s := b) (k := M) (by omega)
    by_cases c : nsL f k = 0
    · obtain ⟨q1, q2⟩ := ns_0 c (d + 1)
      rw [e] at q1 q2
      refine ⟨cf, ex, p, gp, TB, g1, rp, TA, g2, re, sl, ?_⟩
      rw [m_Ways_findNearestImage_L21, show (2 : Int32) = nI 2 from rfl, pk_mul, ile (by omega) (by omega), if_neg (by omega), c, if_pos (show nI 0 ≤ 0 by decide), q1, q2]
    · have hik := img_lt (M := M) (s := b) (k := k) (by omega)
      obtain ⟨v, hv, hv2, cf', ex', p', gp', TB', g1', rp', TA', g2', re', sl', el⟩ := least_s (fu := fu) (cf := cf) (ex := ex) (p := p) (gp := gp) (TB := TB) (goals := g1) (rp := rp) (TA := TA) (goers := g2) (reached := re) (sl := sl) hM ha hik ha0 (img_ne hM hb hb0 (by omega)) hfu
      obtain rfl : v = f k := wayN_one hv (hw k (by omega))
      have himg : ∀ K : Int32 → Option ((Nat → Int32) × (Nat → Int32) × (Nat → Int32) × (Nat → Int32) × (Nat → Int32) × Int32 × (Nat → Int32) × (Nat → Int32) × Int32 × Int32 × Int32 × Int32 × (Nat → Int32)), bd1 (if nI M ≤ nI k then bd1 (m_Ring_turned (nI (img M b M)) (nI k - nI M) (nI M)) (fun r_2 => some r_2) else bd1 (m_Ring_turned (nI b) (nI k) (nI M)) (fun r_3 => some r_3)) K = K (nI (img M b k)) := by
        intro K
        rw [ile (by omega) (by omega)]
        by_cases z : M ≤ k
        · rw [if_pos z, pk_sub z, turned_s hM (by omega) hm, img_mir hM (by omega), show M + (k - M) = k by omega, bd1_s, bd1_s]
        · rw [if_neg z, turned_s hM (by omega) hb, bd1_s, bd1_s]
      obtain ⟨cf2, ex2, p2, gp2, TB2, g12, rp2, TA2, g22, re2, sl2, e2⟩ := near21 hM ha hb ha0 hb0 hfu hf hw d (k + 1) n cf' ex' p' gp' TB' g1' rp' TA' g2' re' sl' (by omega) (by omega)
      refine ⟨cf2, ex2, p2, gp2, TB2, g12, rp2, TA2, g22, re2, sl2, ?_⟩
      rw [m_Ways_findNearestImage_L21, show (2 : Int32) = nI 2 from rfl, pk_mul, ile (by omega) (by omega), if_neg (by omega), if_neg (nI_nle (by omega) (by omega)), himg, lt_eq, el, bd12_s, lt_eq, ile (by omega) (by omega)]
      rw [nsL, nsN] at e2
      by_cases z : f k < nsL f k
      · rw [if_pos z, if_pos z] at e2
        rw [if_neg (by omega), lt_eq, lt_eq, bd2_s, lt_eq, nI_1]
        exact e2
      · rw [if_neg z, if_neg z] at e2
        rw [if_pos (by omega), bd2_s, lt_eq, nI_1]
        exact e2
theorem nearest_s {M a b fu : Nat} {f : Nat → Nat} (hM : inM M) (ha : a < 2 ^ M) (hb : b < 2 ^ M) (ha0 : a ≠ 0) (hb0 : b ≠ 0) (hfu : 30 < fu) (hf : ∀ k, f k ≤ 72) (hw : ∀ k, k < 2 * M → wayN M a (img M b k) (f k)) (cf ex p gp TB : Nat → Int32) (g1 : Int32) (rp TA : Nat → Int32) (g2 nl nn re : Int32) (sl : Nat → Int32) : ∃ cf' ex' p' gp' TB' g1' rp' TA' g2' re' sl', m_Ways_findNearestImage fu cf ex p gp TB g1 rp TA g2 nl nn re sl (nI a) (nI b) (nI M) = some (cf', ex', p', gp', TB', g1', rp', TA', g2', nI (nsL f (2 * M)), nI (nsN f (2 * M)), re', sl') := by
  have h5 := hM.1; have h12 := hM.2
  obtain ⟨cf2, ex2, p2, gp2, TB2, g12, rp2, TA2, g22, re2, sl2, e2⟩ := near21 hM ha hb ha0 hb0 (show 20 < fu by omega) hf hw (2 * M) 0 fu cf ex p gp TB g1 rp TA g2 re sl (by omega) (by omega)
  refine ⟨cf2, ex2, p2, gp2, TB2, g12, rp2, TA2, g22, re2, sl2, ?_⟩
  have e2 : m_Ways_findNearestImage_L21 fu (nI M) (nI (img M b M)) (nI b) (nI a) fu 0 cf ex p gp TB g1 rp TA g2 1000000 0 re sl = _ := e2
  unfold m_Ways_findNearestImage
  rw [mirrored_s hM hb (by omega), bd1_s, lt_eq, lt_eq, lt_eq, lt_eq, e2, bd13_s]
theorem md_nearest_s {w best next : Nat → Int32} {M a b fu : Nat} {f : Nat → Nat} (hM : inM M) (hw0 : w 0 = nI M) (ha : a < 2 ^ M) (hb : b < 2 ^ M) (hfu : 5000 < fu) (hf : ∀ k, f k ≤ 72) (hw : ∀ k, k < 2 * M → wayN M a (img M b k) (f k)) : ∃ best' next', m_Md_nearestOf fu best next w (nI a) (nI b) = some (nI (nsN f (2 * M)), best', next') := by
  have h5 := hM.1; have h12 := hM.2
  unfold m_Md_nearestOf
  rw [lt_eq, lt_eq, lt_eq]
  obtain ⟨⟨x, y, be, ne⟩, n', ⟨hx, hy⟩, e⟩ := up_go (F := fun n k (c : Int32 × Int32 × (Nat → Int32) × (Nat → Int32)) => m_Md_nearestOf_L9 fu w (nI b) (nI a) n c.1 c.2.1 (nI k) c.2.2.1 c.2.2.2) (2 * M) (fun k c => c.1 = nI (nsN f k) ∧ c.2.1 = nI (nsL f k))
    (by
      rintro n k ⟨x, y, be, ne⟩ hk ⟨rfl, hy⟩
      obtain rfl : y = nI (nsL f k) := hy
      have hik := img_lt (M := M) (s := b) (k := k) (by omega)
      obtain ⟨be', ne', ew⟩ := md_way_s (best := be) (next := ne) hM hw0 ha hik hfu (hw k hk)
      obtain ⟨b1, b2⟩ := ns_bd (f := f) k
      have hfk := hf k
      refine ⟨(nI (nsN f (k + 1)), nI (nsL f (k + 1)), be', ne'), ⟨rfl, rfl⟩, ?_⟩
      show m_Md_nearestOf_L9 fu w (nI b) (nI a) (n + 1) (nI (nsN f k)) (nI (nsL f k)) (nI k) be ne = _
      rw [m_Md_nearestOf_L9, md_m hw0, bd1_s, show (2 : Int32) = nI 2 from rfl, pk_mul, ile (by omega) (by omega), if_neg (by omega), md_image_s hM hw0 hb (by omega) hk, bd1_s, ew, bd3_s, lt_eq, ile (by omega) (by omega), ile (by omega) (by omega), nsL, nsN]
      by_cases z : f k < nsL f k
      · rw [if_neg (show ¬ nsL f k ≤ f k by omega), if_neg (show ¬ nsL f k ≤ f k by omega), if_pos z, if_pos z, bd1_s, lt_eq, bd1_s, lt_eq, lt_eq, nI_1]
      · rw [if_pos (show nsL f k ≤ f k by omega), if_pos (show nsL f k ≤ f k by omega), if_neg z, if_neg z, bd1_s, lt_eq, bd1_s, lt_eq, lt_eq, nI_1])
    (2 * M) fu 0 (0, 1000000, best, next) (by omega) (by omega) ⟨rfl, rfl⟩
  have e : m_Md_nearestOf_L9 fu w (nI b) (nI a) fu 0 1000000 0 best next = m_Md_nearestOf_L9 fu w (nI b) (nI a) (n' + 1) x y (nI (2 * M)) be ne := e
  obtain rfl : x = nI (nsN f (2 * M)) := hx
  refine ⟨be, ne, ?_⟩
  rw [e, m_Md_nearestOf_L9, md_m hw0, bd1_s, show (2 : Int32) = nI 2 from rfl, pk_mul, ile (by omega) (by omega), if_pos (by omega), bd3_s]
