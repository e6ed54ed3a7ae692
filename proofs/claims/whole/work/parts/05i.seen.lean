/-! the class: bits for sets, the sieve of forms -/
theorem fill_s {n fu : Nat} (f : Nat → Int32) (v : Int32) (hn : n < 2147483648) (hfu : n < fu) : m_Ja_fill fu n f v = some (fa_fill (fun _ => v) f n) := by
  unfold m_Ja_fill
  rw [lt_eq, lt_eq]
  obtain ⟨g, n', hc, e⟩ := up_go (F := fun k i (g : Nat → Int32) => m_Ja_fill_L5 (nI n) n v k (nI i) g) n (fun i g => g = fa_fill (fun _ => v) f i)
    (by
      rintro k i g hi rfl
      refine ⟨_, rfl, ?_⟩
      show m_Ja_fill_L5 (nI n) n v (k + 1) (nI i) _ = _
      rw [m_Ja_fill_L5, ile (by omega) (by omega), if_neg (by omega), ck_s hi hn, lt_eq, lt_eq, cl_s (by omega), nI_1, ← fa_fill_succ])
    n fu 0 f (by omega) (by omega) (fa_fill_0 _ _).symm
  have e : m_Ja_fill_L5 (nI n) n v fu 0 f = m_Ja_fill_L5 (nI n) n v (n' + 1) (nI n) g := e
  rw [e, m_Ja_fill_L5, ile (by omega) (by omega), if_pos (by omega), bd1_s, hc]
def sB (b : Nat → Int32) (x : Nat) : Bool := bt (b (x / 32)) (x % 32)
theorem bt_1 {l i : Nat} (hl : l < 32) (hi : i < 32) : bt ((1 : Int32) <<< (nI l &&& 31)) i = decide (l = i) := by
  unfold bt
  rw [nf_sh l hl, BitVec.getLsbD_twoPow]
  simp only [hl, decide_true, Bool.true_and]
theorem and1_s {y : Int32} {l : Nat} (hl : l < 32) : y &&& ((1 : Int32) <<< (nI l &&& 31)) = 0 ↔ bt y l = false := by
  constructor
  · intro e
    have := congrArg (fun z => bt z l) e
    simp only [b_and, bt_1 hl hl, b_0, decide_true, Bool.and_true] at this
    exact this
  · intro e
    refine b_ext (fun i hi => ?_)
    rw [b_and, bt_1 hl hi, b_0]
    by_cases c : l = i
    · subst c; rw [e]; rfl
    · simp [c]
theorem mod32 {x : Nat} (hx : x < 4096) : nI x &&& 31 = nI (x % 32) := pk_andN (by omega) 5 (by decide)
theorem seen_has_s {b : Nat → Int32} {x : Nat} (hx : x < 4096) : m_Seen_has b (nI x) = some (if sB b x = true then 1 else 0) := by
  unfold m_Seen_has
  rw [lt_eq, show (5 : Int32) = nI 5 from rfl, shr_s (by omega) (by omega), if_neg (nI_pos (by omega)), ile (by omega) (by omega), if_neg (by omega), ck_s (by omega) (by omega), cl_s (by omega), mod32 hx]
  have h := and1_s (y := b (x / 2 ^ 5)) (l := x % 32) (by omega)
  unfold sB
  by_cases c : bt (b (x / 32)) (x % 32) = true
  · rw [if_neg (fun q => by
      have := h.mp q
      rw [show x / 2 ^ 5 = x / 32 from rfl, c] at this
      cases this), if_pos c]
  · rw [if_pos (h.mpr (Bool.eq_false_iff.mpr c)), if_neg c]
theorem seen_add_s {b : Nat → Int32} {x : Nat} (hx : x < 4096) : ∃ b', m_Seen_add b (nI x) = some b' ∧ ∀ y, y < 4096 → sB b' y = (sB b y || decide (y = x)) := by
  refine ⟨upd b (x / 32) (b (x / 32) ||| ((1 : Int32) <<< (nI (x % 32) &&& 31))), ?_, ?_⟩
  · unfold m_Seen_add
    rw [lt_eq, show (5 : Int32) = nI 5 from rfl, shr_s (by omega) (by omega), if_neg (nI_pos (by omega)), ile (by omega) (by omega), if_neg (by omega), ck_s (by omega) (by omega), ck_s (by omega) (by omega), cl_s (by omega), mod32 hx, lt_eq]
  · intro y hy
    unfold sB
    by_cases c : y / 32 = x / 32
    · rw [c, pk_us, b_or, bt_1 (by omega) (by omega)]
      congr 1
      rw [decide_eq_decide]
      omega
    · rw [pk_un c]
      have : ¬ y = x := fun e => c (by rw [e])
      simp [this]
theorem addImages_s {b : Nat → Int32} {M s fu : Nat} (hM : inM M) (hs : s < 2 ^ M) (hfu : 30 < fu) : ∃ b', m_Forms_addImages fu b (nI s) (nI M) = some b' ∧ ∀ y, y < 4096 → (sB b' y = true ↔ sB b y = true ∨ ∃ k, k < 2 * M ∧ img M s k = y) := by
  have h5 := hM.1; have h12 := hM.2
  have hp := p2_le h12
  have hm := img_lt (M := M) (s := s) (k := M) (by omega)
  unfold m_Forms_addImages
  rw [mirrored_s hM hs (by omega), bd1_s, lt_eq, lt_eq]
  obtain ⟨g, n', hc, e⟩ := up_go (F := fun n i (g : Nat → Int32) => m_Forms_addImages_L9 (nI M) (nI s) (nI (img M s M)) n (nI i) g) M (fun i g => ∀ y, y < 4096 → (sB g y = true ↔ sB b y = true ∨ ∃ k, k < i ∧ (img M s k = y ∨ img M s (M + k) = y)))
    (by
      rintro n i g hi hI
      have h2 := img_lt (M := M) (s := s) (k := i) (by omega)
      have h3 := img_lt (M := M) (s := s) (k := M + i) (by omega)
      obtain ⟨g1, e1, q1⟩ := seen_add_s (b := g) (x := img M s i) (by omega)
      obtain ⟨g2, e2, q2⟩ := seen_add_s (b := g1) (x := img M s (M + i)) (by omega)
      refine ⟨g2, ?_, ?_⟩
      · intro y hy
        rw [q2 y hy, q1 y hy, Bool.or_eq_true, Bool.or_eq_true, hI y hy, decide_eq_true_eq, decide_eq_true_eq]
        constructor
        · rintro (((h | ⟨k, hk, h⟩) | rfl) | rfl)
          · exact Or.inl h
          · exact Or.inr ⟨k, by omega, h⟩
          · exact Or.inr ⟨i, by omega, Or.inl rfl⟩
          · exact Or.inr ⟨i, by omega, Or.inr rfl⟩
        · rintro (h | ⟨k, hk, h⟩)
          · exact Or.inl (Or.inl (Or.inl h))
          · rcases Nat.lt_or_ge k i with q | q
            · exact Or.inl (Or.inl (Or.inr ⟨k, q, h⟩))
            · obtain rfl : k = i := by omega
              rcases h with h | h
              · exact Or.inl (Or.inr h.symm)
              · exact Or.inr h.symm
      · show m_Forms_addImages_L9 (nI M) (nI s) (nI (img M s M)) (n + 1) (nI i) g = _
        rw [m_Forms_addImages_L9, ile (by omega) (by omega), if_neg (by omega), turned_s hM hi hs, bd1_s, e1, bd1_s, turned_s hM hi hm, bd1_s, img_mir hM hi, e2, bd1_s, lt_eq, nI_1])
    M fu 0 b (by omega) (by omega) (fun y hy => ⟨fun h => Or.inl h, fun h => h.elim id (fun ⟨k, hk, _⟩ => absurd hk (Nat.not_lt_zero k))⟩)
  have e : m_Forms_addImages_L9 (nI M) (nI s) (nI (img M s M)) fu 0 b = m_Forms_addImages_L9 (nI M) (nI s) (nI (img M s M)) (n' + 1) (nI M) g := e
  refine ⟨g, ?_, ?_⟩
  · rw [e, m_Forms_addImages_L9, ile (by omega) (by omega), if_pos (by omega), bd1_s]
  · intro y hy
    rw [hc y hy]
    constructor
    · rintro (h | ⟨k, hk, h | h⟩)
      · exact Or.inl h
      · exact Or.inr ⟨k, by omega, h⟩
      · exact Or.inr ⟨M + k, by omega, h⟩
    · rintro (h | ⟨k, hk, h⟩)
      · exact Or.inl h
      · rcases Nat.lt_or_ge k M with q | q
        · exact Or.inr ⟨k, q, Or.inl h⟩
        · exact Or.inr ⟨k - M, by omega, Or.inr (by rw [show M + (k - M) = k by omega]; exact h)⟩
theorem clear_s {b : Nat → Int32} {fu : Nat} (hfu : 200 < fu) : ∃ b', m_Seen_clear fu b = some b' ∧ ∀ y, y < 4096 → sB b' y = false := by
  refine ⟨fa_fill (fun _ => 0) b 128, ?_, ?_⟩
  · unfold m_Seen_clear
    rw [fill_s b 0 (by omega) (by omega), bd1_s]
  · intro y hy
    unfold sB
    rw [fa_fill_in (by omega), b_0]
/-- a set is met by the sieve just if it is no form -/
theorem sieve {M x : Nat} (hM : inM M) (hx : x < 2 ^ M) : (∃ f, f < x ∧ isF M f = true ∧ ∃ k, k < 2 * M ∧ img M f k = x) ↔ isF M x = false := by
  constructor
  · rintro ⟨f, hf, hF, k, hk, e⟩
    rw [Bool.eq_false_iff]
    intro hX
    have h1 : form M f = f := of_decide_eq_true hF
    have h2 : form M x = x := of_decide_eq_true hX
    have h3 := form_img hM (show f < 2 ^ M by omega) hk
    rw [e, h1, h2] at h3
    omega
  · intro h
    have hl := form_le (M := M) (s := x) (k := 0) (by have := hM.1; omega)
    rw [img_0 hM hx] at hl
    have hne : ¬ form M x = x := fun e => by rw [isF, decide_eq_true e] at h; cases h
    have hflt := form_lt hM hx
    refine ⟨form M x, by omega, decide_eq_true (form_form hM hx), form_eq hM hflt hx (form_form hM hx)⟩
theorem rising_s {M fu : Nat} {all : Int32} {rising bits : Nat → Int32} (hM : inM M) (hfu : 5000 < fu) : ∃ rising' bits', m_Forms_findRising fu all rising bits (nI M) = some (nI (nfT M), rising', bits') ∧ FA rising' M (2 ^ M) := by
  have h5 := hM.1; have h12 := hM.2
  have hp := p2_le h12
  have hp1 := Nat.two_pow_pos M
  have hT := nfT_le hM
  obtain ⟨b0, e0, hb0⟩ := clear_s (b := bits) (fu := fu) (by omega)
  unfold m_Forms_findRising
  rw [e0, bd1_s, lt_eq, lt_eq]
  obtain ⟨⟨c', A, g⟩, n', ⟨hc, hA, -⟩, e⟩ := up_go (F := fun n i (c : Int32 × (Nat → Int32) × (Nat → Int32)) => m_Forms_findRising_L14 fu (nI M) n (nI i) c.1 c.2.1 c.2.2) (2 ^ M) (fun i c => c.1 = nI (nf M i) ∧ FA c.2.1 M i ∧ ∀ y, y < 4096 → (sB c.2.2 y = true ↔ ∃ f, f < i ∧ isF M f = true ∧ ∃ k, k < 2 * M ∧ img M f k = y))
    (by
      rintro n i ⟨c, A, g⟩ hi ⟨rfl, hA, hg⟩
      have hg : ∀ y, y < 4096 → (sB g y = true ↔ ∃ f, f < i ∧ isF M f = true ∧ ∃ k, k < 2 * M ∧ img M f k = y) := hg
      have hA : FA A M i := hA
      have es : nf M (i + 1) = nf M i + if isF M i = true then 1 else 0 := fb_ct_succ _ _
      have hn : nf M i ≤ nfT M := nf_mono (by omega)
      by_cases q : isF M i = true
      · have hs : sB g i = false := by
          rw [Bool.eq_false_iff, ne_eq, hg i (by omega), sieve hM hi, q]; decide
        obtain ⟨g', e1, q1⟩ := addImages_s (b := g) hM hi (show 30 < fu by omega)
        have hlt := nf_lt hi q
        refine ⟨(nI (nf M (i + 1)), upd A (nf M i) (nI i), g'), ⟨rfl, FA_up hA q, ?_⟩, ?_⟩
        · intro y hy
          show sB g' y = true ↔ _
          rw [q1 y hy, hg y hy]
          constructor
          · rintro (⟨f, hf, h⟩ | h)
            · exact ⟨f, by omega, h⟩
            · exact ⟨i, by omega, q, h⟩
          · rintro ⟨f, hf, h1, h2⟩
            rcases Nat.lt_or_ge f i with z | z
            · exact Or.inl ⟨f, z, h1, h2⟩
            · obtain rfl : f = i := by omega
              exact Or.inr h2
        · show m_Forms_findRising_L14 fu (nI M) (n + 1) (nI i) (nI (nf M i)) A g = _
          rw [m_Forms_findRising_L14, all_s h12, bd1_s, ilt (by omega) (by omega), if_neg (by omega), seen_has_s (by omega), bd1_s, hs, if_pos (show (if false = true then (1 : Int32) else 0) = 0 from rfl), show (224 : Int32) = nI 224 from rfl, ile (by omega) (by omega), if_neg (by omega), ck_s (by omega) (by omega), lt_eq, lt_eq, e1, bd1_s, bd3_s, lt_eq, cl_s (by omega), nI_1, nI_1, es, if_pos q]
      · have hq : isF M i = false := Bool.eq_false_iff.mpr q
        have hs : sB g i = true := by rw [hg i (by omega), sieve hM hi, hq]
        refine ⟨(nI (nf M (i + 1)), A, g), ⟨rfl, ?_, ?_⟩, ?_⟩
        · intro f hf hF
          by_cases z : f = i
          · subst z; exact absurd hF q
          · exact hA f (by omega) hF
        · intro y hy
          show sB g y = true ↔ _
          rw [hg y hy]
          constructor
          · rintro ⟨f, hf, h⟩
            exact ⟨f, by omega, h⟩
          · rintro ⟨f, hf, h1, h2⟩
            rcases Nat.lt_or_ge f i with z | z
            · exact ⟨f, z, h1, h2⟩
            · obtain rfl : f = i := by omega
              exact absurd h1 q
        · show m_Forms_findRising_L14 fu (nI M) (n + 1) (nI i) (nI (nf M i)) A g = _
          rw [m_Forms_findRising_L14, all_s h12, bd1_s, ilt (by omega) (by omega), if_neg (by omega), seen_has_s (by omega), bd1_s, hs, if_neg (show ¬ (if true = true then (1 : Int32) else 0) = 0 by decide), bd3_s, lt_eq, nI_1, es, if_neg q]
          rfl)
    (2 ^ M) fu 0 (0, rising, b0) (by omega) (by omega) ⟨rfl, fun f hf => absurd hf (Nat.not_lt_zero f), fun y hy => by
      show sB b0 y = true ↔ _
      rw [hb0 y hy]
      exact ⟨fun h => (by cases h), fun ⟨f, hf, _⟩ => absurd hf (Nat.not_lt_zero f)⟩⟩
  have e : m_Forms_findRising_L14 fu (nI M) fu 0 0 rising b0 = m_Forms_findRising_L14 fu (nI M) (n' + 1) (nI (2 ^ M)) c' A g := e
  refine ⟨A, g, ?_, hA⟩
  rw [e, m_Forms_findRising_L14, all_s h12, bd1_s, ilt (by omega) (by omega), if_pos (by omega), bd3_s]
  obtain rfl : c' = nI (nf M (2 ^ M)) := hc
  rfl
