/-! images and forms, in the class and in the reference -/
theorem md_m {w : Nat → Int32} {M : Nat} (hw : w 0 = nI M) : m_Md_m w = some (nI M) := by
  unfold m_Md_m
  rw [show (0 : Int32) = nI 0 from rfl, ck_s (by omega) (by omega), cl_s (by omega), hw]
theorem md_has {s k : Nat} (hs : s < 2147483648) (hk : k < 32) : m_Md_has (nI s) (nI k) = some (if s.testBit k then 1 else 0) := by
  unfold m_Md_has
  rw [bit_s hs hk]
  by_cases c : s.testBit k = true
  · rw [if_pos c, if_pos c, if_pos (show nI 1 = 1 from rfl)]
  · rw [if_neg c, if_neg c, if_neg (by decide)]
def mvx (k t m M : Int32) : Int32 := ((((k * t) + m) - ((k * t) + m) / M * M) + M) - ((((k * t) + m) - ((k * t) + m) / M * M) + M) / M * M
theorem md_moved_s {w : Nat → Int32} {M s fu : Nat} (hM : inM M) (hw : w 0 = nI M) (hs : s < 2 ^ M) (hfu : 20 < fu) (t m : Int32) (g : Nat → Nat) (hg : ∀ k, k < M → g k < M ∧ mvx (nI k) t m (nI M) = nI (g k)) : m_Md_moved fu w (nI s) t m = some (nI (acc g s M)) := by
  obtain ⟨h5, h12⟩ := hM
  have hp := p2_le h12
  unfold m_Md_moved
  rw [lt_eq, lt_eq]
  obtain ⟨c, n', hc, e⟩ := up_go (F := fun n i (c : Int32) => m_Md_moved_L6 w (nI s) t m n c (nI i)) M (fun i c => c = nI (acc g s i))
    (by
      rintro n i c hi rfl
      refine ⟨_, rfl, ?_⟩
      show m_Md_moved_L6 w (nI s) t m (n + 1) _ (nI i) = _
      obtain ⟨hg1, hg2⟩ := hg i hi
      unfold mvx at hg2
      rw [m_Md_moved_L6]
      simp only [md_m hw, bd1_s]
      rw [if_neg (by rw [le_s (by omega) (by omega)]; omega), md_has (by omega) (by omega), bd1_s]
      by_cases c : s.testBit i = true
      · rw [if_pos c, if_neg (by decide), dv_s (by omega) (by omega), dv_s (by omega) (by omega), hg2, p2_s (by omega), bd1_s, lt_eq, lt_eq, fa_or, nI_1, acc, if_pos c]
      · rw [if_neg c, if_pos rfl, bd1_s, lt_eq, lt_eq, show (0 : Int32) = nI 0 from rfl, fa_or, nI_1, acc, if_neg c])
    M fu 0 0 (by omega) (by omega) rfl
  have e : m_Md_moved_L6 w (nI s) t m fu 0 0 = m_Md_moved_L6 w (nI s) t m (n' + 1) c (nI M) := e
  rw [e, m_Md_moved_L6, md_m hw, bd1_s, if_pos (by rw [le_s (by omega) (by omega)]; omega), bd1_s, hc]
set_option maxRecDepth 100000 in
theorem mv_10 : ringB (fun M => allB (fun k => allB (fun t => decide (mvx (nI k) 1 (nI t) (nI M) = nI (rot M t k) ∧ mvx (nI k) (-1) (nI t) (nI M) = nI (rot M (M + t) k) ∧ mvx (nI k) (nI t) 0 (nI M) = nI (k * t % M))) M) M) = true := by decide +kernel
theorem mv_all {M k t : Nat} (hM : inM M) (hk : k < M) (ht : t < M) : mvx (nI k) 1 (nI t) (nI M) = nI (rot M t k) ∧ mvx (nI k) (-1) (nI t) (nI M) = nI (rot M (M + t) k) ∧ mvx (nI k) (nI t) 0 (nI M) = nI (k * t % M) :=
  of_decide_eq_true (allB_spec (allB_spec (ringB_spec mv_10 hM) k hk) t ht)
theorem md_image_s {w : Nat → Int32} {M s fu k : Nat} (hM : inM M) (hw : w 0 = nI M) (hs : s < 2 ^ M) (hfu : 20 < fu) (hk : k < 2 * M) : m_Md_imageOf fu w (nI s) (nI k) = some (nI (img M s k)) := by
  have hM' := hM
  obtain ⟨h5, h12⟩ := hM
  unfold m_Md_imageOf
  simp only [md_m hw, bd1_s]
  by_cases c : M ≤ k
  · rw [if_pos (by rw [le_s (by omega) (by omega)]; exact c), pk_sub c, md_moved_s hM' hw hs hfu (-1) (nI (k - M)) (rot M k) (fun j hj => ⟨rot_lt (by omega), by
      have := (mv_all hM' hj (show k - M < M by omega)).2.1
      rw [this, show M + (k - M) = k by omega]⟩), bd1_s]
    rfl
  · rw [if_neg (by rw [le_s (by omega) (by omega)]; exact c), md_moved_s hM' hw hs hfu 1 (nI k) (rot M k) (fun j hj => ⟨rot_lt (by omega), (mv_all hM' hj (by omega)).1⟩), bd1_s]
    rfl
/-- the least of f below n, and b -/
def fmn (f : Nat → Nat) (b : Nat) : Nat → Nat
  | 0 => b
  | n + 1 => if f n < fmn f b n then f n else fmn f b n
theorem fmn_le0 (f : Nat → Nat) (b : Nat) : ∀ n, fmn f b n ≤ b
  | 0 => Nat.le_refl b
  | n + 1 => by
    have := fmn_le0 f b n
    rw [fmn]; split <;> omega
theorem fmn_le (f : Nat → Nat) (b : Nat) : ∀ n k, k < n → fmn f b n ≤ f k
  | 0, k, h => absurd h (Nat.not_lt_zero k)
  | n + 1, k, h => by
    rw [fmn]
    rcases Nat.lt_or_ge k n with q | q
    · have := fmn_le f b n k q
      split <;> omega
    · obtain rfl : k = n := by omega
      split <;> omega
theorem fmn_mem (f : Nat → Nat) (b : Nat) : ∀ n, fmn f b n = b ∨ ∃ k, k < n ∧ f k = fmn f b n
  | 0 => Or.inl rfl
  | n + 1 => by
    rw [fmn]
    split
    · exact Or.inr ⟨n, by omega, rfl⟩
    · rcases fmn_mem f b n with h | ⟨k, h1, h2⟩
      · exact Or.inl h
      · exact Or.inr ⟨k, by omega, h2⟩
def form (M s : Nat) : Nat := fmn (img M s) s (2 * M)
theorem form_le {M s k : Nat} (hk : k < 2 * M) : form M s ≤ img M s k := fmn_le _ _ _ k hk
theorem form_mem {M s : Nat} (hM : inM M) (hs : s < 2 ^ M) : ∃ k, k < 2 * M ∧ img M s k = form M s := by
  rcases fmn_mem (img M s) s (2 * M) with h | h
  · exact ⟨0, by have := hM.1; omega, by rw [img_0 hM hs]; exact h.symm⟩
  · exact h
theorem form_uniq {M s r : Nat} (hM : inM M) (hs : s < 2 ^ M) (h1 : ∀ k, k < 2 * M → r ≤ img M s k) (h2 : ∃ k, k < 2 * M ∧ img M s k = r) : form M s = r := by
  obtain ⟨k, hk, e⟩ := form_mem hM hs
  obtain ⟨j, hj, e'⟩ := h2
  have := h1 k hk
  have := form_le (s := s) hj
  omega
theorem form_lt {M s : Nat} (hM : inM M) (hs : s < 2 ^ M) : form M s < 2 ^ M := by
  obtain ⟨k, hk, e⟩ := form_mem hM hs
  rw [← e]; exact img_lt (by have := hM.1; omega)
theorem form_img {M s a : Nat} (hM : inM M) (hs : s < 2 ^ M) (ha : a < 2 * M) : form M (img M s a) = form M s := by
  have h0 : 0 < M := by have := hM.1; omega
  apply form_uniq hM (img_lt h0)
  · intro k hk
    rw [img_comp hM hk ha]
    exact form_le (cmp_all hM hk ha).1
  · obtain ⟨j, hj, e⟩ := form_mem hM hs
    have hi := (cmp_all hM ha ha).2.2.2.1
    refine ⟨cmpR M j (invR M a), (cmp_all hM hj hi).1, ?_⟩
    rw [← e, ← img_comp hM hj hi, img_back hM hs ha]
theorem form_form {M s : Nat} (hM : inM M) (hs : s < 2 ^ M) : form M (form M s) = form M s := by
  obtain ⟨k, hk, e⟩ := form_mem hM hs
  rw [← e, form_img hM hs hk]
  exact e.symm
theorem form_eq {M x y : Nat} (hM : inM M) (hx : x < 2 ^ M) (hy : y < 2 ^ M) (h : form M x = form M y) : ∃ k, k < 2 * M ∧ img M x k = y := by
  obtain ⟨k, hk, e⟩ := form_mem hM hx
  obtain ⟨j, hj, e'⟩ := form_mem hM hy
  have hi := (cmp_all hM hj hj).2.2.2.1
  refine ⟨cmpR M (invR M j) k, (cmp_all hM hi hk).1, ?_⟩
  rw [← img_comp hM hi hk, e, h, ← e', img_back hM hy hj]
theorem pop_form {M s : Nat} (hM : inM M) (hs : s < 2 ^ M) : pop M (form M s) = pop M s := by
  obtain ⟨k, hk, e⟩ := form_mem hM hs
  rw [← e, pop_img hM hk]
theorem md_form_s {w : Nat → Int32} {M s fu : Nat} (hM : inM M) (hw : w 0 = nI M) (hs : s < 2 ^ M) (hfu : 30 < fu) : m_Md_formOf fu w (nI s) = some (nI (form M s)) := by
  have hM' := hM
  obtain ⟨h5, h12⟩ := hM
  have hp := p2_le h12
  unfold m_Md_formOf
  rw [lt_eq, lt_eq]
  obtain ⟨c, n', hc, e⟩ := up_go (F := fun n i (c : Int32) => m_Md_formOf_L4 fu w (nI s) n c (nI i)) (2 * M) (fun i c => c = nI (fmn (img M s) s i))
    (by
      rintro n i c hi rfl
      refine ⟨_, rfl, ?_⟩
      show m_Md_formOf_L4 fu w (nI s) (n + 1) _ (nI i) = _
      have h1 := fmn_le0 (img M s) s i
      have h2 := img_lt (M := M) (s := s) (k := i) (by omega)
      rw [m_Md_formOf_L4, md_m hw, bd1_s, show (2 : Int32) = nI 2 from rfl, pk_mul, if_neg (by rw [le_s (by omega) (by omega)]; omega), md_image_s hM' hw hs (by omega) hi, bd1_s, lt_eq, ile (by omega) (by omega), fmn]
      by_cases c : img M s i < fmn (img M s) s i
      · rw [if_neg (by omega), if_pos c, bd1_s, lt_eq, lt_eq, nI_1]
      · rw [if_pos (by omega), if_neg c, bd1_s, lt_eq, lt_eq, nI_1])
    (2 * M) fu 0 (nI s) (by omega) (by omega) rfl
  have e : m_Md_formOf_L4 fu w (nI s) fu (nI s) 0 = m_Md_formOf_L4 fu w (nI s) (n' + 1) c (nI (2 * M)) := e
  rw [e, m_Md_formOf_L4, md_m hw, bd1_s, show (2 : Int32) = nI 2 from rfl, pk_mul, if_pos (by rw [le_s (by omega) (by omega)]; omega), bd1_s, hc]
  rfl
/-- two at a time -/
def fmB (f g : Nat → Nat) (b : Nat) : Nat → Nat
  | 0 => b
  | n + 1 => if g n < (if f n < fmB f g b n then f n else fmB f g b n) then g n else (if f n < fmB f g b n then f n else fmB f g b n)
theorem fmB_all (f g : Nat → Nat) (b : Nat) : ∀ n, fmB f g b n ≤ b ∧ (∀ k, k < n → fmB f g b n ≤ f k ∧ fmB f g b n ≤ g k) ∧ (fmB f g b n = b ∨ ∃ k, k < n ∧ (f k = fmB f g b n ∨ g k = fmB f g b n))
  | 0 => ⟨Nat.le_refl b, fun k h => absurd h (Nat.not_lt_zero k), Or.inl rfl⟩
  | n + 1 => by
    obtain ⟨h1, h2, h3⟩ := fmB_all f g b n
    have e : fmB f g b (n + 1) = if g n < (if f n < fmB f g b n then f n else fmB f g b n) then g n else (if f n < fmB f g b n then f n else fmB f g b n) := rfl
    generalize fmB f g b n = z at h1 h2 h3 e
    generalize fmB f g b (n + 1) = y at e
    have h4 : y ≤ z ∧ y ≤ f n ∧ y ≤ g n ∧ (y = z ∨ y = f n ∨ y = g n) := by
      rw [e]; split <;> split <;> omega
    obtain ⟨q1, q2, q3, q4⟩ := h4
    refine ⟨by omega, fun k hk => ?_, ?_⟩
    · rcases Nat.lt_or_ge k n with c | c
      · have := h2 k c; omega
      · obtain rfl : k = n := by omega
        exact ⟨q2, q3⟩
    · rcases q4 with q | q | q
      · rcases h3 with h | ⟨k, hk, h⟩
        · exact Or.inl (by omega)
        · exact Or.inr ⟨k, by omega, by omega⟩
      · exact Or.inr ⟨n, by omega, Or.inl q.symm⟩
      · exact Or.inr ⟨n, by omega, Or.inr q.symm⟩
theorem min_s {a b : Nat} (ha : a < 2147483648) (hb : b < 2147483648) : (if nI a < nI b then nI a else nI b) = nI (if a < b then a else b) := by
  rw [ilt ha hb]
  split <;> rfl
theorem form_s {M s fu : Nat} (hM : inM M) (hs : s < 2 ^ M) (hfu : 30 < fu) : m_Ring_formOf fu (nI s) (nI M) = some (nI (form M s)) := by
  have hM' := hM
  obtain ⟨h5, h12⟩ := hM
  have hp := p2_le h12
  have hm := img_lt (M := M) (s := s) (k := M) (by omega)
  unfold m_Ring_formOf
  rw [mirrored_s hM' hs (by omega), bd1_s, lt_eq, lt_eq, lt_eq]
  obtain ⟨c, n', hc, e⟩ := up_go (F := fun n i (c : Int32) => m_Ring_formOf_L11 (nI M) (nI s) (nI (img M s M)) n c (nI i)) M (fun i c => c = nI (fmB (img M s) (fun k => img M s (M + k)) s i))
    (by
      rintro n i c hi rfl
      refine ⟨_, rfl, ?_⟩
      show m_Ring_formOf_L11 (nI M) (nI s) (nI (img M s M)) (n + 1) _ (nI i) = _
      have h1 := (fmB_all (img M s) (fun k => img M s (M + k)) s i).1
      have h2 := img_lt (M := M) (s := s) (k := i) (by omega)
      have h3 := img_lt (M := M) (s := s) (k := M + i) (by omega)
      rw [m_Ring_formOf_L11, if_neg (by rw [le_s (by omega) (by omega)]; omega), turned_s hM' hi hs, bd1_s, lt_eq, min_s (by omega) (by omega), turned_s hM' hi hm, bd1_s, lt_eq, img_mir hM' hi, min_s (by omega) (by split <;> omega), lt_eq, nI_1, fmB])
    M fu 0 (nI s) (by omega) (by omega) rfl
  have e : m_Ring_formOf_L11 (nI M) (nI s) (nI (img M s M)) fu (nI s) 0 = m_Ring_formOf_L11 (nI M) (nI s) (nI (img M s M)) (n' + 1) c (nI M) := e
  rw [e, m_Ring_formOf_L11, if_pos (by rw [le_s (by omega) (by omega)]; omega), bd1_s, hc]
  congr 2
  obtain ⟨q1, q2, q3⟩ := fmB_all (img M s) (fun k => img M s (M + k)) s M
  symm
  apply form_uniq hM' hs
  · intro k hk
    rcases Nat.lt_or_ge k M with c | c
    · exact (q2 k c).1
    · have := (q2 (k - M) (by omega)).2
      rw [show M + (k - M) = k by omega] at this
      exact this
  · rcases q3 with h | ⟨k, hk, h | h⟩
    · exact ⟨0, by omega, by rw [img_0 hM' hs]; exact h.symm⟩
    · exact ⟨k, by omega, h⟩
    · exact ⟨M + k, by omega, h⟩
