/-! how many tones, kin, the first image, pairs apart -/
theorem pop_up {M s : Nat} (hs : s < 2 ^ M) : ∀ d, pop (M + d) s = pop M s
  | 0 => rfl
  | d + 1 => by
    have ih := pop_up hs d
    unfold pop at *
    rw [← Nat.add_assoc, fb_ct_succ, ih, Nat.testBit_lt_two_pow (Nat.lt_of_lt_of_le hs (Nat.pow_le_pow_right (by omega) (by omega)))]
    rfl
theorem pop_12 {M s : Nat} (hM : M ≤ 12) (hs : s < 2 ^ M) : pop 12 s = pop M s := by
  have := pop_up hs (12 - M)
  rw [show M + (12 - M) = 12 by omega] at this
  exact this
theorem pop_le (n s : Nat) : pop n s ≤ n := fb_ct_le _ _
set_option maxRecDepth 100000 in
theorem bc_all : allB (fun s => decide (m_Ji_bitCount (nI s) = some (nI (pop 12 s)))) 4096 = true := by decide +kernel
theorem bc_s {M s : Nat} (hM : M ≤ 12) (hs : s < 2 ^ M) : m_Ji_bitCount (nI s) = some (nI (pop M s)) := by
  have hp := p2_le hM
  have := of_decide_eq_true (allB_spec bc_all s (by omega))
  rw [this, pop_12 hM hs]
theorem md_ones_s {M s fu : Nat} (hM : M ≤ 12) (hs : s < 2 ^ M) (hfu : 20 < fu) : m_Md_ones fu (nI s) = some (nI (pop M s)) := by
  have hp := p2_le hM
  unfold m_Md_ones
  rw [lt_eq, lt_eq]
  obtain ⟨c, n', hc, e⟩ := up_go (F := fun n i (c : Int32) => m_Md_ones_L4 (nI s) n c (nI i)) 12 (fun i c => c = nI (pop i s))
    (by
      rintro n i c hi rfl
      refine ⟨_, rfl, ?_⟩
      show m_Md_ones_L4 (nI s) (n + 1) _ (nI i) = _
      rw [m_Md_ones_L4, show (12 : Int32) = nI 12 from rfl, if_neg (by rw [le_s (by omega) (by omega)]; omega), bit_s (by omega) (by omega), lt_eq, lt_eq, nI_add, nI_1]
      rfl)
    12 fu 0 0 (by omega) (by omega) rfl
  have e : m_Md_ones_L4 (nI s) fu 0 0 = m_Md_ones_L4 (nI s) (n' + 1) c (nI 12) := e
  rw [e, m_Md_ones_L4, show (12 : Int32) = nI 12 from rfl, if_pos (by rw [le_s (by omega) (by omega)]; omega), bd1_s, hc, pop_12 hM hs]
/-! kin -/
def kin (M s : Nat) : Nat := fb_ct (fun k => decide (img M s k = s)) (2 * M)
theorem kin_pos {M s : Nat} (hM : inM M) (hs : s < 2 ^ M) : 0 < kin M s := by
  have := hM.1
  exact fb_ct_pos.mpr ⟨0, by omega, decide_eq_true (img_0 hM hs)⟩
theorem kin_le {M s : Nat} : kin M s ≤ 2 * M := fb_ct_le _ _
theorem md_kin_s {w : Nat → Int32} {M s fu : Nat} (hM : inM M) (hw : w 0 = nI M) (hs : s < 2 ^ M) (hfu : 30 < fu) : m_Md_kin fu w (nI s) = some (nI (kin M s)) := by
  have hM' := hM
  obtain ⟨h5, h12⟩ := hM
  have hp := p2_le h12
  unfold m_Md_kin
  rw [lt_eq, lt_eq]
  obtain ⟨c, n', hc, e⟩ := up_go (F := fun n i (c : Int32) => m_Md_kin_L4 fu w (nI s) n c (nI i)) (2 * M) (fun i c => c = nI (fb_ct (fun k => decide (img M s k = s)) i))
    (by
      rintro n i c hi rfl
      refine ⟨_, rfl, ?_⟩
      show m_Md_kin_L4 fu w (nI s) (n + 1) _ (nI i) = _
      have h2 := img_lt (M := M) (s := s) (k := i) (by omega)
      rw [m_Md_kin_L4, md_m hw, bd1_s, show (2 : Int32) = nI 2 from rfl, pk_mul, if_neg (by rw [le_s (by omega) (by omega)]; omega), md_image_s hM' hw hs (by omega) hi, bd1_s, ieq (by omega) (by omega), fb_ct_succ]
      by_cases c : img M s i = s
      · rw [if_pos c, bd1_s, lt_eq, lt_eq, nI_1, nI_1, if_pos (decide_eq_true c)]
      · rw [if_neg c, bd1_s, lt_eq, lt_eq, show (0 : Int32) = nI 0 from rfl, nI_add, nI_1, if_neg (by rw [decide_eq_true_eq]; exact c)])
    (2 * M) fu 0 0 (by omega) (by omega) rfl
  have e : m_Md_kin_L4 fu w (nI s) fu 0 0 = m_Md_kin_L4 fu w (nI s) (n' + 1) c (nI (2 * M)) := e
  rw [e, m_Md_kin_L4, md_m hw, bd1_s, show (2 : Int32) = nI 2 from rfl, pk_mul, if_pos (by rw [le_s (by omega) (by omega)]; omega), bd1_s, hc]
  rfl
theorem one_s (c : Prop) [Decidable c] (a : Nat) : (bd1 (if c then lt (nI a + 1 : Int32) (fun v => some v) else some (nI a)) (fun v => (some v : Option Int32))) = some (nI (a + if c then 1 else 0)) := by
  by_cases h : c
  · rw [if_pos h, lt_eq, bd1_s, nI_1, if_pos h]
  · rw [if_neg h, bd1_s, if_neg h, Nat.add_zero]
theorem one_k {β : Type} (c : Prop) [Decidable c] (a : Nat) (k : Int32 → Option β) : bd1 (if c then lt (nI a + 1 : Int32) (fun v => some v) else some (nI a)) k = k (nI (a + if c then 1 else 0)) := by
  by_cases h : c
  · rw [if_pos h, lt_eq, bd1_s, nI_1, if_pos h]
  · rw [if_neg h, bd1_s, if_neg h, Nat.add_zero]
theorem kin_s {M s fu : Nat} (hM : inM M) (hs : s < 2 ^ M) (hfu : 30 < fu) : m_Ring_kinOf fu (nI s) (nI M) = some (nI (kin M s)) := by
  have hM' := hM
  obtain ⟨h5, h12⟩ := hM
  have hp := p2_le h12
  have hm := img_lt (M := M) (s := s) (k := M) (by omega)
  unfold m_Ring_kinOf
  rw [mirrored_s hM' hs (by omega), bd1_s, lt_eq, lt_eq, lt_eq]
  obtain ⟨c, n', hc, e⟩ := up_go (F := fun n i (c : Int32) => m_Ring_kinOf_L11 (nI M) (nI s) (nI (img M s M)) n c (nI i)) M (fun i c => c = nI (fb_ct (fun k => decide (img M s k = s)) i + fb_ct (fun k => decide (img M s (M + k) = s)) i))
    (by
      rintro n i c hi rfl
      refine ⟨_, rfl, ?_⟩
      show m_Ring_kinOf_L11 (nI M) (nI s) (nI (img M s M)) (n + 1) _ (nI i) = _
      have h2 := img_lt (M := M) (s := s) (k := i) (by omega)
      have h3 := img_lt (M := M) (s := s) (k := M + i) (by omega)
      rw [m_Ring_kinOf_L11, if_neg (by rw [le_s (by omega) (by omega)]; omega), turned_s hM' hi hs, bd1_s, one_k, turned_s hM' hi hm, bd1_s, img_mir hM' hi, one_k, lt_eq, nI_1]
      simp only [eq_s (show img M s i < 2147483648 by omega) (show s < 2147483648 by omega), eq_s (show img M s (M + i) < 2147483648 by omega) (show s < 2147483648 by omega), fb_ct_succ, decide_eq_true_eq]
      congr 2
      omega)
    M fu 0 0 (by omega) (by omega) rfl
  have e : m_Ring_kinOf_L11 (nI M) (nI s) (nI (img M s M)) fu 0 0 = m_Ring_kinOf_L11 (nI M) (nI s) (nI (img M s M)) (n' + 1) c (nI M) := e
  rw [e, m_Ring_kinOf_L11, if_pos (by rw [le_s (by omega) (by omega)]; omega), bd1_s, hc]
  congr 2
  rw [kin, show 2 * M = M + M by omega, fb_ct_split]
/-! the first image that is the form -/
theorem first_ex {M s : Nat} (hM : inM M) (hs : s < 2 ^ M) : ∃ k, k < 2 * M ∧ img M s k = form M s ∧ ∀ j, j < k → ¬ img M s j = form M s := fb_first (p := fun k => img M s k = form M s) (form_mem hM hs)
theorem md_first_s {w : Nat → Int32} {M s fu k : Nat} (hM : inM M) (hw : w 0 = nI M) (hs : s < 2 ^ M) (hfu : 30 < fu) (hk : k < 2 * M) (h1 : img M s k = form M s) (h2 : ∀ j, j < k → ¬ img M s j = form M s) : m_Md_firstImage fu w (nI s) (nI (form M s)) = some (nI k) := by
  have hM' := hM
  obtain ⟨h5, h12⟩ := hM
  have hp := p2_le h12
  have hf := form_lt hM' hs
  unfold m_Md_firstImage
  rw [lt_eq]
  obtain ⟨c, n', hc, e⟩ := up_go (F := fun n i (_ : Unit) => m_Md_firstImage_L2 fu w (nI s) (nI (form M s)) n (nI i)) k (fun i _ => True)
    (by
      rintro n i c hi -
      refine ⟨(), trivial, ?_⟩
      show m_Md_firstImage_L2 fu w (nI s) (nI (form M s)) (n + 1) (nI i) = _
      have h2' := img_lt (M := M) (s := s) (k := i) (by omega)
      rw [m_Md_firstImage_L2, md_image_s hM' hw hs (by omega) (by omega), bd1_s, if_neg (by rw [eq_s (by omega) (by omega)]; exact h2 i hi), lt_eq, nI_1])
    k fu 0 () (by omega) (by omega) trivial
  have e : m_Md_firstImage_L2 fu w (nI s) (nI (form M s)) fu 0 = m_Md_firstImage_L2 fu w (nI s) (nI (form M s)) (n' + 1) (nI k) := e
  rw [e, m_Md_firstImage_L2, md_image_s hM' hw hs (by omega) hk, bd1_s, if_pos (by rw [h1]), bd1_s]
theorem first_s {M s fu k : Nat} (hM : inM M) (hs : s < 2 ^ M) (hfu : 30 < fu) (hk : k < 2 * M) (h1 : img M s k = form M s) (h2 : ∀ j, j < k → ¬ img M s j = form M s) : m_Ring_firstImageThatIsForm fu (nI s) (nI M) = some (nI k) := by
  have hM' := hM
  obtain ⟨h5, h12⟩ := hM
  have hp := p2_le h12
  have hf := form_lt hM' hs
  have hm := img_lt (M := M) (s := s) (k := M) (by omega)
  unfold m_Ring_firstImageThatIsForm
  rw [form_s hM' hs hfu, bd1_s, lt_eq, mirrored_s hM' hs (by omega), bd1_s, lt_eq, lt_eq]
  have step : ∀ n i, i < M → ¬ img M s i = form M s → m_Ring_firstImageThatIsForm_L15 fu (nI M) (nI (img M s M)) (nI (form M s)) (nI s) (n + 1) (nI i) = m_Ring_firstImageThatIsForm_L15 fu (nI M) (nI (img M s M)) (nI (form M s)) (nI s) n (nI (i + 1)) := by
    intro n i hi hne
    have h2' := img_lt (M := M) (s := s) (k := i) (by omega)
    rw [m_Ring_firstImageThatIsForm_L15, if_neg (by rw [le_s (by omega) (by omega)]; omega), turned_s hM' hi hs, bd1_s, if_neg (by rw [eq_s (by omega) (by omega)]; exact hne), lt_eq, nI_1]
  rcases Nat.lt_or_ge k M with q | q
  · obtain ⟨c, n', hc, e⟩ := up_go (F := fun n i (_ : Unit) => m_Ring_firstImageThatIsForm_L15 fu (nI M) (nI (img M s M)) (nI (form M s)) (nI s) n (nI i)) k (fun i _ => True)
      (fun n i c hi _ => ⟨(), trivial, step n i (by omega) (h2 i hi)⟩) k fu 0 () (by omega) (by omega) trivial
    have e : m_Ring_firstImageThatIsForm_L15 fu (nI M) (nI (img M s M)) (nI (form M s)) (nI s) fu 0 = m_Ring_firstImageThatIsForm_L15 fu (nI M) (nI (img M s M)) (nI (form M s)) (nI s) (n' + 1) (nI k) := e
    rw [e, m_Ring_firstImageThatIsForm_L15, if_neg (by rw [le_s (by omega) (by omega)]; omega), turned_s hM' q hs, bd1_s, if_pos (by rw [h1])]
  · obtain ⟨c, n', hc, e⟩ := up_go (F := fun n i (_ : Unit) => m_Ring_firstImageThatIsForm_L15 fu (nI M) (nI (img M s M)) (nI (form M s)) (nI s) n (nI i)) M (fun i _ => True)
      (fun n i c hi _ => ⟨(), trivial, step n i hi (h2 i (by omega))⟩) M fu 0 () (by omega) (by omega) trivial
    have e : m_Ring_firstImageThatIsForm_L15 fu (nI M) (nI (img M s M)) (nI (form M s)) (nI s) fu 0 = m_Ring_firstImageThatIsForm_L15 fu (nI M) (nI (img M s M)) (nI (form M s)) (nI s) (n' + 1) (nI M) := e
    rw [e, m_Ring_firstImageThatIsForm_L15, if_pos (by rw [le_s (by omega) (by omega)]; omega), lt_eq]
    obtain ⟨c2, n2, hc2, e2⟩ := up_go (F := fun n i (_ : Unit) => m_Ring_firstImageThatIsForm_L44 (nI M) (nI (img M s M)) (nI (form M s)) n (nI i)) (k - M) (fun i _ => True)
      (by
        rintro n i c hi -
        refine ⟨(), trivial, ?_⟩
        show m_Ring_firstImageThatIsForm_L44 (nI M) (nI (img M s M)) (nI (form M s)) (n + 1) (nI i) = _
        have h2' := img_lt (M := M) (s := s) (k := M + i) (by omega)
        rw [m_Ring_firstImageThatIsForm_L44, if_neg (by rw [le_s (by omega) (by omega)]; omega), turned_s hM' (by omega) hm, bd1_s, img_mir hM' (by omega), if_neg (by rw [eq_s (by omega) (by omega)]; exact h2 (M + i) (by omega)), lt_eq, nI_1])
      (k - M) fu 0 () (by omega) (by omega) trivial
    have e2 : m_Ring_firstImageThatIsForm_L44 (nI M) (nI (img M s M)) (nI (form M s)) fu 0 = m_Ring_firstImageThatIsForm_L44 (nI M) (nI (img M s M)) (nI (form M s)) (n2 + 1) (nI (k - M)) := e2
    rw [e2, m_Ring_firstImageThatIsForm_L44, if_neg (by rw [le_s (by omega) (by omega)]; omega), turned_s hM' (by omega) hm, bd1_s, img_mir hM' (by omega), show M + (k - M) = k by omega, if_pos (by rw [h1]), nI_add, show M + (k - M) = k by omega]
