/-! the reference: form i of k tones, its number, twins -/
theorem isK_F {M k x : Nat} (h : isK M k x = true) : isF M x = true ∧ pop M x = k := by
  unfold isK at h
  rw [Bool.and_eq_true] at h
  exact ⟨h.1, of_decide_eq_true h.2⟩
theorem isK_of {M k x : Nat} (h : isF M x = true) (h2 : pop M x = k) : isK M k x = true := by
  unfold isK
  rw [h, decide_eq_true h2]; rfl
theorem nk_lt {M k x y : Nat} (h : isK M k x = true) (hxy : x < y) : nk M k x < nk M k y := by
  have : nk M k (x + 1) ≤ nk M k y := fb_ct_mono _ hxy
  unfold nk at *
  rw [fb_ct_succ, if_pos h] at this
  omega
theorem nk_inj {M k x y : Nat} (hx : isK M k x = true) (hy : isK M k y = true) (e : nk M k x = nk M k y) : x = y := fb_ct_kth_one hx hy e
/-- the row walked as far as the form f of k tones -/
theorem md_at9 {M fu k f : Nat} {A : Nat → Int32} {r : Int32} (hM : inM M) (hfu : 5000 < fu) (hA : FA A M (2 ^ M)) (hf : f < 2 ^ M) (hk : isK M k f = true) : m_Md_formAtOf_L9 fu (nI (nfT M)) r A (nI k) (nI (nk M k f)) fu 0 0 = some (nI f, nI (nfT M), r, A) := by
  have h5 := hM.1; have h12 := hM.2
  have hp := p2_le h12
  have hT := nfT_le hM
  obtain ⟨hF, hpk⟩ := isK_F hk
  have hlt := nf_lt hf hF
  have hpl := pop_le M f
  have hk12 : k ≤ 12 := by omega
  have hnk := nk_le M k f
  obtain ⟨c', n', hc, e⟩ := up_go (F := fun n i (c : Int32) => m_Md_formAtOf_L9 fu (nI (nfT M)) r A (nI k) (nI (nk M k f)) n c (nI i)) (nf M f) (fun i c' => c' = nI (fb_sm (qk A M k) i))
    (by
      rintro n i c' hi rfl
      refine ⟨_, rfl, ?_⟩
      obtain ⟨g, hg, hG, eg, ef⟩ := FA_at hA (show i < nfT M by omega)
      show m_Md_formAtOf_L9 fu (nI (nfT M)) r A (nI k) (nI (nk M k f)) (n + 1) _ (nI i) = _
      have hpg := pop_le M g
      have hgf : g < f := by
        rcases Nat.lt_or_ge g f with q | q
        · exact q
        · have := nf_mono (M := M) q
          omega
      have hre := qk_re (k := k) hM hA (show g ≤ 2 ^ M by omega)
      rw [eg] at hre
      have hle := nk_le M k g
      rw [m_Md_formAtOf_L9, ile (by omega) (by omega), if_neg (by omega), ck_s (by omega) (by omega), cl_s (by omega), ef, md_ones_s h12 hg (by omega), bd1_s, ieq (by omega) (by omega), fb_sm_succ, qk, ef, cl_s (by omega)]
      by_cases q : pop M g = k
      · have hlk := nk_lt (isK_of hG q) hgf
        rw [if_pos q, if_pos q, hre, ieq (by omega) (by omega), if_neg (by omega), lt_eq, lt_eq, nI_1, nI_1]
      · rw [if_neg q, if_neg q, lt_eq, nI_1]
        rfl)
    (nf M f) fu 0 0 (by omega) (by omega) rfl
  have e : m_Md_formAtOf_L9 fu (nI (nfT M)) r A (nI k) (nI (nk M k f)) fu 0 0 = m_Md_formAtOf_L9 fu (nI (nfT M)) r A (nI k) (nI (nk M k f)) (n' + 1) c' (nI (nf M f)) := e
  have hre := qk_re (k := k) hM hA (show f ≤ 2 ^ M by omega)
  rw [e, m_Md_formAtOf_L9, ile (by omega) (by omega), if_neg (by omega), ck_s (by omega) (by omega), cl_s (by omega), hA f hf hF, md_ones_s h12 hf (by omega), bd1_s, ieq (by omega) (by omega), if_pos hpk, hc, hre, if_pos rfl, ck_s (by omega) (by omega)]
theorem nk_kth {M k i : Nat} (hi : i < nkT M k) : ∃ f, f < 2 ^ M ∧ isK M k f = true ∧ nk M k f = i := fb_ct_kth hi
theorem md_formAtOf_s {w : Nat → Int32} {M fu k f : Nat} {many ring : Int32} {forms : Nat → Int32} (hM : inM M) (hw : w 0 = nI M) (hfu : 5000 < fu) (hI : FIm many ring forms) (hf : f < 2 ^ M) (hk : isK M k f = true) : ∃ forms', m_Md_formAtOf fu many ring forms w (nI k) (nI (nk M k f)) = some (nI f, nI (nfT M), nI M, forms') ∧ FA forms' M (2 ^ M) := by
  obtain ⟨A, e0, hA⟩ := md_lay_s hM hw hfu hI
  refine ⟨A, ?_, hA⟩
  unfold m_Md_formAtOf
  rw [e0, bd3_s, lt_eq, lt_eq]
  exact md_at9 hM hfu hA hf hk
theorem FIm_of {M : Nat} {A : Nat → Int32} (hM : inM M) (hA : FA A M (2 ^ M)) : FIm (nI (nfT M)) (nI M) A := Or.inr ⟨M, hM, rfl, rfl, hA⟩
theorem md_numberOf_s {w : Nat → Int32} {M fu f : Nat} {many ring : Int32} {forms : Nat → Int32} (hM : inM M) (hw : w 0 = nI M) (hfu : 5000 < fu) (hI : FIm many ring forms) (hf : f < 2 ^ M) (hF : isF M f = true) : ∃ forms', m_Md_numberOf fu many ring forms w (nI f) = some (nI (nk M (pop M f) f), nI (nfT M), nI M, forms') ∧ FA forms' M (2 ^ M) := by
  have h5 := hM.1; have h12 := hM.2
  have hp := p2_le h12
  have hT := nfT_le hM
  have hK := isK_of hF (rfl : pop M f = pop M f)
  have hle := nk_le M (pop M f) f
  have hlt := nf_lt hf hF
  unfold m_Md_numberOf
  rw [md_ones_s h12 hf (by omega), bd1_s, lt_eq, lt_eq]
  obtain ⟨⟨a, b, A⟩, n', hc, e⟩ := up_go (F := fun n i (c : Int32 × Int32 × (Nat → Int32)) => m_Md_numberOf_L7 fu w (nI (pop M f)) (nI f) n (nI i) c.1 c.2.1 c.2.2) (nk M (pop M f) f) (fun i c => FIm c.1 c.2.1 c.2.2)
    (by
      rintro n i ⟨a, b, A⟩ hi hI
      have hi' : i < nkT M (pop M f) := by
        have : nk M (pop M f) f ≤ nkT M (pop M f) := fb_ct_mono _ (by omega)
        omega
      obtain ⟨g, hg, hgk, eg⟩ := nk_kth hi'
      obtain ⟨A', e1, hA'⟩ := md_formAtOf_s hM hw hfu hI hg hgk
      refine ⟨(nI (nfT M), nI M, A'), FIm_of hM hA', ?_⟩
      show m_Md_numberOf_L7 fu w (nI (pop M f)) (nI f) (n + 1) (nI i) a b A = _
      rw [m_Md_numberOf_L7, ← eg, e1, bd4_s, ieq (by omega) (by omega), if_neg (fun q => by subst q; omega), lt_eq, nI_1])
    (nk M (pop M f) f) fu 0 (many, ring, forms) (by omega) (by omega) hI
  have e : m_Md_numberOf_L7 fu w (nI (pop M f)) (nI f) fu 0 many ring forms = m_Md_numberOf_L7 fu w (nI (pop M f)) (nI f) (n' + 1) (nI (nk M (pop M f) f)) a b A := e
  obtain ⟨A', e1, hA'⟩ := md_formAtOf_s hM hw hfu hc hf hK
  refine ⟨A', ?_, hA'⟩
  rw [e, m_Md_numberOf_L7, e1, bd4_s, if_pos rfl, bd4_s]
/-! twins -/
def twq (M g f : Nat) : Nat := if f = g then 0 else if likeN M f g = true then 1 else 0
def twN (M g : Nat) : Nat := fb_sm (fun f => if isF M f = true then twq M g f else 0) (2 ^ M)
theorem sm_re_le {p : Nat → Bool} {G : Nat → Nat} (hG : ∀ f, G f ≤ 1) : ∀ x, fb_sm (fun f => if p f = true then G f else 0) x ≤ fb_ct p x
  | 0 => Nat.le_refl 0
  | x + 1 => by
    have ih := sm_re_le (p := p) hG x
    have := hG x
    rw [fb_sm_succ, fb_ct_succ]
    by_cases c : p x = true
    · rw [if_pos c, if_pos c]; omega
    · rw [if_neg c, if_neg c]; omega
theorem twq_le (M g f : Nat) : twq M g f ≤ 1 := by
  unfold twq
  split
  · omega
  · split <;> omega
theorem twN_le {M g : Nat} (hM : inM M) : twN M g ≤ 224 := Nat.le_trans (sm_re_le (fun f => twq_le M g f) (2 ^ M)) (nfT_le hM)
theorem md_tw8 {w : Nat → Int32} {M fu g : Nat} {A : Nat → Int32} (hM : inM M) (hw : w 0 = nI M) (hfu : 5000 < fu) (hA : FA A M (2 ^ M)) (hg : g < 2 ^ M) : m_Md_twins_L8 fu (nI (nfT M)) A (nI g) w fu 0 0 = some (nI (twN M g)) := by
  have h5 := hM.1; have h12 := hM.2
  have hp := p2_le h12
  have hT := nfT_le hM
  obtain ⟨c', n', hc, e⟩ := up_go (F := fun n i (c : Int32) => m_Md_twins_L8 fu (nI (nfT M)) A (nI g) w n c (nI i)) (nfT M) (fun i c' => c' = nI (fb_sm (fun i => twq M g (A i).toNatClampNeg) i))
    (by
      rintro n i c' hi rfl
      refine ⟨_, rfl, ?_⟩
      obtain ⟨f, hf, hF, -, ef⟩ := FA_at hA hi
      show m_Md_twins_L8 fu (nI (nfT M)) A (nI g) w (n + 1) _ (nI i) = _
      rw [m_Md_twins_L8, ile (by omega) (by omega), if_neg (by omega), ck_s (by omega) (by omega), ck_s (by omega) (by omega), cl_s (by omega), ef, md_like_s hM hw hf hg (by omega), bd1_s, ieq (by omega) (by omega), fb_sm_succ, ef, cl_s (by omega), twq]
      by_cases q : f = g
      · rw [if_pos q, if_pos q, bd1_s, lt_eq, lt_eq, show (0 : Int32) = nI 0 from rfl, nI_add, nI_1]
      · rw [if_neg q, if_neg q]
        by_cases q2 : likeN M f g = true
        · rw [q2, if_pos rfl, if_neg (by decide), bd1_s, lt_eq, lt_eq, nI_1, nI_1, if_pos rfl]
        · rw [Bool.not_eq_true] at q2
          rw [q2, if_pos (show (if false = true then (1 : Int32) else 0) = 0 from rfl), bd1_s, lt_eq, lt_eq, show (0 : Int32) = nI 0 from rfl, nI_add, nI_1]
          rfl)
    (nfT M) fu 0 0 (by omega) (by omega) rfl
  have e : m_Md_twins_L8 fu (nI (nfT M)) A (nI g) w fu 0 0 = m_Md_twins_L8 fu (nI (nfT M)) A (nI g) w (n' + 1) c' (nI (nfT M)) := e
  rw [e, m_Md_twins_L8, ile (by omega) (by omega), if_pos (by omega), hc]
  congr 2
  unfold twN nfT nf
  refine sm_re (fun f hf hF => ?_)
  have := hA f hf hF
  unfold nf at this
  rw [this, cl_s (by omega)]
theorem md_twins_s {w : Nat → Int32} {M fu g : Nat} {many ring : Int32} {forms : Nat → Int32} (hM : inM M) (hw : w 0 = nI M) (hfu : 5000 < fu) (hI : FIm many ring forms) (hg : g < 2 ^ M) : ∃ forms', m_Md_twins fu many ring forms w (nI g) = some (nI (twN M g), nI (nfT M), nI M, forms') ∧ FA forms' M (2 ^ M) := by
  obtain ⟨A, e0, hA⟩ := md_lay_s hM hw hfu hI
  refine ⟨A, ?_, hA⟩
  unfold m_Md_twins
  rw [e0, bd3_s, lt_eq, lt_eq, md_tw8 hM hw hfu hA hg, bd1_s]
theorem md_tw_in {w : Nat → Int32} {M fu g : Nat} {A : Nat → Int32} (hM : inM M) (hw : w 0 = nI M) (hfu : 5000 < fu) (hA : FA A M (2 ^ M)) (hg : g < 2 ^ M) : m_Md_twins fu (nI (nfT M)) (nI M) A w (nI g) = some (nI (twN M g), nI (nfT M), nI M, A) := by
  unfold m_Md_twins m_Md_layForms
  rw [md_m hw, bd1_s, if_pos rfl, bd3_s, lt_eq, lt_eq, md_tw8 hM hw hfu hA hg, bd1_s]
def twP (M : Nat) : Nat := fb_sm (fun f => if isF M f = true then twN M f else 0) (2 ^ M)
theorem md_twinPairs_s {w : Nat → Int32} {M fu : Nat} {many ring : Int32} {forms : Nat → Int32} (hM : inM M) (hw : w 0 = nI M) (hfu : 5000 < fu) (hI : FIm many ring forms) : ∃ forms', m_Md_twinPairs fu many ring forms w = some (nI (twP M / 2), nI (nfT M), nI M, forms') ∧ FA forms' M (2 ^ M) := by
  have h5 := hM.1; have h12 := hM.2
  have hp := p2_le h12
  have hT := nfT_le hM
  obtain ⟨A, e0, hA⟩ := md_lay_s hM hw hfu hI
  refine ⟨A, ?_, hA⟩
  unfold m_Md_twinPairs
  rw [e0, bd3_s, lt_eq, lt_eq]
  obtain ⟨c', n', hc, e⟩ := up_go (F := fun n i (c : Int32) => m_Md_twinPairs_L8 fu w n c (nI i) (nI (nfT M)) (nI M) A) (nfT M) (fun i c' => c' = nI (fb_sm (fun i => twN M (A i).toNatClampNeg) i))
    (by
      rintro n i c' hi rfl
      refine ⟨_, rfl, ?_⟩
      obtain ⟨f, hf, hF, -, ef⟩ := FA_at hA hi
      show m_Md_twinPairs_L8 fu w (n + 1) _ (nI i) (nI (nfT M)) (nI M) A = _
      rw [m_Md_twinPairs_L8, ile (by omega) (by omega), if_neg (by omega), ck_s (by omega) (by omega), cl_s (by omega), ef, md_tw_in hM hw hfu hA hf, bd4_s, lt_eq, lt_eq, nI_add, nI_1, fb_sm_succ, ef, cl_s (by omega)])
    (nfT M) fu 0 0 (by omega) (by omega) rfl
  have e : m_Md_twinPairs_L8 fu w fu 0 0 (nI (nfT M)) (nI M) A = m_Md_twinPairs_L8 fu w (n' + 1) c' (nI (nfT M)) (nI (nfT M)) (nI M) A := e
  have hs : fb_sm (fun i => twN M (A i).toNatClampNeg) (nfT M) = twP M := by
    unfold twP nfT nf
    refine sm_re (G := fun f => twN M f) (fun f hf hF => ?_)
    have := hA f hf hF
    unfold nf at this
    rw [this, cl_s (by omega)]
  have hb : twP M ≤ 224 * 224 := by
    rw [← hs]
    refine Nat.le_trans (fb_sm_bound (c := 224) (fun k _ => twN_le hM)) (Nat.mul_le_mul hT (Nat.le_refl _))
  rw [e, m_Md_twinPairs_L8, ile (by omega) (by omega), if_pos (by omega), bd4_s, hc, hs, show (2 : Int32) = nI 2 from rfl, pk_div (by omega) (by omega) (by omega)]
