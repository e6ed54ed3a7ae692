/-! all forms of a ring: the reference's row of them -/
def isF (M x : Nat) : Bool := decide (form M x = x)
def nf (M x : Nat) : Nat := fb_ct (isF M) x
def nfT (M : Nat) : Nat := nf M (2 ^ M)
theorem isF_iff {M x : Nat} (hM : inM M) (hx : x < 2 ^ M) : isF M x = true ↔ ∀ k, k < 2 * M → x ≤ img M x k := by
  unfold isF
  rw [decide_eq_true_eq]
  constructor
  · intro e k hk
    have := form_le (s := x) hk
    omega
  · intro h
    exact form_uniq hM hx h ⟨0, by have := hM.1; omega, img_0 hM hx⟩
/-- counted by halves, for the kernel -/
def cntH (p : Nat → Bool) : Nat → Nat → Nat
  | 0, lo => if p lo then 1 else 0
  | k + 1, lo => cntH p k lo + cntH p k (lo + 2 ^ k)
theorem cntH_eq (p : Nat → Bool) : ∀ k lo, cntH p k lo = fb_ct (fun j => p (lo + j)) (2 ^ k)
  | 0, lo => by
    show (if p lo then 1 else 0) = fb_ct (fun j => p (lo + j)) 1
    rw [fb_ct_succ]
    show _ = 0 + _
    rw [Nat.zero_add, Nat.add_zero]
  | k + 1, lo => by
    rw [cntH, cntH_eq p k, cntH_eq p k, show 2 ^ (k + 1) = 2 ^ k + 2 ^ k by rw [Nat.pow_succ]; omega, fb_ct_split]
    congr 1
    refine fb_ct_cong (fun j _ => ?_)
    rw [Nat.add_assoc]
def turnF (M s t : Nat) : Nat := (s * 2 ^ t ||| s / 2 ^ (M - t)) &&& (2 ^ M - 1)
def isFf (M s : Nat) : Bool := allB (fun t => Nat.ble s (turnF M s t)) M && allB (fun t => Nat.ble s (turnF M (img M s M) t)) M
theorem allB_iff {p : Nat → Bool} {n : Nat} : allB p n = true ↔ ∀ k, k < n → p k = true := by
  constructor
  · exact allB_spec
  · intro h
    induction n with
    | zero => rfl
    | succ n ih => rw [allB, h n (by omega), ih (fun k hk => h k (by omega))]; rfl
theorem isFf_eq {M x : Nat} (hM : inM M) (hx : x < 2 ^ M) : isFf M x = isF M x := by
  have h5 := hM.1
  rw [Bool.eq_iff_iff, isF_iff hM hx, isFf, Bool.and_eq_true, allB_iff, allB_iff]
  simp only [Nat.ble_eq]
  constructor
  · rintro ⟨h1, h2⟩ k hk
    rcases Nat.lt_or_ge k M with q | q
    · have := h1 k q
      rw [turnF, turn_nat q hx] at this
      exact this
    · have := h2 (k - M) (by omega)
      rw [turnF, turn_nat (by omega) (img_lt (by omega)), img_mir hM (by omega), show M + (k - M) = k by omega] at this
      exact this
  · intro h
    refine ⟨fun t ht => ?_, fun t ht => ?_⟩
    · rw [turnF, turn_nat ht hx]; exact h t (by omega)
    · rw [turnF, turn_nat ht (img_lt (by omega)), img_mir hM ht]; exact h (M + t) (by omega)
set_option maxRecDepth 100000 in
theorem nf_0 : ringB (fun M => Nat.ble (cntH (isFf M) M 0) 224) = true := by decide +kernel
theorem nfT_le {M : Nat} (hM : inM M) : nfT M ≤ 224 := by
  have h := Nat.le_of_ble_eq_true (ringB_spec nf_0 hM)
  rw [cntH_eq] at h
  have e : fb_ct (fun j => isFf M (0 + j)) (2 ^ M) = nfT M := fb_ct_cong (fun j hj => by rw [Nat.zero_add, isFf_eq hM hj])
  omega
theorem nf_mono {M x y : Nat} (h : x ≤ y) : nf M x ≤ nf M y := fb_ct_mono _ h
theorem nf_lt {M x : Nat} (hx : x < 2 ^ M) (h : isF M x = true) : nf M x < nfT M := by
  have : nf M (x + 1) ≤ nfT M := nf_mono (by omega)
  unfold nf at *
  rw [fb_ct_succ, if_pos h] at this
  omega
theorem nf_inj {M x y : Nat} (hx : isF M x = true) (hy : isF M y = true) (e : nf M x = nf M y) : x = y := fb_ct_kth_one hx hy e
def FA (A : Nat → Int32) (M x : Nat) : Prop := ∀ f, f < x → isF M f = true → A (nf M f) = nI f
theorem FA_at {A : Nat → Int32} {M i : Nat} (h : FA A M (2 ^ M)) (hi : i < nfT M) : ∃ f, f < 2 ^ M ∧ isF M f = true ∧ nf M f = i ∧ A i = nI f := by
  obtain ⟨f, h1, h2, h3⟩ := fb_ct_kth hi
  refine ⟨f, h1, h2, h3, ?_⟩
  rw [← h f h1 h2]
  unfold nf
  rw [h3]
/-- a sum over the row of forms is one over the sets -/
theorem sm_re {p : Nat → Bool} {q : Nat → Nat} {G : Nat → Nat} : ∀ {x : Nat}, (∀ f, f < x → p f = true → q (fb_ct p f) = G f) → fb_sm q (fb_ct p x) = fb_sm (fun f => if p f = true then G f else 0) x
  | 0, _ => rfl
  | x + 1, h => by
    have ih := sm_re (x := x) (fun f hf => h f (by omega))
    rw [fb_sm_succ, ← ih, fb_ct_succ]
    by_cases c : p x = true
    · rw [if_pos c, if_pos c, fb_sm_succ, h x (by omega) c]
    · rw [if_neg c, if_neg c, Nat.add_zero, Nat.add_zero]
theorem md_isForm4 {w : Nat → Int32} {M s fu : Nat} (hM : inM M) (hw : w 0 = nI M) (hs : s < 2 ^ M) (hfu : 30 < fu) : ∀ k h n, h + k = 2 * M → k < n → m_Md_isForm_L4 fu w (nI s) n (if allB (fun j => Nat.ble s (img M s j)) h = true then 1 else 0) (nI h) = some (if isF M s = true then 1 else 0)
  | 0, h, n, e, hn => by
    obtain ⟨n, rfl⟩ : ∃ m, n = m + 1 := ⟨n - 1, by omega⟩
    have h5 := hM.1; have h12 := hM.2
    rw [m_Md_isForm_L4, md_m hw, bd1_s, show (2 : Int32) = nI 2 from rfl, pk_mul, ile (by omega) (by omega), if_pos (by omega)]
    have : allB (fun j => Nat.ble s (img M s j)) h = isF M s := by
      rw [Bool.eq_iff_iff, isF_iff hM hs, allB_iff]
      simp only [Nat.ble_eq]
      rw [show h = 2 * M by omega]
    rw [this]
  | k + 1, h, n, e, hn => by
    obtain ⟨n, rfl⟩ : ∃ m, n = m + 1 := ⟨n - 1, by omega⟩
    have h5 := hM.1; have h12 := hM.2
    have hp := p2_le h12
    have ih := md_isForm4 hM hw hs hfu k (h + 1) n (by omega) (by omega)
    have p1 := img_lt (M := M) (s := s) (k := h) (by omega)
    rw [m_Md_isForm_L4, md_m hw, bd1_s, show (2 : Int32) = nI 2 from rfl, pk_mul, ile (by omega) (by omega), if_neg (by omega)]
    by_cases c : allB (fun j => Nat.ble s (img M s j)) h = true
    · rw [if_neg (fun q => by rw [bi_s, c] at q; cases q), md_image_s hM hw hs (by omega) (by omega), bd1_s, ilt (by omega) (by omega)]
      rw [allB, c, Bool.and_true] at ih
      simp only [Nat.ble_eq] at ih
      rw [← ih, nI_1]
      by_cases q : s ≤ img M s h
      · rw [if_neg (by omega), if_pos q, bd1_s, lt_eq, lt_eq]
      · rw [if_pos (by omega), if_neg q, bd1_s, lt_eq, lt_eq]
    · rw [if_pos (by rw [bi_s]; exact Bool.eq_false_iff.mpr c), if_neg c]
      have hz : isF M s = false := by
        rw [Bool.eq_false_iff]
        intro q
        rw [isF_iff hM hs] at q
        exact c (allB_iff.mpr (fun j hj => by rw [Nat.ble_eq]; exact q j (by omega)))
      rw [hz]
      rfl
theorem md_isForm_s {w : Nat → Int32} {M s fu : Nat} (hM : inM M) (hw : w 0 = nI M) (hs : s < 2 ^ M) (hfu : 30 < fu) : m_Md_isForm fu w (nI s) = some (if isF M s = true then 1 else 0) := by
  have h5 := hM.1; have h12 := hM.2
  have h := md_isForm4 hM hw hs hfu (2 * M) 0 fu (by omega) (by omega)
  unfold m_Md_isForm
  rw [lt_eq, lt_eq]
  have h : m_Md_isForm_L4 fu w (nI s) fu 1 0 = some (if isF M s = true then 1 else 0) := h
  rw [h, bd1_s]
  cases isF M s <;> rfl
def FIm (many ring : Int32) (forms : Nat → Int32) : Prop := ring = 0 ∨ ∃ M, inM M ∧ ring = nI M ∧ many = nI (nfT M) ∧ FA forms M (2 ^ M)
theorem FA_up {A : Nat → Int32} {M x : Nat} (h : FA A M x) (hx : isF M x = true) : FA (upd A (nf M x) (nI x)) M (x + 1) := by
  intro f hf hF
  by_cases e : f = x
  · subst e
    exact pk_us
  · rw [pk_un (fun q => e (nf_inj hF hx q))]
    exact h f (by omega) hF
theorem md_lay_s {w : Nat → Int32} {M fu : Nat} {many ring : Int32} {forms : Nat → Int32} (hM : inM M) (hw : w 0 = nI M) (hfu : 5000 < fu) (hI : FIm many ring forms) : ∃ forms', m_Md_layForms fu many ring forms w = some (nI (nfT M), nI M, forms') ∧ FA forms' M (2 ^ M) := by
  have h5 := hM.1; have h12 := hM.2
  have hp := p2_le h12
  have hT := nfT_le hM
  unfold m_Md_layForms
  simp only [md_m hw, bd1_s]
  by_cases c : ring = nI M
  · rw [if_pos c]
    rcases hI with rfl | ⟨M', hM', rfl, rfl, hA⟩
    · exact absurd c.symm (nI_ne0 (by omega) (by omega))
    · obtain rfl : M' = M := (nI_eq (by have := hM'.2; omega) (by omega)).mp c
      exact ⟨forms, rfl, hA⟩
  · rw [if_neg c, lt_eq, lt_eq, lt_eq]
    obtain ⟨⟨c', A⟩, n', ⟨hc, hA⟩, e⟩ := up_go (F := fun n i (c : Int32 × (Nat → Int32)) => m_Md_layForms_L27 fu w n (nI i) c.1 c.2) (2 ^ M) (fun i c => c.1 = nI (nf M i) ∧ FA c.2 M i)
      (by
        rintro n i ⟨c, A⟩ hi ⟨rfl, hA⟩
        have hn : nf M i ≤ nfT M := nf_mono (by omega)
        refine ⟨(nI (nf M (i + 1)), if isF M i = true then upd A (nf M i) (nI i) else A), ⟨rfl, ?_⟩, ?_⟩
        · by_cases q : isF M i = true
          · show FA (if isF M i = true then upd A (nf M i) (nI i) else A) M (i + 1)
            rw [if_pos q]; exact FA_up hA q
          · show FA (if isF M i = true then upd A (nf M i) (nI i) else A) M (i + 1)
            rw [if_neg q]
            intro f hf hF
            by_cases e : f = i
            · subst e; exact absurd hF q
            · exact hA f (by omega) hF
        · show m_Md_layForms_L27 fu w (n + 1) (nI i) (nI (nf M i)) A = m_Md_layForms_L27 fu w n (nI (i + 1)) (nI (nf M (i + 1))) (if isF M i = true then upd A (nf M i) (nI i) else A)
          rw [m_Md_layForms_L27, md_m hw, bd1_s, p2_s h12, ile (by omega) (by omega), if_neg (by omega), md_isForm_s hM hw hi (by omega), bd1_s]
          have es : nf M (i + 1) = nf M i + if isF M i = true then 1 else 0 := fb_ct_succ _ _
          by_cases q : isF M i = true
          · have hlt := nf_lt hi q
            rw [if_pos q, if_neg (by decide), show (400 : Int32) = nI 400 from rfl, ile (by omega) (by omega), if_neg (by omega), ck_s (by omega) (by omega), lt_eq, lt_eq, bd2_s, lt_eq, cl_s (by omega), nI_1, nI_1, es, if_pos q, if_pos q]
          · rw [if_neg q, if_pos rfl, bd2_s, lt_eq, nI_1, es, if_neg q, if_neg q]
            rfl)
      (2 ^ M) fu 0 (0, forms) (by omega) (by omega) ⟨rfl, fun f hf => absurd hf (Nat.not_lt_zero f)⟩
    have e : m_Md_layForms_L27 fu w fu 0 0 forms = m_Md_layForms_L27 fu w (n' + 1) (nI (2 ^ M)) c' A := e
    rw [e, m_Md_layForms_L27, md_m hw, bd1_s, p2_s h12, ile (by omega) (by omega), if_pos (by omega), bd2_s]
    obtain rfl : c' = nI (nf M (2 ^ M)) := hc
    exact ⟨A, rfl, hA⟩
/-! how many forms of k tones -/
def isK (M k x : Nat) : Bool := isF M x && decide (pop M x = k)
def nk (M k x : Nat) : Nat := fb_ct (isK M k) x
def nkT (M k : Nat) : Nat := nk M k (2 ^ M)
theorem nk_sm (M k x : Nat) : nk M k x = fb_sm (fun f => if isF M f = true then (if pop M f = k then 1 else 0) else 0) x := by
  unfold nk
  rw [ct_sm]
  refine fb_sm_cong (fun f _ => ?_)
  unfold isK
  by_cases c : isF M f = true
  · rw [c, Bool.true_and, if_pos rfl]
    by_cases q : pop M f = k <;> simp [q]
  · rw [if_neg c, Bool.not_eq_true] at *
    rw [c]; simp
theorem nk_le (M k x : Nat) : nk M k x ≤ nf M x := by
  unfold nk nf
  exact fb_ct_sub (fun f _ h => by unfold isK at h; rw [Bool.and_eq_true] at h; exact h.1)
/-- what the i-th place of the reference's row adds to such a count -/
def qk (A : Nat → Int32) (M k i : Nat) : Nat := if pop M (A i).toNatClampNeg = k then 1 else 0
theorem qk_re {A : Nat → Int32} {M k : Nat} (hM : inM M) (hA : FA A M (2 ^ M)) {x : Nat} (hx : x ≤ 2 ^ M) : fb_sm (qk A M k) (nf M x) = nk M k x := by
  have hp := p2_le hM.2
  rw [nk_sm, nf, sm_re (G := fun f => if pop M f = k then 1 else 0)]
  intro f hf hF
  unfold qk
  have := hA f (by omega) hF
  unfold nf at this
  rw [this, cl_s (by omega)]
theorem md_formsOf_s {w : Nat → Int32} {M fu k : Nat} {many ring : Int32} {forms : Nat → Int32} (hM : inM M) (hw : w 0 = nI M) (hfu : 5000 < fu) (hk : k ≤ 12) (hI : FIm many ring forms) : ∃ forms', m_Md_formsOf fu many ring forms w (nI k) = some (nI (nkT M k), nI (nfT M), nI M, forms') ∧ FA forms' M (2 ^ M) := by
  have h5 := hM.1; have h12 := hM.2
  have hp := p2_le h12
  have hT := nfT_le hM
  obtain ⟨A, e0, hA⟩ := md_lay_s hM hw hfu hI
  refine ⟨A, ?_, hA⟩
  unfold m_Md_formsOf
  rw [e0, bd3_s, lt_eq, lt_eq]
  obtain ⟨c', n', hc, e⟩ := up_go (F := fun n i (c : Int32) => m_Md_formsOf_L8 fu (nI (nfT M)) A (nI k) n c (nI i)) (nfT M) (fun i c' => c' = nI (fb_sm (qk A M k) i))
    (by
      rintro n i c' hi rfl
      refine ⟨_, rfl, ?_⟩
      obtain ⟨f, hf, hF, -, ef⟩ := FA_at hA hi
      show m_Md_formsOf_L8 fu (nI (nfT M)) A (nI k) (n + 1) _ (nI i) = _
      have hpl := pop_le M f
      rw [m_Md_formsOf_L8, ile (by omega) (by omega), if_neg (by omega), ck_s (by omega) (by omega), cl_s (by omega), ef, md_ones_s h12 hf (by omega), bd1_s, ieq (by omega) (by omega), fb_sm_succ, qk, ef, cl_s (by omega)]
      by_cases q : pop M f = k
      · rw [if_pos q, if_pos q, bd1_s, lt_eq, lt_eq, nI_1, nI_1]
      · rw [if_neg q, if_neg q, bd1_s, lt_eq, lt_eq, show (0 : Int32) = nI 0 from rfl, nI_add, nI_1])
    (nfT M) fu 0 0 (by omega) (by omega) rfl
  have e : m_Md_formsOf_L8 fu (nI (nfT M)) A (nI k) fu 0 0 = m_Md_formsOf_L8 fu (nI (nfT M)) A (nI k) (n' + 1) c' (nI (nfT M)) := e
  rw [e, m_Md_formsOf_L8, ile (by omega) (by omega), if_pos (by omega), bd1_s, hc]
  have := qk_re (k := k) hM hA (Nat.le_refl (2 ^ M))
  rw [show nfT M = nf M (2 ^ M) from rfl, this]
  rfl
