/-! the class: forms sorted by their tones -/
def Sk (M k : Nat) : Nat := fb_sm (nkT M) k
theorem Sk_succ (M k : Nat) : Sk M (k + 1) = Sk M k + nkT M k := fb_sm_succ _ _
theorem Sk_13 {M : Nat} (hM : inM M) : Sk M 13 = nfT M := by
  unfold Sk
  have e : fb_sm (nkT M) 13 = fb_sm (fun k => fb_sm (fun f => if isF M f = true then (if pop M f = k then 1 else 0) else 0) (2 ^ M)) 13 := fb_sm_cong (fun k _ => nk_sm M k (2 ^ M))
  rw [e, sm_swap]
  unfold nfT nf
  rw [ct_sm]
  refine fb_sm_cong (fun f _ => ?_)
  by_cases c : isF M f = true
  · rw [if_pos c]
    have e2 : fb_sm (fun j => if isF M f = true then (if pop M f = j then 1 else 0) else 0) 13 = fb_sm (fun j => if pop M f = j then (fun _ => 1) j else 0) 13 := fb_sm_cong (fun j _ => if_pos c)
    rw [e2, sm_one (by have := pop_le M f; have := hM.2; omega)]
  · rw [if_neg c]
    have e2 : fb_sm (fun j => if isF M f = true then (if pop M f = j then 1 else 0) else 0) 13 = fb_sm (fun _ => 0) 13 := fb_sm_cong (fun j _ => if_neg c)
    rw [e2, fb_sm_const]
theorem Sk_mono {M i j : Nat} (h : i ≤ j) : Sk M i ≤ Sk M j := by
  obtain ⟨d, rfl⟩ : ∃ d, j = i + d := ⟨j - i, by omega⟩
  exact fb_sm_mono _ _ _
theorem Sk_le {M k : Nat} (hM : inM M) (hk : k ≤ 13) : Sk M k ≤ nfT M := by
  rw [← Sk_13 hM]; exact Sk_mono hk
def posF (M f : Nat) : Nat := Sk M (pop M f) + nk M (pop M f) f
theorem nk_ltT {M f : Nat} (hf : f < 2 ^ M) (hF : isF M f = true) : nk M (pop M f) f < nkT M (pop M f) := nk_lt (isK_of hF rfl) hf
theorem pos_lt {M f : Nat} (hM : inM M) (hf : f < 2 ^ M) (hF : isF M f = true) : posF M f < Sk M (pop M f + 1) ∧ posF M f < nfT M := by
  have h1 := nk_ltT hf hF
  have h2 := Sk_succ M (pop M f)
  have h3 : Sk M (pop M f + 1) ≤ nfT M := Sk_le hM (by have := pop_le M f; have := hM.2; omega)
  unfold posF
  omega
theorem pos_ne {M f g : Nat} (hM : inM M) (hf : f < 2 ^ M) (hg : g < 2 ^ M) (hF : isF M f = true) (hG : isF M g = true) (h : ¬ f = g) : ¬ posF M f = posF M g := by
  intro e
  have h1 := (pos_lt hM hf hF).1
  have h2 := (pos_lt hM hg hG).1
  rcases Nat.lt_trichotomy (pop M f) (pop M g) with q | q | q
  · have : Sk M (pop M f + 1) ≤ Sk M (pop M g) := Sk_mono q
    unfold posF at *; omega
  · unfold posF at e
    rw [q] at e
    exact h (nk_inj (isK_of hF q) (isK_of hG rfl) (by omega))
  · have : Sk M (pop M g + 1) ≤ Sk M (pop M f) := Sk_mono q
    unfold posF at *; omega
def placed (so ro : Nat → Int32) (M f : Nat) : Prop := so (posF M f) = nI f ∧ ro (posF M f) = nI (rowN M f (M / 2))
theorem qk_le {A : Nat → Int32} {M k i : Nat} (hM : inM M) (hA : FA A M (2 ^ M)) (hi : i ≤ nfT M) : fb_sm (qk A M k) i ≤ nkT M k := by
  have h := qk_re (k := k) hM hA (Nat.le_refl (2 ^ M))
  have h2 := fb_sm_mono (qk A M k) i (nfT M - i)
  rw [show i + (nfT M - i) = nf M (2 ^ M) by unfold nfT at *; omega, h] at h2
  exact h2
theorem sort20 {M fu k : Nat} {A : Nat → Int32} (hM : inM M) (hfu : 300 < fu) (hA : FA A M (2 ^ M)) (hk : k ≤ 12) : ∀ (d i n : Nat) (so ro : Nat → Int32), i + d = nfT M → d < n → (∀ f, f < 2 ^ M → isF M f = true → (pop M f < k ∨ (pop M f = k ∧ nf M f < i)) → placed so ro M f) → ∃ so' ro', m_Forms_sortByTones_L20 fu (nI (nfT M)) A (nI k) (nI M) n (nI (Sk M k + fb_sm (qk A M k) i)) (nI i) ro so = some (nI (Sk M (k + 1)), ro', so') ∧ ∀ f, f < 2 ^ M → isF M f = true → pop M f < k + 1 → placed so' ro' M f
  | 0, i, n, so, ro, e, hn, hI => by
    obtain ⟨n, rfl⟩ : ∃ m, n = m + 1 := ⟨n - 1, by omega⟩
    have h12 := hM.2
    have hT := nfT_le hM
    have h := qk_re (k := k) hM hA (Nat.le_refl (2 ^ M))
    obtain rfl : i = nfT M := by omega
    refine ⟨so, ro, ?_, ?_⟩
    · rw [m_Forms_sortByTones_L20, ile (by omega) (by omega), if_pos (by omega), Sk_succ, show nfT M = nf M (2 ^ M) from rfl, h]
      rfl
    · intro f hf hF hp
      exact hI f hf hF (by
        rcases Nat.lt_or_ge (pop M f) k with q | q
        · exact Or.inl q
        · exact Or.inr ⟨by omega, nf_lt hf hF⟩)
  | d + 1, i, n, so, ro, e, hn, hI => by
    obtain ⟨n, rfl⟩ : ∃ m, n = m + 1 := ⟨n - 1, by omega⟩
    have h5 := hM.1; have h12 := hM.2
    have hp := p2_le h12
    have hT := nfT_le hM
    have hS := Sk_le (k := k + 1) hM (by omega)
    have hq := qk_le (k := k) hM hA (show i ≤ nfT M by omega)
    have hs := Sk_succ M k
    rw [m_Forms_sortByTones_L20, ile (by omega) (by omega), if_neg (by omega), show (224 : Int32) = nI 224 from rfl, ile (by omega) (by omega)]
    by_cases c : 224 ≤ Sk M k + fb_sm (qk A M k) i
    · rw [if_pos c]
      have ee : Sk M k + fb_sm (qk A M k) i = Sk M (k + 1) := by omega
      refine ⟨so, ro, by rw [ee], ?_⟩
      intro f hf hF hpf
      refine hI f hf hF ?_
      rcases Nat.lt_or_ge (pop M f) k with q | q
      · exact Or.inl q
      · have hpk : pop M f = k := by omega
        refine Or.inr ⟨hpk, ?_⟩
        rcases Nat.lt_or_ge (nf M f) i with z | z
        · exact z
        · have h1 := nk_ltT hf hF
          rw [hpk] at h1
          have h2 := qk_re (k := k) hM hA (show f ≤ 2 ^ M by omega)
          have h3 := fb_sm_mono (qk A M k) i (nf M f - i)
          rw [show i + (nf M f - i) = nf M f by omega, h2] at h3
          omega
    · rw [if_neg c]
      obtain ⟨f, hf, hF, hfi, ef⟩ := FA_at hA (show i < nfT M by omega)
      have hpl := pop_le M f
      have hre := qk_re (k := k) hM hA (show f ≤ 2 ^ M by omega)
      rw [hfi] at hre
      have hrow := rowN_lt (s := f) hM (M / 2) (by omega)
      have hh6 := h6 (h := M / 2) h12 (by omega)
      rw [ck_s (by omega) (by omega), cl_s (by omega), ef, bc_s h12 hf, bd1_s, ieq (by omega) (by omega)]
      by_cases q : pop M f = k
      · have hpos : Sk M k + fb_sm (qk A M k) i = posF M f := by unfold posF; rw [q, hre]
        obtain ⟨so', ro', e1, h1⟩ := sort20 hM hfu hA hk d (i + 1) n (upd so (posF M f) (nI f)) (upd ro (posF M f) (nI (rowN M f (M / 2)))) (by omega) (by omega) (by
          intro g hg hG hpg
          by_cases z : g = f
          · subst z
            exact ⟨pk_us, pk_us⟩
          · have hne := pos_ne hM hg hf hG hF z
            have := hI g hg hG (by
              rcases hpg with y | ⟨y1, y2⟩
              · exact Or.inl y
              · refine Or.inr ⟨y1, ?_⟩
                rcases Nat.lt_or_ge (nf M g) i with x | x
                · exact x
                · exact absurd (nf_inj hG hF (by omega)) z)
            exact ⟨by rw [pk_un hne]; exact this.1, by rw [pk_un hne]; exact this.2⟩)
        refine ⟨so', ro', ?_, h1⟩
        rw [fb_sm_succ, qk, ef, cl_s (by omega), if_pos q, ← Nat.add_assoc, hpos] at e1
        rw [hpos] at c ⊢
        rw [if_pos q, ck_s (by omega) (by omega), ck_s (by omega) (by omega), lt_eq, ck_s (by omega) (by omega), row_s hM hf (by omega), bd1_s, ck_s (by omega) (by omega), lt_eq, lt_eq, bd3_s, lt_eq, cl_s (by omega), nI_1, nI_1]
        exact e1
      · obtain ⟨so', ro', e1, h1⟩ := sort20 hM hfu hA hk d (i + 1) n so ro (by omega) (by omega) (by
          intro g hg hG hpg
          refine hI g hg hG ?_
          rcases hpg with y | ⟨y1, y2⟩
          · exact Or.inl y
          · refine Or.inr ⟨y1, ?_⟩
            rcases Nat.lt_or_ge (nf M g) i with x | x
            · exact x
            · have := nf_inj hG hF (by omega)
              subst this
              exact absurd y1 q)
        refine ⟨so', ro', ?_, h1⟩
        rw [fb_sm_succ, qk, ef, cl_s (by omega), if_neg q, Nat.add_zero] at e1
        rw [if_neg q, bd3_s, lt_eq, nI_1]
        exact e1
def SAf (so ro st : Nat → Int32) (M : Nat) : Prop := (∀ f, f < 2 ^ M → isF M f = true → placed so ro M f) ∧ ∀ j, j ≤ 13 → st j = nI (Sk M j)
theorem sort_s {M fu : Nat} {A ro so st : Nat → Int32} (hM : inM M) (hfu : 300 < fu) (hA : FA A M (2 ^ M)) : ∃ ro' so' st', m_Forms_sortByTones fu (nI (nfT M)) A ro so st (nI M) = some (ro', so', st') ∧ SAf so' ro' st' M := by
  have h5 := hM.1; have h12 := hM.2
  have hp := p2_le h12
  have hT := nfT_le hM
  unfold m_Forms_sortByTones
  rw [lt_eq, lt_eq]
  obtain ⟨⟨c, ro1, so1, st1⟩, n', ⟨hc, hpl, hst⟩, e⟩ := up_go (F := fun n i (c : Int32 × (Nat → Int32) × (Nat → Int32) × (Nat → Int32)) => m_Forms_sortByTones_L4 fu (nI (nfT M)) A (nI M) n c.1 (nI i) c.2.1 c.2.2.1 c.2.2.2) 13 (fun i c => c.1 = nI (Sk M i) ∧ (∀ f, f < 2 ^ M → isF M f = true → pop M f < i → placed c.2.2.1 c.2.1 M f) ∧ ∀ j, j < i → c.2.2.2 j = nI (Sk M j))
    (by
      rintro n i ⟨c, ro1, so1, st1⟩ hi ⟨rfl, hpl, hst⟩
      have hpl : ∀ f, f < 2 ^ M → isF M f = true → pop M f < i → placed so1 ro1 M f := hpl
      have hst : ∀ j, j < i → st1 j = nI (Sk M j) := hst
      obtain ⟨so2, ro2, e1, h1⟩ := sort20 (k := i) hM hfu hA (by omega) (nfT M) 0 fu so1 ro1 (by omega) (by omega) (fun f hf hF h => hpl f hf hF (by
        rcases h with h | ⟨_, h⟩
        · exact h
        · exact absurd h (Nat.not_lt_zero _)))
      refine ⟨(nI (Sk M (i + 1)), ro2, so2, upd st1 i (nI (Sk M i))), ⟨rfl, h1, ?_⟩, ?_⟩
      · intro j hj
        show upd st1 i (nI (Sk M i)) j = _
        by_cases q : j = i
        · subst q; exact pk_us
        · rw [pk_un q]; exact hst j (by omega)
      · show m_Forms_sortByTones_L4 fu (nI (nfT M)) A (nI M) (n + 1) (nI (Sk M i)) (nI i) ro1 so1 st1 = _
        have e1 : m_Forms_sortByTones_L20 fu (nI (nfT M)) A (nI i) (nI M) fu (nI (Sk M i)) 0 ro1 so1 = some (nI (Sk M (i + 1)), ro2, so2) := e1
        rw [m_Forms_sortByTones_L4, show (12 : Int32) = nI 12 from rfl, ilt (by omega) (by omega), if_neg (by omega), ck_s (by omega) (by omega), lt_eq, lt_eq, cl_s (by omega), e1, bd3_s, lt_eq, nI_1])
    13 fu 0 (0, ro, so, st) (by omega) (by omega) ⟨rfl, fun f _ _ h => absurd h (Nat.not_lt_zero _), fun j h => absurd h (Nat.not_lt_zero _)⟩
  have e : m_Forms_sortByTones_L4 fu (nI (nfT M)) A (nI M) fu 0 0 ro so st = m_Forms_sortByTones_L4 fu (nI (nfT M)) A (nI M) (n' + 1) c (nI 13) ro1 so1 st1 := e
  obtain rfl : c = nI (Sk M 13) := hc
  refine ⟨ro1, so1, upd st1 13 (nI (Sk M 13)), ?_, ?_, ?_⟩
  · rw [e, m_Forms_sortByTones_L4, show (12 : Int32) = nI 12 from rfl, ilt (by omega) (by omega), if_pos (by omega), bd4_s, show (13 : Int32) = nI 13 from rfl, ck_s (by omega) (by omega), lt_eq, cl_s (by omega)]
  · intro f hf hF
    exact hpl f hf hF (by have := pop_le M f; omega)
  · intro j hj
    by_cases q : j = 13
    · subst q; exact pk_us
    · rw [pk_un q]; exact hst j (by omega)
def FIx (all built : Int32) (ro so st : Nat → Int32) : Prop := built = 0 ∨ ∃ M, inM M ∧ built = nI M ∧ all = nI (nfT M) ∧ SAf so ro st M
theorem build_s {M fu : Nat} {all built : Int32} {ri ro bi so st : Nat → Int32} (hM : inM M) (hfu : 5000 < fu) (hI : FIx all built ro so st) : ∃ ri' ro' bi' so' st', m_Forms_build fu all built ri ro bi so st (nI M) = some (nI (nfT M), nI M, ri', ro', bi', so', st') ∧ SAf so' ro' st' M := by
  have h5 := hM.1; have h12 := hM.2
  unfold m_Forms_build
  by_cases c : built = nI M
  · rw [if_pos c]
    rcases hI with rfl | ⟨M', hM', rfl, rfl, hA⟩
    · exact absurd c.symm (nI_ne0 (by omega) (by omega))
    · obtain rfl : M' = M := (nI_eq (by have := hM'.2; omega) (by omega)).mp c
      exact ⟨ri, ro, bi, so, st, rfl, hA⟩
  · obtain ⟨ri', bi', e1, hA⟩ := rising_s (all := all) (rising := ri) (bits := bi) hM hfu
    obtain ⟨ro', so', st', e2, hS⟩ := sort_s (ro := ro) (so := so) (st := st) hM (show 300 < fu by omega) hA
    refine ⟨ri', ro', bi', so', st', ?_, hS⟩
    rw [if_neg c, lt_eq, e1, bd3_s, e2, bd3_s]
theorem FIx_of {M : Nat} {ro so st : Nat → Int32} (hM : inM M) (h : SAf so ro st M) : FIx (nI (nfT M)) (nI M) ro so st := Or.inr ⟨M, hM, rfl, rfl, h⟩
theorem start_s {M k : Nat} {so ro st : Nat → Int32} (hA : SAf so ro st M) (hk : k ≤ 12) : m_Forms_start st (nI k) = some (nI (Sk M k)) := by
  unfold m_Forms_start
  rw [if_neg (nI_pos (by omega)), show (12 : Int32) = nI 12 from rfl, ilt (by omega) (by omega), if_neg (by omega), ck_s (by omega) (by omega), cl_s (by omega), hA.2 k (by omega)]
theorem end_s {M k : Nat} {so ro st : Nat → Int32} (hA : SAf so ro st M) (hk : k ≤ 12) : m_Forms_end st (nI k) = some (nI (Sk M (k + 1))) := by
  unfold m_Forms_end
  rw [if_neg (nI_pos (by omega)), show (12 : Int32) = nI 12 from rfl, ilt (by omega) (by omega), if_neg (by omega), nI_1, ck_s (by omega) (by omega), cl_s (by omega), hA.2 (k + 1) (by omega)]
theorem count_s {M fu k : Nat} {all built : Int32} {ri ro bi so st : Nat → Int32} (hM : inM M) (hfu : 5000 < fu) (hI : FIx all built ro so st) (hk : k ≤ 12) : ∃ ri' ro' bi' so' st', m_Forms_count fu all built ri ro bi so st (nI k) (nI M) = some (nI (nkT M k), nI (nfT M), nI M, ri', ro', bi', so', st') ∧ SAf so' ro' st' M := by
  obtain ⟨ri', ro', bi', so', st', e, hA⟩ := build_s (ri := ri) (bi := bi) hM hfu hI
  refine ⟨ri', ro', bi', so', st', ?_, hA⟩
  have hs := Sk_succ M k
  unfold m_Forms_count
  rw [e, bd7_s, end_s hA hk, bd1_s, start_s hA hk, bd1_s, pk_sub (by omega), show Sk M (k + 1) - Sk M k = nkT M k by omega]
theorem cform_s {M fu f : Nat} {all built : Int32} {ri ro bi so st : Nat → Int32} (hM : inM M) (hfu : 5000 < fu) (hI : FIx all built ro so st) (hf : f < 2 ^ M) (hF : isF M f = true) : ∃ ri' ro' bi' so' st', m_Forms_form fu all built ri ro bi so st (nI (pop M f)) (nI (nk M (pop M f) f)) (nI M) = some (nI f, nI (nfT M), nI M, ri', ro', bi', so', st') ∧ SAf so' ro' st' M := by
  obtain ⟨ri', ro', bi', so', st', e, hA⟩ := build_s (ri := ri) (bi := bi) hM hfu hI
  refine ⟨ri', ro', bi', so', st', ?_, hA⟩
  have hT := nfT_le hM
  have hpl := pop_le M f
  have h12 := hM.2
  obtain ⟨h1, h2⟩ := pos_lt hM hf hF
  have hnk := nk_ltT hf hF
  have hS := Sk_le (k := pop M f + 1) hM (by omega)
  have hs := Sk_succ M (pop M f)
  unfold m_Forms_form
  rw [e, bd7_s, start_s hA (by omega), bd1_s, lt_eq, if_neg (nI_pos (by omega)), nI_add, end_s hA (by omega), bd1_s, show Sk M (pop M f) + nk M (pop M f) f = posF M f from rfl, ile (by omega) (by omega), if_neg (by omega), ck_s (by omega) (by omega), cl_s (by omega), (hA.1 f hf hF).1]
theorem cnumber_s {M fu f : Nat} {all built : Int32} {ri ro bi so st : Nat → Int32} (hM : inM M) (hfu : 5000 < fu) (hI : FIx all built ro so st) (hf : f < 2 ^ M) (hF : isF M f = true) : ∃ ri' ro' bi' so' st', m_Forms_numberOf fu all built ri ro bi so st (nI f) (nI M) = some (nI (nk M (pop M f) f), nI (nfT M), nI M, ri', ro', bi', so', st') ∧ SAf so' ro' st' M := by
  obtain ⟨ri', ro', bi', so', st', e, hA⟩ := build_s (ri := ri) (bi := bi) hM hfu hI
  refine ⟨ri', ro', bi', so', st', ?_, hA⟩
  have hT := nfT_le hM
  have hpl := pop_le M f
  have h12 := hM.2
  have hp := p2_le h12
  obtain ⟨h1, h2⟩ := pos_lt hM hf hF
  have hnk := nk_ltT hf hF
  have hS := Sk_le (k := pop M f + 1) hM (by omega)
  have hs := Sk_succ M (pop M f)
  unfold m_Forms_numberOf
  rw [e, bd7_s, bc_s h12 hf, bd1_s, lt_eq, start_s hA (by omega), bd1_s, lt_eq]
  obtain ⟨c', n', hc, e1⟩ := up_go (F := fun n i (_ : Unit) => m_Forms_numberOf_L17 st' (nI (pop M f)) (nI (nfT M)) (nI M) ri' ro' bi' so' (nI f) n (nI (Sk M (pop M f) + i))) (nk M (pop M f) f) (fun _ _ => True)
    (by
      rintro n i - hi -
      refine ⟨(), trivial, ?_⟩
      show m_Forms_numberOf_L17 st' (nI (pop M f)) (nI (nfT M)) (nI M) ri' ro' bi' so' (nI f) (n + 1) (nI (Sk M (pop M f) + i)) = _
      obtain ⟨g, hg, hgk, eg⟩ := nk_kth (M := M) (k := pop M f) (i := i) (by unfold nkT at *; omega)
      obtain ⟨hG, hpg⟩ := isK_F hgk
      have hpos : Sk M (pop M f) + i = posF M g := by unfold posF; rw [hpg, eg]
      rw [m_Forms_numberOf_L17, end_s hA (by omega), bd1_s, ile (by omega) (by omega), if_neg (by omega), ck_s (by omega) (by omega), cl_s (by omega), hpos, (hA.1 g hg hG).1, ieq (by omega) (by omega), if_neg (fun q => by subst q; omega), lt_eq, nI_1, ← hpos, Nat.add_assoc])
    (nk M (pop M f) f) fu 0 () (by omega) (by omega) trivial
  have e1 : m_Forms_numberOf_L17 st' (nI (pop M f)) (nI (nfT M)) (nI M) ri' ro' bi' so' (nI f) fu (nI (Sk M (pop M f))) = m_Forms_numberOf_L17 st' (nI (pop M f)) (nI (nfT M)) (nI M) ri' ro' bi' so' (nI f) (n' + 1) (nI (posF M f)) := e1
  rw [e1, m_Forms_numberOf_L17, end_s hA (by omega), bd1_s, ile (by omega) (by omega), if_neg (by omega), ck_s (by omega) (by omega), cl_s (by omega), (hA.1 f hf hF).1, if_pos rfl, start_s hA (by omega), bd1_s, pk_sub (by unfold posF; omega), show posF M f - Sk M (pop M f) = nk M (pop M f) f by unfold posF; omega]
