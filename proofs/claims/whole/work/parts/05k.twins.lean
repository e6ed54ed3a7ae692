/-! the class: twins, and pairs of them -/
theorem likeN_c (M f g : Nat) : likeN M f g = likeN M g f := by
  unfold likeN
  rw [show decide (pop M f = pop M g) = decide (pop M g = pop M f) from decide_eq_decide.mpr ⟨Eq.symm, Eq.symm⟩, show decide (rowN M f (M / 2) = rowN M g (M / 2)) = decide (rowN M g (M / 2) = rowN M f (M / 2)) from decide_eq_decide.mpr ⟨Eq.symm, Eq.symm⟩]
theorem row_small {M s : Nat} (hM : inM M) : rowN M s (M / 2) < 16777216 := by
  have h1 := rowN_lt (s := s) hM (M / 2) (by omega)
  have h2 := h6 (h := M / 2) hM.2 (by omega)
  omega
/-- place i of those of k tones -/
theorem at_k {M k i : Nat} {so ro st : Nat → Int32} (hA : SAf so ro st M) (hi : i < nkT M k) : ∃ g, g < 2 ^ M ∧ isF M g = true ∧ pop M g = k ∧ nk M k g = i ∧ so (Sk M k + i) = nI g ∧ ro (Sk M k + i) = nI (rowN M g (M / 2)) := by
  obtain ⟨g, hg, hgk, eg⟩ := nk_kth hi
  obtain ⟨hG, hpg⟩ := isK_F hgk
  have hpos : Sk M k + i = posF M g := by unfold posF; rw [hpg, eg]
  refine ⟨g, hg, hG, hpg, eg, ?_, ?_⟩
  · rw [hpos]; exact (hA.1 g hg hG).1
  · rw [hpos]; exact (hA.1 g hg hG).2
def twc (M f i : Nat) (so ro : Nat → Int32) : Nat := if ro (Sk M (pop M f) + i) = nI (rowN M f (M / 2)) then (if so (Sk M (pop M f) + i) = nI f then 0 else 1) else 0
theorem twc_sum {M f : Nat} {so ro st : Nat → Int32} (hM : inM M) (hA : SAf so ro st M) (hf : f < 2 ^ M) : fb_sm (fun i => twc M f i so ro) (nkT M (pop M f)) = twN M f := by
  have hp := p2_le hM.2
  unfold nkT nk
  rw [sm_re (p := isK M (pop M f)) (G := fun g => if rowN M g (M / 2) = rowN M f (M / 2) then (if g = f then 0 else 1) else 0)]
  · unfold twN
    refine fb_sm_cong (fun g hg => ?_)
    by_cases c : isF M g = true
    · rw [if_pos c]
      unfold twq likeN
      by_cases c2 : pop M g = pop M f
      · rw [if_pos (isK_of c c2), decide_eq_true c2, Bool.true_and]
        by_cases c3 : rowN M g (M / 2) = rowN M f (M / 2)
        · rw [if_pos c3, decide_eq_true c3, if_pos rfl]
        · rw [if_neg c3, decide_eq_false c3]
          split <;> rfl
      · rw [if_neg (fun q => c2 (isK_F q).2)]
        by_cases c3 : g = f
        · subst c3; exact absurd rfl c2
        · rw [if_neg c3, decide_eq_false c2, Bool.false_and, if_neg (by decide)]
    · rw [if_neg c, if_neg (fun q => c (isK_F q).1)]
  · intro g hg hgk
    obtain ⟨hG, hpg⟩ := isK_F hgk
    have hpos : Sk M (pop M f) + fb_ct (isK M (pop M f)) g = posF M g := by unfold posF nk; rw [hpg]
    have r1 := row_small (s := g) hM
    have r2 := row_small (s := f) hM
    unfold twc
    rw [hpos, (hA.1 g hg hG).1, (hA.1 g hg hG).2, ieq (by omega) (by omega), ieq (by omega) (by omega)]
theorem ctwins_s {M fu f : Nat} {all built : Int32} {ri ro bi so st : Nat → Int32} (hM : inM M) (hfu : 5000 < fu) (hI : FIx all built ro so st) (hf : f < 2 ^ M) : ∃ ri' ro' bi' so' st', m_Forms_countTwins fu all built ri ro bi so st (nI f) (nI M) = some (nI (twN M f), nI (nfT M), nI M, ri', ro', bi', so', st') ∧ SAf so' ro' st' M := by
  obtain ⟨ri', ro', bi', so', st', e, hA⟩ := build_s (ri := ri) (bi := bi) hM hfu hI
  refine ⟨ri', ro', bi', so', st', ?_, hA⟩
  have hT := nfT_le hM
  have hpl := pop_le M f
  have h12 := hM.2
  have hp := p2_le h12
  have hS := Sk_le (k := pop M f + 1) hM (by omega)
  have hs := Sk_succ M (pop M f)
  unfold m_Forms_countTwins
  rw [e, bd7_s, bc_s h12 hf, bd1_s, lt_eq, row_s hM hf (by omega), bd1_s, lt_eq, lt_eq, start_s hA (by omega), bd1_s, lt_eq]
  obtain ⟨c', n', hc, e1⟩ := up_go (F := fun n i (c : Int32) => m_Forms_countTwins_L27 st' (nI (pop M f)) ro' (nI (rowN M f (M / 2))) so' (nI f) n c (nI (Sk M (pop M f) + i))) (nkT M (pop M f)) (fun i c => c = nI (fb_sm (fun i => twc M f i so' ro') i))
    (by
      rintro n i c hi rfl
      refine ⟨_, rfl, ?_⟩
      show m_Forms_countTwins_L27 st' (nI (pop M f)) ro' (nI (rowN M f (M / 2))) so' (nI f) (n + 1) _ (nI (Sk M (pop M f) + i)) = _
      rw [m_Forms_countTwins_L27, end_s hA (by omega), bd1_s, ile (by omega) (by omega), if_neg (by omega), ck_s (by omega) (by omega), ck_s (by omega) (by omega), cl_s (by omega), fb_sm_succ, twc]
      by_cases q1 : ro' (Sk M (pop M f) + i) = nI (rowN M f (M / 2))
      · rw [if_pos q1, if_pos q1]
        by_cases q2 : so' (Sk M (pop M f) + i) = nI f
        · rw [if_pos q2, if_pos q2, bd1_s, lt_eq, nI_1, Nat.add_assoc]
          rfl
        · rw [if_neg q2, if_neg q2, lt_eq, bd1_s, lt_eq, nI_1, nI_1, Nat.add_assoc]
      · rw [if_neg q1, if_neg q1, bd1_s, lt_eq, nI_1, Nat.add_assoc]
        rfl)
    (nkT M (pop M f)) fu 0 0 (by omega) (by omega) rfl
  have e1 : m_Forms_countTwins_L27 st' (nI (pop M f)) ro' (nI (rowN M f (M / 2))) so' (nI f) fu 0 (nI (Sk M (pop M f))) = m_Forms_countTwins_L27 st' (nI (pop M f)) ro' (nI (rowN M f (M / 2))) so' (nI f) (n' + 1) c' (nI (Sk M (pop M f) + nkT M (pop M f))) := e1
  rw [e1, m_Forms_countTwins_L27, end_s hA (by omega), bd1_s, ile (by omega) (by omega), if_pos (by omega), bd1_s, hc, twc_sum hM hA hf]
/-! pairs -/
def bhd (M k i j : Nat) (ro : Nat → Int32) : Nat := if i < j then (if ro (Sk M k + j) = ro (Sk M k + i) then 1 else 0) else 0
theorem bhd_0 {M k i : Nat} {ro : Nat → Int32} : ∀ {j : Nat}, j ≤ i + 1 → fb_sm (fun j => bhd M k i j ro) j = 0
  | 0, _ => rfl
  | j + 1, h => by
    rw [fb_sm_succ, bhd_0 (by omega), bhd, if_neg (by omega)]
theorem behind_s {M k i fu : Nat} {so ro st : Nat → Int32} (hM : inM M) (hk : k ≤ 12) (hfu : 300 < fu) (hA : SAf so ro st M) (hi : i < nkT M k) : m_Forms_countTwinsBehind fu ro (nI (Sk M k + i)) (nI (Sk M (k + 1))) = some (nI (fb_sm (fun j => bhd M k i j ro) (nkT M k))) := by
  have hT := nfT_le hM
  have hS := Sk_le (k := k + 1) hM (by omega)
  have hs := Sk_succ M k
  unfold m_Forms_countTwinsBehind
  rw [ck_s (by omega) (by omega), lt_eq, lt_eq, lt_eq, cl_s (by omega), nI_1]
  obtain ⟨c', n', hc, e1⟩ := up_go (F := fun n j (c : Int32) => m_Forms_countTwinsBehind_L15 (nI (Sk M (k + 1))) ro (ro (Sk M k + i)) n c (nI (Sk M k + j))) (nkT M k) (fun j c => i < j ∧ c = nI (fb_sm (fun j => bhd M k i j ro) j))
    (by
      rintro n j c hj ⟨hij, rfl⟩
      refine ⟨_, ⟨by omega, rfl⟩, ?_⟩
      show m_Forms_countTwinsBehind_L15 (nI (Sk M (k + 1))) ro (ro (Sk M k + i)) (n + 1) _ (nI (Sk M k + j)) = _
      rw [m_Forms_countTwinsBehind_L15, ile (by omega) (by omega), if_neg (by omega), ck_s (by omega) (by omega), cl_s (by omega), one_k, lt_eq, nI_1, fb_sm_succ, bhd, if_pos hij, Nat.add_assoc])
    (nkT M k - (i + 1)) fu (i + 1) 0 (by omega) (by omega) ⟨by omega, by rw [bhd_0 (by omega)]; rfl⟩
  have e1 : m_Forms_countTwinsBehind_L15 (nI (Sk M (k + 1))) ro (ro (Sk M k + i)) fu 0 (nI (Sk M k + i + 1)) = m_Forms_countTwinsBehind_L15 (nI (Sk M (k + 1))) ro (ro (Sk M k + i)) (n' + 1) c' (nI (Sk M k + nkT M k)) := e1
  rw [e1, m_Forms_countTwinsBehind_L15, ile (by omega) (by omega), if_pos (by omega), bd1_s, hc.2]
theorem tp21 {M k fu c : Nat} {so ro st : Nat → Int32} (hM : inM M) (hk : k ≤ 12) (hfu : 300 < fu) (hA : SAf so ro st M) : m_Forms_countTwinPairs_L21 fu st (nI k) ro fu (nI c) (nI (Sk M k)) = some (nI (c + fb_sm (fun i => fb_sm (fun j => bhd M k i j ro) (nkT M k)) (nkT M k))) := by
  have hT := nfT_le hM
  have hS := Sk_le (k := k + 1) hM (by omega)
  have hs := Sk_succ M k
  obtain ⟨c', n', hc, e1⟩ := up_go (F := fun n i (c : Int32) => m_Forms_countTwinPairs_L21 fu st (nI k) ro n c (nI (Sk M k + i))) (nkT M k) (fun i c' => c' = nI (c + fb_sm (fun i => fb_sm (fun j => bhd M k i j ro) (nkT M k)) i))
    (by
      rintro n i c' hi rfl
      refine ⟨_, rfl, ?_⟩
      show m_Forms_countTwinPairs_L21 fu st (nI k) ro (n + 1) _ (nI (Sk M k + i)) = _
      rw [m_Forms_countTwinPairs_L21, end_s hA hk, bd1_s, bd1_s, ile (by omega) (by omega), if_neg (by omega), behind_s hM hk hfu hA hi, bd1_s, lt_eq, lt_eq, nI_add, nI_1, fb_sm_succ, Nat.add_assoc, Nat.add_assoc])
    (nkT M k) fu 0 (nI c) (by omega) (by omega) rfl
  have e1 : m_Forms_countTwinPairs_L21 fu st (nI k) ro fu (nI c) (nI (Sk M k)) = m_Forms_countTwinPairs_L21 fu st (nI k) ro (n' + 1) c' (nI (Sk M k + nkT M k)) := e1
  rw [e1, m_Forms_countTwinPairs_L21, end_s hA hk, bd1_s, ile (by omega) (by omega), if_pos (by omega), hc]
def CP (M : Nat) (ro : Nat → Int32) : Nat := fb_sm (fun k => fb_sm (fun i => fb_sm (fun j => bhd M k i j ro) (nkT M k)) (nkT M k)) (M + 1)
/-- two forms f and g that are twins -/
def tF (M f g : Nat) : Nat := if isF M f = true then (if isF M g = true then (if g = f then 0 else if likeN M g f = true then 1 else 0) else 0) else 0
theorem tF_c (M f g : Nat) : tF M f g = tF M g f := by
  unfold tF
  by_cases c1 : isF M f = true
  · by_cases c2 : isF M g = true
    · rw [if_pos c1, if_pos c2, if_pos c2, if_pos c1, likeN_c M f g]
      by_cases c3 : g = f
      · rw [if_pos c3, if_pos c3.symm]
      · rw [if_neg c3, if_neg (show ¬ f = g from fun q => c3 q.symm)]
    · rw [if_pos c1, if_neg c2, if_neg c2]
  · rw [if_neg c1]
    by_cases c2 : isF M g = true
    · rw [if_pos c2, if_neg c1]
    · rw [if_neg c2]
theorem twP_eq (M : Nat) : twP M = 2 * fb_sm (fun f => fb_sm (fun g => tF M f g) f) (2 ^ M) := by
  have e : twP M = fb_sm (fun f => fb_sm (fun g => tF M f g) (2 ^ M)) (2 ^ M) := by
    unfold twP twN
    refine fb_sm_cong (fun f _ => ?_)
    by_cases c : isF M f = true
    · rw [if_pos c]
      refine fb_sm_cong (fun g _ => ?_)
      unfold tF twq
      rw [if_pos c]
    · rw [if_neg c]
      have : fb_sm (fun g => tF M f g) (2 ^ M) = fb_sm (fun _ => 0) (2 ^ M) := fb_sm_cong (fun g _ => by unfold tF; rw [if_neg c])
      rw [this, fb_sm_const, Nat.mul_zero]
  rw [e, sq_tri, ← sm_mul]
  have e2 : fb_sm (fun f => tF M f f) (2 ^ M) = 0 := by
    have : fb_sm (fun f => tF M f f) (2 ^ M) = fb_sm (fun _ => 0) (2 ^ M) := fb_sm_cong (fun g _ => by unfold tF; simp)
    rw [this, fb_sm_const, Nat.mul_zero]
  rw [e2, Nat.add_zero]
  refine fb_sm_cong (fun f _ => ?_)
  rw [← sm_mul]
  refine fb_sm_cong (fun g _ => ?_)
  rw [tF_c M g f]
  omega
theorem sm_cut {h : Nat → Nat} {g : Nat} : ∀ {n : Nat}, g ≤ n → fb_sm (fun f => if f < g then h f else 0) n = fb_sm h g
  | 0, hg => by obtain rfl : g = 0 := by omega
                rfl
  | n + 1, hg => by
    rw [fb_sm_succ]
    by_cases c : n < g
    · obtain rfl : g = n + 1 := by omega
      rw [if_pos c, fb_sm_succ]
      congr 1
      exact fb_sm_cong (fun f hf => if_pos (by omega))
    · rw [if_neg c, Nat.add_zero, sm_cut (by omega)]
theorem CP_eq {M : Nat} {so ro st : Nat → Int32} (hM : inM M) (hA : SAf so ro st M) : CP M ro = fb_sm (fun f => fb_sm (fun g => tF M f g) f) (2 ^ M) := by
  have hp := p2_le hM.2
  -- the inner sums over the sets
  have e1 : ∀ k, k < M + 1 → fb_sm (fun i => fb_sm (fun j => bhd M k i j ro) (nkT M k)) (nkT M k) = fb_sm (fun f => if isK M k f = true then fb_sm (fun g => if isK M k g = true then (if f < g then (if rowN M g (M / 2) = rowN M f (M / 2) then 1 else 0) else 0) else 0) (2 ^ M) else 0) (2 ^ M) := by
    intro k hk
    have e0 : nkT M k = fb_ct (isK M k) (2 ^ M) := rfl
    rw [e0]
    refine sm_re (p := isK M k) (x := 2 ^ M) (G := fun f => fb_sm (fun g => if isK M k g = true then (if f < g then (if rowN M g (M / 2) = rowN M f (M / 2) then 1 else 0) else 0) else 0) (2 ^ M)) (fun f hf hfk => ?_)
    refine sm_re (p := isK M k) (x := 2 ^ M) (G := fun g => if f < g then (if rowN M g (M / 2) = rowN M f (M / 2) then 1 else 0) else 0) (fun g hg hgk => ?_)
    obtain ⟨hF, hpf⟩ := isK_F hfk
    obtain ⟨hG, hpg⟩ := isK_F hgk
    have p1 : Sk M k + fb_ct (isK M k) f = posF M f := by unfold posF nk; rw [hpf]
    have p2 : Sk M k + fb_ct (isK M k) g = posF M g := by unfold posF nk; rw [hpg]
    have r1 := row_small (s := g) hM
    have r2 := row_small (s := f) hM
    unfold bhd
    rw [p1, p2, (hA.1 f hf hF).2, (hA.1 g hg hG).2, ieq (by omega) (by omega)]
    by_cases c : f < g
    · have := nk_lt hfk c
      unfold nk at this
      rw [if_pos this, if_pos c]
    · have : ¬ fb_ct (isK M k) f < fb_ct (isK M k) g := by
        have := fb_ct_mono (isK M k) (show g ≤ f by omega)
        omega
      rw [if_neg this, if_neg c]
  have e2 : CP M ro = fb_sm (fun k => fb_sm (fun f => if isK M k f = true then fb_sm (fun g => if isK M k g = true then (if f < g then (if rowN M g (M / 2) = rowN M f (M / 2) then 1 else 0) else 0) else 0) (2 ^ M) else 0) (2 ^ M)) (M + 1) := fb_sm_cong e1
  rw [e2, sm_swap]
  -- only k = pop f counts
  have e3 : ∀ f, f < 2 ^ M → fb_sm (fun k => if isK M k f = true then fb_sm (fun g => if isK M k g = true then (if f < g then (if rowN M g (M / 2) = rowN M f (M / 2) then 1 else 0) else 0) else 0) (2 ^ M) else 0) (M + 1) = fb_sm (fun g => if f < g then tF M f g else 0) (2 ^ M) := by
    intro f hf
    by_cases c : isF M f = true
    · have e4 : fb_sm (fun k => if isK M k f = true then fb_sm (fun g => if isK M k g = true then (if f < g then (if rowN M g (M / 2) = rowN M f (M / 2) then 1 else 0) else 0) else 0) (2 ^ M) else 0) (M + 1) = fb_sm (fun k => if pop M f = k then (fun k => fb_sm (fun g => if isK M k g = true then (if f < g then (if rowN M g (M / 2) = rowN M f (M / 2) then 1 else 0) else 0) else 0) (2 ^ M)) k else 0) (M + 1) := by
        refine fb_sm_cong (fun k _ => ?_)
        by_cases q : pop M f = k
        · rw [if_pos q, if_pos (isK_of c q)]
        · rw [if_neg q, if_neg (fun z => q (isK_F z).2)]
      rw [e4, sm_one (by have := pop_le M f; omega)]
      refine fb_sm_cong (fun g hg => ?_)
      unfold tF
      rw [if_pos c]
      by_cases q : isF M g = true
      · rw [if_pos q]
        by_cases q2 : f < g
        · rw [if_pos q2, if_pos q2, if_neg (show ¬ g = f by omega)]
          unfold likeN
          by_cases q3 : pop M g = pop M f
          · rw [if_pos (isK_of q q3), decide_eq_true q3, Bool.true_and]
            by_cases q4 : rowN M g (M / 2) = rowN M f (M / 2)
            · rw [if_pos q4, if_pos (decide_eq_true q4)]
            · rw [if_neg q4, if_neg (by rw [decide_eq_true_eq]; exact q4)]
          · rw [if_neg (fun z => q3 (isK_F z).2), decide_eq_false q3, Bool.false_and, if_neg (by decide)]
        · rw [if_neg q2, if_neg q2]
          split <;> rfl
      · rw [if_neg q, if_neg (fun z => q (isK_F z).1)]
        split <;> rfl
    · have e4 : fb_sm (fun k => if isK M k f = true then fb_sm (fun g => if isK M k g = true then (if f < g then (if rowN M g (M / 2) = rowN M f (M / 2) then 1 else 0) else 0) else 0) (2 ^ M) else 0) (M + 1) = fb_sm (fun _ => 0) (M + 1) := fb_sm_cong (fun k _ => if_neg (fun z => c (isK_F z).1))
      have e5 : fb_sm (fun g => if f < g then tF M f g else 0) (2 ^ M) = fb_sm (fun _ => 0) (2 ^ M) := fb_sm_cong (fun g _ => by unfold tF; rw [if_neg c]; split <;> rfl)
      rw [e4, e5, fb_sm_const, fb_sm_const, Nat.mul_zero, Nat.mul_zero]
  rw [fb_sm_cong e3, sm_swap]
  refine fb_sm_cong (fun g hg => ?_)
  rw [sm_cut (h := fun f => tF M f g) (by omega)]
  exact fb_sm_cong (fun f _ => tF_c M f g)
theorem ctp_s {M fu : Nat} {all built : Int32} {ri ro bi so st : Nat → Int32} (hM : inM M) (hfu : 5000 < fu) (hI : FIx all built ro so st) : ∃ ri' ro' bi' so' st', m_Forms_countTwinPairs fu all built ri ro bi so st (nI M) = some (nI (twP M / 2), nI (nfT M), nI M, ri', ro', bi', so', st') ∧ SAf so' ro' st' M := by
  obtain ⟨ri', ro', bi', so', st', e, hA⟩ := build_s (ri := ri) (bi := bi) hM hfu hI
  refine ⟨ri', ro', bi', so', st', ?_, hA⟩
  have h12 := hM.2
  unfold m_Forms_countTwinPairs
  rw [e, bd7_s, lt_eq, lt_eq]
  obtain ⟨c', n', hc, e1⟩ := up_go (F := fun n k (c : Int32) => m_Forms_countTwinPairs_L9 fu (nI M) st' ro' n c (nI k)) (M + 1) (fun k c => c = nI (fb_sm (fun k => fb_sm (fun i => fb_sm (fun j => bhd M k i j ro') (nkT M k)) (nkT M k)) k))
    (by
      rintro n k c hk rfl
      refine ⟨_, rfl, ?_⟩
      show m_Forms_countTwinPairs_L9 fu (nI M) st' ro' (n + 1) _ (nI k) = _
      rw [m_Forms_countTwinPairs_L9, ilt (by omega) (by omega), if_neg (by omega), start_s hA (by omega), bd1_s, lt_eq, tp21 hM (by omega) (by omega) hA, bd1_s, lt_eq, nI_1, fb_sm_succ])
    (M + 1) fu 0 0 (by omega) (by omega) rfl
  have e1 : m_Forms_countTwinPairs_L9 fu (nI M) st' ro' fu 0 0 = m_Forms_countTwinPairs_L9 fu (nI M) st' ro' (n' + 1) c' (nI (M + 1)) := e1
  rw [e1, m_Forms_countTwinPairs_L9, ilt (by omega) (by omega), if_pos (by omega), bd1_s, hc]
  have h1 := CP_eq hM hA
  have h2 := twP_eq M
  rw [← h1] at h2
  rw [h2, Nat.mul_div_cancel_left _ (by omega)]
  rfl
theorem call_s {M fu : Nat} {all built : Int32} {ri ro bi so st : Nat → Int32} (hM : inM M) (hfu : 5000 < fu) (hI : FIx all built ro so st) : ∃ ri' ro' bi' so' st', m_Forms_countAll fu all built ri ro bi so st (nI M) = some (nI (nfT M), nI (nfT M), nI M, ri', ro', bi', so', st') ∧ SAf so' ro' st' M := by
  obtain ⟨ri', ro', bi', so', st', e, hA⟩ := build_s (ri := ri) (bi := bi) hM hfu hI
  refine ⟨ri', ro', bi', so', st', ?_, hA⟩
  unfold m_Forms_countAll
  rw [e, bd7_s]
