/-! pairs of tones so far apart, rows of intervals, like ones -/
def apN (M a b : Nat) : Nat := if M - (if b ≤ a then a - b else b - a) ≤ (if b ≤ a then a - b else b - a) then M - (if b ≤ a then a - b else b - a) else (if b ≤ a then a - b else b - a)
theorem apN_le {M a b : Nat} (ha : a < M) (hb : b < M) : apN M a b ≤ M := by
  unfold apN
  split <;> split <;> omega
theorem md_apart_s {w : Nat → Int32} {M a b : Nat} (hM : inM M) (hw : w 0 = nI M) (ha : a < M) (hb : b < M) : m_Md_apart w (nI a) (nI b) = some (nI (apN M a b)) := by
  obtain ⟨h5, h12⟩ := hM
  unfold m_Md_apart apN
  simp only [md_m hw, bd1_s]
  rw [ile (by omega) (by omega)]
  by_cases c : b ≤ a
  · simp only [if_pos c]
    rw [pk_sub c, bd1_s, lt_eq, pk_sub (by omega), ile (by omega) (by omega)]
    split <;> rfl
  · simp only [if_neg c]
    rw [pk_sub (by omega), bd1_s, lt_eq, pk_sub (by omega), ile (by omega) (by omega)]
    split <;> rfl
def tstB (s a b : Nat) : Nat := if (s.testBit a && s.testBit b) = true then 1 else 0
def prs (M s d : Nat) : Nat := fb_sm (fun a => fb_sm (fun b => if apN M a b = d then tstB s a b else 0) a) M
theorem md_pr17 {w : Nat → Int32} {M s d a c fu : Nat} (hM : inM M) (hw : w 0 = nI M) (hs : s < 2 ^ M) (ha : a < M) (hd : d < 2147483648) (hfu : 20 < fu) : m_Md_pairsApart_L17 (nI a) (nI s) w (nI d) fu (nI c) 0 = some (nI (c + fb_sm (fun b => if apN M a b = d then tstB s a b else 0) a)) := by
  have hM' := hM
  obtain ⟨h5, h12⟩ := hM
  have hp := p2_le h12
  obtain ⟨c', n', hc, e⟩ := up_go (F := fun n i (c : Int32) => m_Md_pairsApart_L17 (nI a) (nI s) w (nI d) n c (nI i)) a (fun i c' => c' = nI (c + fb_sm (fun b => if apN M a b = d then tstB s a b else 0) i))
    (by
      rintro n i c' hi rfl
      refine ⟨_, rfl, ?_⟩
      show m_Md_pairsApart_L17 (nI a) (nI s) w (nI d) (n + 1) _ (nI i) = _
      have hap := apN_le ha (show i < M by omega)
      rw [m_Md_pairsApart_L17, ile (by omega) (by omega), if_neg (by omega), md_has (by omega) (by omega), md_has (by omega) (by omega), md_apart_s hM' hw ha (by omega), bd1_s, bd1_s, bd1_s, ieq (by omega) (by omega), fb_sm_succ]
      unfold tstB
      by_cases c1 : s.testBit a = true
      · by_cases c2 : s.testBit i = true
        · by_cases c3 : apN M a i = d
          · rw [if_pos c1, if_pos c2, if_neg (by decide), if_neg (by decide), if_pos c3, if_pos c3, c1, c2, bd1_s, lt_eq, lt_eq, nI_1, nI_1]
            rfl
          · rw [if_pos c1, if_pos c2, if_neg (by decide), if_neg (by decide), if_neg c3, if_neg c3, bd1_s, lt_eq, lt_eq, show (0 : Int32) = nI 0 from rfl, nI_add, nI_1]
            rfl
        · rw [if_pos c1, if_neg c2, if_neg (by decide), if_pos rfl, bd1_s, lt_eq, lt_eq, show (0 : Int32) = nI 0 from rfl, nI_add, nI_1]
          rw [Bool.not_eq_true] at c2
          rw [c2, Bool.and_false]
          simp
      · rw [if_neg c1, if_pos rfl, bd1_s, lt_eq, lt_eq, show (0 : Int32) = nI 0 from rfl, nI_add, nI_1]
        rw [Bool.not_eq_true] at c1
        rw [c1, Bool.false_and]
        simp)
    a fu 0 (nI c) (by omega) (by omega) rfl
  have e : m_Md_pairsApart_L17 (nI a) (nI s) w (nI d) fu (nI c) 0 = m_Md_pairsApart_L17 (nI a) (nI s) w (nI d) (n' + 1) c' (nI a) := e
  rw [e, m_Md_pairsApart_L17, ile (by omega) (by omega), if_pos (by omega), hc]
theorem md_pairs_s {w : Nat → Int32} {M s d fu : Nat} (hM : inM M) (hw : w 0 = nI M) (hs : s < 2 ^ M) (hd : d < 2147483648) (hfu : 20 < fu) : m_Md_pairsApart fu w (nI s) (nI d) = some (nI (prs M s d)) := by
  have hM' := hM
  obtain ⟨h5, h12⟩ := hM
  unfold m_Md_pairsApart
  rw [lt_eq, lt_eq]
  obtain ⟨c', n', hc, e⟩ := up_go (F := fun n i (c : Int32) => m_Md_pairsApart_L5 fu w (nI s) (nI d) n c (nI i)) M (fun i c' => c' = nI (fb_sm (fun a => fb_sm (fun b => if apN M a b = d then tstB s a b else 0) a) i))
    (by
      rintro n i c' hi rfl
      refine ⟨_, rfl, ?_⟩
      show m_Md_pairsApart_L5 fu w (nI s) (nI d) (n + 1) _ (nI i) = _
      rw [m_Md_pairsApart_L5, md_m hw, bd1_s, ile (by omega) (by omega), if_neg (by omega), lt_eq, md_pr17 hM' hw hs hi hd hfu, bd1_s, lt_eq, nI_1, fb_sm_succ])
    M fu 0 0 (by omega) (by omega) rfl
  have e : m_Md_pairsApart_L5 fu w (nI s) (nI d) fu 0 0 = m_Md_pairsApart_L5 fu w (nI s) (nI d) (n' + 1) c' (nI M) := e
  rw [e, m_Md_pairsApart_L5, md_m hw, bd1_s, ile (by omega) (by omega), if_pos (by omega), bd1_s, hc]
  rfl
theorem sm_mul (c : Nat) (f : Nat → Nat) : ∀ n, fb_sm (fun k => c * f k) n = c * fb_sm f n
  | 0 => rfl
  | n + 1 => by rw [fb_sm_succ, fb_sm_succ, sm_mul c f n, Nat.mul_add]
/-- a square is its two triangles and its diagonal -/
theorem sq_tri (f : Nat → Nat → Nat) : ∀ n, fb_sm (fun a => fb_sm (fun b => f a b) n) n = fb_sm (fun a => fb_sm (fun b => f a b + f b a) a) n + fb_sm (fun a => f a a) n
  | 0 => rfl
  | n + 1 => by
    rw [fb_sm_succ, fb_sm_succ, fb_sm_succ, fb_sm_succ]
    have e : fb_sm (fun a => fb_sm (fun b => f a b) (n + 1)) n = fb_sm (fun a => fb_sm (fun b => f a b) n) n + fb_sm (fun a => f a n) n := by
      rw [← fb_sm_add]
      exact fb_sm_cong (fun k _ => fb_sm_succ _ _)
    rw [e, sq_tri f n, fb_sm_add]
    have ee : fb_sm (f n) n = fb_sm (fun b => f n b) n := rfl
    omega
set_option maxRecDepth 100000 in
theorem coef0 : ringB (fun M => allB (fun d => allB (fun a => decide ((1 ≤ d ∧ 2 * d ≤ M) → ¬ rot M d a = a) && allB (fun b => decide ((1 ≤ d ∧ 2 * d ≤ M) → (if rot M d a = b then 1 else 0) + (if rot M d b = a then 1 else 0) = if apN M a b = d then (if 2 * d = M then 2 else 1) else 0)) a) M) M) = true := by decide +kernel
theorem coef {M d a : Nat} (hM : inM M) (h1 : 1 ≤ d) (h2 : 2 * d ≤ M) (ha : a < M) : ¬ rot M d a = a ∧ ∀ b, b < a → (if rot M d a = b then 1 else 0) + (if rot M d b = a then 1 else 0) = if apN M a b = d then (if 2 * d = M then 2 else 1) else 0 := by
  have h := allB_spec (allB_spec (ringB_spec coef0 hM) d (by omega)) a ha
  rw [Bool.and_eq_true] at h
  exact ⟨of_decide_eq_true h.1 ⟨h1, h2⟩, fun b hb => of_decide_eq_true (allB_spec h.2 b hb) ⟨h1, h2⟩⟩
theorem tstB_c (s a b : Nat) : tstB s a b = tstB s b a := by
  unfold tstB
  rw [Bool.and_comm]
theorem cnt_eq {M s d : Nat} (hM : inM M) (h1 : 1 ≤ d) (h2 : 2 * d ≤ M) : pop M (s &&& img M s d) = (if 2 * d = M then 2 else 1) * prs M s d := by
  have h5 := hM.1
  have hd : d < 2 * M := by omega
  have hi := (cmp_all hM hd hd).2.2.2.1
  unfold pop
  rw [← ct_perm (σ := rot M d) (τ := rot M (invR M d)) (fun k hk => ⟨rot_lt (by omega), rot_inv hM hd hk⟩) (fun k hk => ⟨rot_lt (by omega), by
    have := rot_inv hM hi hk
    rw [inv_inv hM hd] at this
    exact this⟩), ct_sm]
  have e1 : fb_sm (fun k => if (s &&& img M s d).testBit (rot M d k) = true then 1 else 0) M = fb_sm (fun a => fb_sm (fun b => if rot M d a = b then tstB s a b else 0) M) M := by
    refine fb_sm_cong (fun k hk => ?_)
    rw [sm_one (g := fun b => tstB s k b) (rot_lt (by omega)), Nat.testBit_and, img_bit hM hd hk, tstB, Bool.and_comm]
  rw [e1, sq_tri]
  have e2 : fb_sm (fun a => if rot M d a = a then tstB s a a else 0) M = 0 := by
    have : fb_sm (fun a => if rot M d a = a then tstB s a a else 0) M = fb_sm (fun _ => 0) M := fb_sm_cong (fun k hk => if_neg (coef hM h1 h2 hk).1)
    rw [this, fb_sm_const, Nat.mul_zero]
  rw [e2, Nat.add_zero, prs, ← sm_mul]
  refine fb_sm_cong (fun a ha => ?_)
  rw [← sm_mul]
  refine fb_sm_cong (fun b hb => ?_)
  have h := (coef hM h1 h2 ha).2 b hb
  rw [tstB_c s b a]
  by_cases c1 : rot M d a = b
  · by_cases c2 : rot M d b = a
    · rw [if_pos c1, if_pos c2] at h
      rw [if_pos c1, if_pos c2]
      by_cases c3 : apN M a b = d
      · rw [if_pos c3] at h
        rw [if_pos c3, ← h]
        omega
      · rw [if_neg c3] at h; omega
    · rw [if_pos c1, if_neg c2] at h
      rw [if_pos c1, if_neg c2]
      by_cases c3 : apN M a b = d
      · rw [if_pos c3] at h
        rw [if_pos c3, ← h]
        omega
      · rw [if_neg c3] at h; omega
  · by_cases c2 : rot M d b = a
    · rw [if_neg c1, if_pos c2] at h
      rw [if_neg c1, if_pos c2]
      by_cases c3 : apN M a b = d
      · rw [if_pos c3] at h
        rw [if_pos c3, ← h]
        omega
      · rw [if_neg c3] at h; omega
    · rw [if_neg c1, if_neg c2] at h
      rw [if_neg c1, if_neg c2]
      by_cases c3 : apN M a b = d
      · rw [if_pos c3] at h
        split at h <;> omega
      · rw [if_neg c3, Nat.mul_zero]
theorem prs_le {M s d : Nat} (hM : inM M) (h1 : 1 ≤ d) (h2 : 2 * d ≤ M) : prs M s d ≤ 12 := by
  have h := cnt_eq (s := s) hM h1 h2
  have := pop_le M (s &&& img M s d)
  have := hM.2
  split at h <;> omega
theorem pairs_s {M s d : Nat} (hM : inM M) (hs : s < 2 ^ M) (h1 : 1 ≤ d) (h2 : 2 * d ≤ M) : m_Ring_pairsApart (nI s) (nI d) (nI M) = some (nI (prs M s d)) := by
  have hM' := hM
  obtain ⟨h5, h12⟩ := hM
  have h := cnt_eq (s := s) hM' h1 h2
  have hl := pop_le M (s &&& img M s d)
  unfold m_Ring_pairsApart
  rw [turned_s hM' (by omega) hs, bd1_s, fa_and, bc_s h12 (Nat.and_lt_two_pow _ (img_lt (by omega))), bd1_s, lt_eq, show (2 : Int32) = nI 2 from rfl, pk_mul, ieq (by omega) (by omega)]
  by_cases c : 2 * d = M
  · rw [if_pos c] at h ⊢
    rw [pk_div (by omega) (by omega) (by omega), h, Nat.mul_div_cancel_left _ (by omega)]
  · rw [if_neg c] at h ⊢
    rw [h, Nat.one_mul]
/-! rows -/
def rowN (M s : Nat) : Nat → Nat
  | 0 => 0
  | h + 1 => rowN M s h * 16 + prs M s (h + 1)
theorem rowN_lt {M s : Nat} (hM : inM M) : ∀ h, 2 * h ≤ M → rowN M s h < 16 ^ h
  | 0, _ => by rw [rowN]; omega
  | h + 1, hh => by
    have := rowN_lt (s := s) hM h (by omega)
    have := prs_le (s := s) hM (show 1 ≤ h + 1 by omega) hh
    rw [rowN, Nat.pow_succ]
    omega
theorem rowN_eq {M s t : Nat} (hM : inM M) : ∀ h, 2 * (h + 1) ≤ M → (rowN M s (h + 1) = rowN M t (h + 1) ↔ rowN M s h = rowN M t h ∧ prs M s (h + 1) = prs M t (h + 1)) := by
  intro h hh
  have := prs_le (s := s) hM (show 1 ≤ h + 1 by omega) hh
  have := prs_le (s := t) hM (show 1 ≤ h + 1 by omega) hh
  rw [rowN, rowN]
  constructor
  · intro e
    omega
  · rintro ⟨e1, e2⟩
    rw [e1, e2]
theorem h6 {M h : Nat} (hM : M ≤ 12) (hh : 2 * h ≤ M) : 16 ^ h ≤ 16777216 := (Nat.pow_le_pow_right (by omega) (show h ≤ 6 by omega) : 16 ^ h ≤ 16 ^ 6)
theorem row_s {M s fu : Nat} (hM : inM M) (hs : s < 2 ^ M) (hfu : 20 < fu) : m_Ring_intervalRow fu (nI s) (nI M) = some (nI (rowN M s (M / 2))) := by
  have hM' := hM
  obtain ⟨h5, h12⟩ := hM
  unfold m_Ring_intervalRow
  rw [lt_eq, lt_eq]
  obtain ⟨c', n', hc, e⟩ := up_go (F := fun n i (c : Int32) => m_Ring_intervalRow_L4 (nI M) (nI s) n c (nI (i + 1))) (M / 2) (fun i c' => c' = nI (rowN M s i))
    (by
      rintro n i c' hi rfl
      refine ⟨_, rfl, ?_⟩
      show m_Ring_intervalRow_L4 (nI M) (nI s) (n + 1) _ (nI (i + 1)) = _
      rw [m_Ring_intervalRow_L4, show (2 : Int32) = nI 2 from rfl, pk_div (by omega) (by omega) (by omega), ilt (by omega) (by omega), if_neg (by omega), pairs_s hM' hs (by omega) (by omega), bd1_s, lt_eq, show (16 : Int32) = nI 16 from rfl, pk_mul, nI_add, lt_eq, nI_1, rowN])
    (M / 2) fu 0 0 (by omega) (by omega) rfl
  have e : m_Ring_intervalRow_L4 (nI M) (nI s) fu 0 1 = m_Ring_intervalRow_L4 (nI M) (nI s) (n' + 1) c' (nI (M / 2 + 1)) := e
  rw [e, m_Ring_intervalRow_L4, show (2 : Int32) = nI 2 from rfl, pk_div (by omega) (by omega) (by omega), ilt (by omega) (by omega), if_pos (by omega), bd1_s, hc]
def likeN (M s t : Nat) : Bool := decide (pop M s = pop M t) && decide (rowN M s (M / 2) = rowN M t (M / 2))
def likeB (M s t h : Nat) : Bool := decide (pop M s = pop M t) && decide (rowN M s h = rowN M t h)
theorem likeB_up {M s t : Nat} (hM : inM M) {h : Nat} (hh : 2 * (h + 1) ≤ M) : likeB M s t (h + 1) = (likeB M s t h && decide (prs M s (h + 1) = prs M t (h + 1))) := by
  unfold likeB
  have := rowN_eq (s := s) (t := t) hM h hh
  rw [Bool.and_assoc]
  congr 1
  rw [← Bool.decide_and, decide_eq_decide]
  exact this
theorem bi_s {b : Bool} : (if b = true then (1 : Int32) else 0) = 0 ↔ b = false := by cases b <;> simp
theorem md_like20 {w : Nat → Int32} {M s t fu : Nat} (hM : inM M) (hw : w 0 = nI M) (hs : s < 2 ^ M) (ht : t < 2 ^ M) (hfu : 20 < fu) : ∀ k h n, h + k = M / 2 → k < n → m_Md_areLike_L20 fu w (nI s) (nI t) n (if likeB M s t h = true then 1 else 0) (nI (h + 1)) = some (if likeN M s t = true then 1 else 0)
  | 0, h, n, e, hn => by
    obtain ⟨n, rfl⟩ : ∃ m, n = m + 1 := ⟨n - 1, by omega⟩
    have h5 := hM.1; have h12 := hM.2
    rw [m_Md_areLike_L20, md_m hw, bd1_s, show (2 : Int32) = nI 2 from rfl, pk_div (by omega) (by omega) (by omega), ilt (by omega) (by omega), if_pos (by omega)]
    rw [show h = M / 2 by omega]
    rfl
  | k + 1, h, n, e, hn => by
    obtain ⟨n, rfl⟩ : ∃ m, n = m + 1 := ⟨n - 1, by omega⟩
    have h5 := hM.1; have h12 := hM.2
    have ih := md_like20 hM hw hs ht hfu k (h + 1) n (by omega) (by omega)
    have p1 := prs_le (s := s) hM (show 1 ≤ h + 1 by omega) (by omega)
    have p2 := prs_le (s := t) hM (show 1 ≤ h + 1 by omega) (by omega)
    rw [m_Md_areLike_L20, md_m hw, bd1_s, show (2 : Int32) = nI 2 from rfl, pk_div (by omega) (by omega) (by omega), ilt (by omega) (by omega), if_neg (by omega)]
    by_cases c : likeB M s t h = true
    · rw [if_neg (fun q => by rw [bi_s, c] at q; cases q), md_pairs_s hM hw hs (by omega) hfu, bd1_s, md_pairs_s hM hw ht (by omega) hfu, bd1_s, ieq (by omega) (by omega)]
      rw [likeB_up hM (by omega), c, Bool.true_and] at ih
      simp only [decide_eq_true_eq] at ih
      rw [← ih, nI_1]
      by_cases q : prs M s (h + 1) = prs M t (h + 1)
      · rw [if_pos q, if_pos q, bd1_s, lt_eq, lt_eq]
      · rw [if_neg q, if_neg q, bd1_s, lt_eq, lt_eq]
    · rw [if_pos (by rw [bi_s]; exact Bool.eq_false_iff.mpr c), if_neg c]
      have hz : ∀ j, 2 * (h + j) ≤ M → likeB M s t (h + j) = false := by
        intro j
        induction j with
        | zero => intro _; exact Bool.eq_false_iff.mpr c
        | succ j ihj =>
          intro hj
          rw [← Nat.add_assoc, likeB_up hM (by omega), ihj (by omega), Bool.false_and]
      have hz := hz (k + 1) (by omega)
      rw [show h + (k + 1) = M / 2 by omega] at hz
      have hz : likeN M s t = false := hz
      rw [hz]
      rfl
theorem md_like_s {w : Nat → Int32} {M s t fu : Nat} (hM : inM M) (hw : w 0 = nI M) (hs : s < 2 ^ M) (ht : t < 2 ^ M) (hfu : 20 < fu) : m_Md_areLike fu w (nI s) (nI t) = some (if likeN M s t = true then 1 else 0) := by
  have h5 := hM.1; have h12 := hM.2
  have p1 := pop_le M s
  have p2 := pop_le M t
  have h := md_like20 hM hw hs ht hfu (M / 2) 0 fu (by omega) (by omega)
  unfold m_Md_areLike
  rw [md_ones_s h12 hs hfu, bd1_s, md_ones_s h12 ht hfu, bd1_s, ieq (by omega) (by omega)]
  have e0 : likeB M s t 0 = decide (pop M s = pop M t) := by
    unfold likeB
    rw [rowN, rowN, decide_eq_true rfl, Bool.and_true]
  rw [e0] at h
  simp only [decide_eq_true_eq] at h
  have h1 : bd1 (if pop M s = pop M t then some (1 : Int32) else some (0 : Int32)) (fun q16_1 => lt (q16_1 : Int32) (fun v3_1 => lt (1 : Int32) (fun v4_1 => bd1 (m_Md_areLike_L20 fu w (nI s) (nI t) fu v3_1 v4_1) (fun v3_5 => bz (v3_5) (some v3_5))))) = bd1 (m_Md_areLike_L20 fu w (nI s) (nI t) fu (if pop M s = pop M t then 1 else 0) (nI (0 + 1))) (fun v3_5 => bz (v3_5) (some v3_5)) := by
    by_cases c : pop M s = pop M t
    · rw [if_pos c, if_pos c]; rfl
    · rw [if_neg c, if_neg c]; rfl
  rw [h1, h, bd1_s]
  cases likeN M s t <;> rfl
