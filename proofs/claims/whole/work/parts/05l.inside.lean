/-! parts of a set that have the form of another -/
theorem bt_nI {n i : Nat} (hi : i < 32) : bt (nI n) i = n.testBit i := by
  unfold bt nI
  show (BitVec.ofNat 32 n).getLsbD i = _
  rw [BitVec.getLsbD_ofNat]
  simp [hi]
theorem b_not {x : Int32} {i : Nat} (hi : i < 32) : bt (x ^^^ (-1)) i = !bt x i := by
  rw [b_xor, b_m1 i hi, Bool.xor_true]
theorem and_le (a b : Nat) : a &&& b ≤ b := Nat.and_le_right
theorem sub_s {r P : Nat} (hr : r < 4096) : nI r &&& (nI P ^^^ (-1)) = 0 ↔ r &&& P = r := by
  constructor
  · intro e
    apply Nat.eq_of_testBit_eq
    intro i
    rw [Nat.testBit_and]
    rcases Nat.lt_or_ge i 32 with h | h
    · have := congrArg (fun z => bt z i) e
      simp only [b_and, b_not h, bt_nI h, b_0] at this
      cases h1 : r.testBit i
      · rfl
      · rw [h1] at this
        cases h2 : P.testBit i
        · rw [h2] at this; cases this
        · rfl
    · rw [Nat.testBit_lt_two_pow (Nat.lt_of_lt_of_le hr (Nat.le_trans (show 4096 ≤ 2 ^ 12 by decide) (Nat.pow_le_pow_right (by omega) (show 12 ≤ i by omega))))]
      rfl
  · intro e
    refine b_ext (fun i hi => ?_)
    rw [b_and, b_not hi, bt_nI hi, bt_nI hi, b_0]
    have h := congrArg (fun z => z.testBit i) e
    simp only [Nat.testBit_and] at h
    cases h1 : r.testBit i
    · rfl
    · rw [h1] at h
      cases h2 : P.testBit i
      · rw [h2] at h; cases h
      · rfl
def insN (M P Q : Nat) : Nat := fb_ct (fun x => decide (x &&& P = x) && decide (form M x = form M Q)) (2 ^ M)
def insq (M P Q x : Nat) : Nat := if x &&& P = x then (if pop M x = pop M (form M Q) then (if form M x = form M Q then 1 else 0) else 0) else 0
theorem insq_sum {M P Q : Nat} (hM : inM M) (hP : P < 2 ^ M) (hQ : Q < 2 ^ M) : fb_sm (insq M P Q) (P + 1) = insN M P Q := by
  unfold insN
  rw [ct_sm, ← sm_cut (h := insq M P Q) (n := 2 ^ M) (show P + 1 ≤ 2 ^ M by omega)]
  refine fb_sm_cong (fun x hx => ?_)
  unfold insq
  by_cases c : x &&& P = x
  · have : x ≤ P := by
      have := and_le x P
      omega
    rw [if_pos (by omega), if_pos c, decide_eq_true c, Bool.true_and]
    by_cases c2 : form M x = form M Q
    · have h1 := pop_form hM hx
      rw [if_pos (by rw [← c2, h1]), if_pos c2, if_pos (decide_eq_true c2)]
    · rw [if_neg c2, decide_eq_false c2]
      split <;> rfl
  · rw [if_neg c, decide_eq_false c, Bool.false_and]
    split <;> rfl
theorem md_ins38 {w : Nat → Int32} {M P Q p fu : Nat} (hM : inM M) (hw : w 0 = nI M) (hp : p < 8) (hwp : w (2 + p) = nI P) (hP : P < 2 ^ M) (hQ : Q < 2 ^ M) (hfu : 5000 < fu) : m_Md_inside_L38 fu (nI p) w (nI (form M Q)) fu 0 0 = some (nI (insN M P Q)) := by
  have h5 := hM.1; have h12 := hM.2
  have h2 := p2_le h12
  have hfQ := form_lt hM hQ
  have e2 : (2 : Int32) + nI p = nI (2 + p) := nI_add 2 p
  obtain ⟨c', n', hc, e⟩ := up_go (F := fun n x (c : Int32) => m_Md_inside_L38 fu (nI p) w (nI (form M Q)) n c (nI x)) (P + 1) (fun x c => c = nI (fb_sm (insq M P Q) x))
    (by
      rintro n x c hx rfl
      refine ⟨_, rfl, ?_⟩
      show m_Md_inside_L38 fu (nI p) w (nI (form M Q)) (n + 1) _ (nI x) = _
      have hfx := form_lt hM (show x < 2 ^ M by omega)
      have p1 := pop_le M x
      have p2 := pop_le M (form M Q)
      have ha := and_le P x
      rw [m_Md_inside_L38, e2, ck_s (by omega) (by omega), cl_s (by omega), hwp, ilt (by omega) (by omega), if_neg (by omega), ck_s (by omega) (by omega), fa_and, ieq (by have := and_le x P; omega) (by omega), md_ones_s h12 (show x < 2 ^ M by omega) (by omega), md_ones_s h12 hfQ (by omega), bd1_s, bd1_s, ieq (by omega) (by omega), fb_sm_succ, insq]
      by_cases c1 : x &&& P = x
      · rw [if_pos c1, if_pos c1]
        by_cases c2 : pop M x = pop M (form M Q)
        · rw [if_pos c2, if_pos c2, bd1_s, lt_eq, if_neg (show ¬ (1 : Int32) = 0 by decide), md_form_s hM hw (by omega) (by omega), bd1_s, ieq (by omega) (by omega)]
          by_cases c3 : form M x = form M Q
          · rw [if_pos c3, if_pos c3, bd1_s, lt_eq, lt_eq, nI_1, nI_1]
          · rw [if_neg c3, if_neg c3, bd1_s, lt_eq, lt_eq, show (0 : Int32) = nI 0 from rfl, nI_add, nI_1]
        · rw [if_neg c2, if_neg c2, bd1_s, lt_eq, if_pos rfl, bd1_s, lt_eq, lt_eq, show (0 : Int32) = nI 0 from rfl, nI_add, nI_1]
      · rw [if_neg c1, if_neg c1, bd1_s, lt_eq, if_pos rfl, bd1_s, lt_eq, lt_eq, show (0 : Int32) = nI 0 from rfl, nI_add, nI_1])
    (P + 1) fu 0 0 (by omega) (by omega) rfl
  have e : m_Md_inside_L38 fu (nI p) w (nI (form M Q)) fu 0 0 = m_Md_inside_L38 fu (nI p) w (nI (form M Q)) (n' + 1) c' (nI (P + 1)) := e
  rw [e, m_Md_inside_L38, e2, ck_s (by omega) (by omega), cl_s (by omega), hwp, ilt (by omega) (by omega), if_pos (by omega), hc, insq_sum hM hP hQ]
theorem ct_orbit {M Q x : Nat} (hM : inM M) (hQ : Q < 2 ^ M) (hx : x < 2 ^ M) : fb_ct (fun k => decide (img M Q k = x)) (2 * M) = if form M x = form M Q then kin M Q else 0 := by
  by_cases c : form M x = form M Q
  · obtain ⟨j, hj, e⟩ := form_eq hM hQ hx c.symm
    rw [if_pos c]
    exact orbit_ct hM hQ hj e
  · rw [if_neg c]
    refine fb_ct_zero.mpr (fun k hk => ?_)
    rw [decide_eq_false_iff_not]
    intro e
    exact c (by rw [← e, form_img hM hQ hk])
def cov (M P Q : Nat) : Nat := fb_ct (fun k => decide (img M Q k &&& P = img M Q k)) (2 * M)
theorem cov_eq {M P Q : Nat} (hM : inM M) (hQ : Q < 2 ^ M) : cov M P Q = kin M Q * insN M P Q := by
  have h5 := hM.1
  unfold cov insN
  rw [ct_sm, ct_sm, ← sm_mul]
  have e1 : fb_sm (fun k => if decide (img M Q k &&& P = img M Q k) = true then 1 else 0) (2 * M) = fb_sm (fun k => fb_sm (fun x => if img M Q k = x then (fun x => if x &&& P = x then 1 else 0) x else 0) (2 ^ M)) (2 * M) := by
    refine fb_sm_cong (fun k _ => ?_)
    rw [sm_one (img_lt (by omega))]
    simp only [decide_eq_true_eq]
  rw [e1, sm_swap]
  refine fb_sm_cong (fun x hx => ?_)
  have h := ct_orbit hM hQ hx
  rw [ct_sm] at h
  by_cases c : x &&& P = x
  · have e2 : fb_sm (fun k => if img M Q k = x then (fun x => if x &&& P = x then 1 else 0) x else 0) (2 * M) = fb_sm (fun k => if decide (img M Q k = x) = true then 1 else 0) (2 * M) := by
      refine fb_sm_cong (fun k _ => ?_)
      simp only [decide_eq_true_eq, if_pos c]
    rw [e2, h, decide_eq_true c, Bool.true_and]
    by_cases c2 : form M x = form M Q
    · rw [if_pos c2, if_pos (decide_eq_true c2), Nat.mul_one]
    · rw [if_neg c2, if_neg (by rw [decide_eq_true_eq]; exact c2), Nat.mul_zero]
  · have e2 : fb_sm (fun k => if img M Q k = x then (fun x => if x &&& P = x then 1 else 0) x else 0) (2 * M) = fb_sm (fun _ => 0) (2 * M) := by
      refine fb_sm_cong (fun k _ => ?_)
      simp only [if_neg c]
      split <;> rfl
    rw [e2, fb_sm_const, decide_eq_false c, Bool.false_and, if_neg (by decide), Nat.mul_zero, Nat.mul_zero]
theorem iff_if {α : Type} {a b : Prop} [Decidable a] [Decidable b] {x y : α} (h : a ↔ b) : (if a then x else y) = if b then x else y := by
  by_cases c : a
  · rw [if_pos c, if_pos (h.mp c)]
  · rw [if_neg c, if_neg (fun q => c (h.mpr q))]
theorem parts_s {M P Q fu : Nat} (hM : inM M) (hP : P < 2 ^ M) (hQ : Q < 2 ^ M) (hfu : 30 < fu) : m_Ring_partsLike fu (nI P) (nI Q) (nI M) = some (nI (insN M P Q)) := by
  have h5 := hM.1; have h12 := hM.2
  have h2 := p2_le h12
  have hm := img_lt (M := M) (s := Q) (k := M) (by omega)
  unfold m_Ring_partsLike
  rw [mirrored_s hM hQ (by omega), bd1_s, lt_eq, lt_eq, lt_eq]
  obtain ⟨c', n', hc, e⟩ := up_go (F := fun n i (c : Int32) => m_Ring_partsLike_L12 (nI M) (nI Q) (nI P) (nI (img M Q M)) n c (nI i)) M (fun i c => c = nI (fb_ct (fun k => decide (img M Q k &&& P = img M Q k)) i + fb_ct (fun k => decide (img M Q (M + k) &&& P = img M Q (M + k))) i))
    (by
      rintro n i c hi rfl
      refine ⟨_, rfl, ?_⟩
      show m_Ring_partsLike_L12 (nI M) (nI Q) (nI P) (nI (img M Q M)) (n + 1) _ (nI i) = _
      have q1 := img_lt (M := M) (s := Q) (k := i) (by omega)
      have q2 := img_lt (M := M) (s := Q) (k := M + i) (by omega)
      rw [m_Ring_partsLike_L12, ile (by omega) (by omega), if_neg (by omega), turned_s hM hi hQ, bd1_s, one_k, turned_s hM hi hm, bd1_s, img_mir hM hi, one_k, lt_eq, nI_1, iff_if (sub_s (show img M Q i < 4096 by omega)), iff_if (sub_s (show img M Q (M + i) < 4096 by omega))]
      simp only [fb_ct_succ, decide_eq_true_eq]
      congr 2
      omega)
    M fu 0 0 (by omega) (by omega) rfl
  have e : m_Ring_partsLike_L12 (nI M) (nI Q) (nI P) (nI (img M Q M)) fu 0 0 = m_Ring_partsLike_L12 (nI M) (nI Q) (nI P) (nI (img M Q M)) (n' + 1) c' (nI M) := e
  have hcov : fb_ct (fun k => decide (img M Q k &&& P = img M Q k)) M + fb_ct (fun k => decide (img M Q (M + k) &&& P = img M Q (M + k))) M = cov M P Q := by
    unfold cov
    rw [show 2 * M = M + M by omega, fb_ct_split]
  have hk := kin_pos hM hQ
  have hk2 := kin_le (M := M) (s := Q)
  have hcl : cov M P Q ≤ 2 * M := fb_ct_le _ _
  rw [e, m_Ring_partsLike_L12, ile (by omega) (by omega), if_pos (by omega), bd1_s, kin_s hM hQ hfu, bd1_s, lt_eq, hc, hcov, if_neg (nI_nle hk (by omega)), dv_s hk (by omega), pk_div (by omega) hk (by omega), cov_eq hM hQ, Nat.mul_div_cancel_left _ hk]
