/-! easy ways: the reference, whole -/
theorem EI_d {M k to : Nat} {d B : Nat → Nat} {best : Nat → Int32} (hM : inM M) (ht : to < 2 ^ M) (hk : pop M to = k) (hd : isDist M k to d) (hE : EI M k d B best) (hB : ∀ s u, s < 2 ^ M → pop M s = k → adj M s u → B s ≤ B u + rho M u) : ∀ N s, d s ≤ N → s < 2 ^ M → pop M s = k → B s = d s := by
  intro N
  induction N with
  | zero =>
    intro s h hs hk'
    have := ((hE s hs).2.2 hk').2 (by omega)
    omega
  | succ N ih =>
    intro s h hs hk'
    by_cases c : s = to
    · subst c
      have := ((hE s hs).2.2 hk').2 hd.1
      have := hd.1
      omega
    · obtain ⟨u, ha, e⟩ := hd.2.2.1 s hs hk' c
      have h1 := rho_le (s := u) hM
      have h2 := ih u (by omega) (adj_lt hM hs ha) (by rw [adj_pop hM ha, hk'])
      have h3 := hB s u hs hk' ha
      have h4 := ((hE s hs).2.2 hk').1
      omega
theorem md_layEasy_s {w best ro : Nat → Int32} {M to fu : Nat} {d : Nat → Nat} (hM : inM M) (hw : w 0 = nI M) (ht : to < 2 ^ M) (hd : isDist M (pop M to) to d) (hfu : 5000000000 < fu) : ∃ best' ro', m_Md_layEasy fu best ro w (nI to) = some (best', ro') ∧ (∀ s, s < 2 ^ M → pop M s = pop M to → best' s = nI (d s)) ∧ rgh M (pop M to) ro' := by
  have hp := p2_le hM.2
  have hFar : FAR = 1000000 := rfl
  obtain ⟨b1, r1, e1, hE, hr⟩ := lay7 (best := best) (ro := ro) (fu := fu) hM hw ht hd (by omega)
  have hsum : fb_sm (fun s => if s = to then 0 else FAR) (2 ^ M) ≤ 4096000000 := by
    have h1 : fb_sm (fun s => if s = to then 0 else FAR) (2 ^ M) ≤ 2 ^ M * FAR := fb_sm_bound (fun s _ => by split <;> omega)
    have h2 : 2 ^ M * FAR ≤ 4096 * FAR := Nat.mul_le_mul_right _ hp
    omega
  obtain ⟨b2, e2, B, hE2, hB⟩ := lay65 (fu := fu) hM hw hd hr (by omega) 4096000000 fu _ b1 hsum (by omega) hE
  refine ⟨b2, r1, ?_, fun s hs hk => ?_, hr⟩
  · unfold m_Md_layEasy
    rw [md_ones_s hM.2 ht (by omega), bd1_s, lt_eq, lt_eq, e1, bd2_s, lt_eq, e2, bd1_s]
  · rw [(hE2 s hs).1, EI_d hM ht rfl hd hE2 hB _ s (Nat.le_refl _) hs hk]
def isNx (M s : Nat) (d : Nat → Nat) (v : Nat) : Prop := (adj M s v ∧ d s = d v + rho M v) ∧ ∀ u, adj M s u → d s = d u + rho M u → v ≤ u
theorem isNx_one {M s : Nat} {d : Nat → Nat} {v v' : Nat} (h : isNx M s d v) (h' : isNx M s d v') : v = v' := by
  have h1 := h.2 v' h'.1.1 h'.1.2
  have h2 := h'.2 v h.1.1 h.1.2
  omega
theorem md_easyNext_s {w best ro : Nat → Int32} {M s to fu : Nat} {d : Nat → Nat} (hM : inM M) (hw : w 0 = nI M) (hs : s < 2 ^ M) (ht : to < 2 ^ M) (hk : pop M s = pop M to) (hne : s ≠ to) (hd : isDist M (pop M to) to d) (hb : ∀ s, s < 2 ^ M → pop M s = pop M to → best s = nI (d s)) (hr : rgh M (pop M to) ro) (hfu : 100 < fu) : ∃ v, m_Md_easyNext fu best ro w (nI s) (nI to) = some (nI v) ∧ isNx M s d v := by
  have hp := p2_le hM.2
  have hFar : FAR = 1000000 := rfl
  have hM12 := hM.2
  obtain ⟨st, n', ⟨F, eF, hF1, hF2⟩, e⟩ := up_go (F := fun n i (st : Int32) => m_Md_easyNext_L13 w (nI s) best ro n st (nI i)) (2 * M) (fun i st => ∃ F, st = nI F ∧ (F = FAR ∨ (F < 4096 ∧ adj M s F ∧ d s = d F + rho M F)) ∧ ∀ i', i' < i → mvN M s i' ≠ 0 → d s = d (mvN M s i') + rho M (mvN M s i') → F ≤ mvN M s i')
    (by
      rintro n i st hi ⟨F, rfl, hF1, hF2⟩
      have hFb : F ≤ FAR := by rcases hF1 with h | h <;> omega
      by_cases z : mvN M s i = 0
      · refine ⟨nI F, ⟨F, rfl, hF1, fun i' hi' h0 => ?_⟩, ?_⟩
        · by_cases y : i' = i
          · subst y; exact absurd z h0
          · exact hF2 i' (by omega) h0
        · show m_Md_easyNext_L13 w (nI s) best ro (n + 1) (nI F) (nI i) = _
          rw [m_Md_easyNext_L13, md_m hw, bd1_s, show (2 : Int32) = nI 2 from rfl, pk_mul, ile (by omega) (by omega), if_neg (by omega), md_moveOf_s hM hw hs hi, bd1_s, lt_eq, z, if_pos (show nI 0 ≤ 0 by decide), bd1_s, lt_eq, if_pos (show (0 : Int32) = 0 from rfl), bd1_s, lt_eq, lt_eq, nI_1]
      · have ha := mv_adj hM hi z
        have hu := adj_lt hM hs ha
        have hku : pop M (mvN M s i) = pop M to := by rw [adj_pop hM ha, hk]
        generalize hmv : mvN M s i = u at *
        have hru := rho_le (s := u) hM
        have eru : ro u = nI (rho M u) := by rw [hr u hu, if_pos hku]
        have d1 := hd.2.2.2 s hs hk
        have d2 := hd.2.2.2 u hu hku
        by_cases y : d s = d u + rho M u
        · refine ⟨nI (if F ≤ u then F else u), ⟨_, rfl, ?_, fun i' hi' h0 h1 => ?_⟩, ?_⟩
          · by_cases x : F ≤ u
            · rw [if_pos x]; exact hF1
            · rw [if_neg x]; exact Or.inr ⟨by omega, ha, y⟩
          · by_cases x : i' = i
            · subst x; rw [hmv]; split <;> omega
            · have := hF2 i' (by omega) h0 h1
              split <;> omega
          · show m_Md_easyNext_L13 w (nI s) best ro (n + 1) (nI F) (nI i) = _
            rw [m_Md_easyNext_L13, md_m hw, bd1_s, show (2 : Int32) = nI 2 from rfl, pk_mul, ile (by omega) (by omega), if_neg (by omega), md_moveOf_s hM hw hs hi, bd1_s, lt_eq, hmv, show (0 : Int32) = nI 0 from rfl, ile (by omega) (by omega), if_neg (by omega), ck_s (by omega) (by omega), ck_s (by omega) (by omega), ck_s (by omega) (by omega), cl_s (by omega), cl_s (by omega), hb u hu hku, hb s hs hk, eru, nI_add, ieq (by omega) (by omega), if_pos y.symm, bd1_s, lt_eq, if_neg (show ¬ (1 : Int32) = nI 0 by decide), ile (by omega) (by omega), show (if F ≤ u then some (nI F) else some (nI u)) = some (nI (if F ≤ u then F else u)) from by split <;> rfl, bd1_s, lt_eq, lt_eq, nI_1]
        · refine ⟨nI F, ⟨F, rfl, hF1, fun i' hi' h0 h1 => ?_⟩, ?_⟩
          · by_cases x : i' = i
            · subst x; rw [hmv] at h1; exact absurd h1 y
            · exact hF2 i' (by omega) h0 h1
          · show m_Md_easyNext_L13 w (nI s) best ro (n + 1) (nI F) (nI i) = _
            rw [m_Md_easyNext_L13, md_m hw, bd1_s, show (2 : Int32) = nI 2 from rfl, pk_mul, ile (by omega) (by omega), if_neg (by omega), md_moveOf_s hM hw hs hi, bd1_s, lt_eq, hmv, show (0 : Int32) = nI 0 from rfl, ile (by omega) (by omega), if_neg (by omega), ck_s (by omega) (by omega), ck_s (by omega) (by omega), ck_s (by omega) (by omega), cl_s (by omega), cl_s (by omega), hb u hu hku, hb s hs hk, eru, nI_add, ieq (by omega) (by omega), if_neg (fun z => y z.symm), bd1_s, lt_eq, if_pos rfl, bd1_s, lt_eq, lt_eq, nI_1])
    (2 * M) fu 0 (nI FAR) (by omega) (by omega) ⟨FAR, rfl, Or.inl rfl, fun i h => absurd h (Nat.not_lt_zero i)⟩
  have e : m_Md_easyNext_L13 w (nI s) best ro fu 1000000 0 = m_Md_easyNext_L13 w (nI s) best ro (n' + 1) st (nI (2 * M)) := e
  subst eF
  have hall : ∀ u, adj M s u → d s = d u + rho M u → F ≤ u := fun u ha h => by
    obtain ⟨i, hi, e1, e2⟩ := adj_mv hM ha
    have := hF2 i hi (by rw [e1]; exact e2) (by rw [e1]; exact h)
    rw [e1] at this; exact this
  refine ⟨F, ?_, ?_, hall⟩
  · unfold m_Md_easyNext
    rw [ieq (by omega) (by omega), if_neg hne, lt_eq, lt_eq, e, m_Md_easyNext_L13, md_m hw, bd1_s, show (2 : Int32) = nI 2 from rfl, pk_mul, ile (by omega) (by omega), if_pos (by omega), bd1_s]
  · rcases hF1 with h | h
    · obtain ⟨u, ha, hu⟩ := hd.2.2.1 s hs hk hne
      have h1 := hall u ha hu
      have h2 := adj_lt hM hs ha
      omega
    · exact h.2
