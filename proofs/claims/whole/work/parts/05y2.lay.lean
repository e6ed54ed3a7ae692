/-! easy ways: the reference -/
def mvO (M i : Nat) : Nat := (i / 2 + (if i % 2 = 0 then 1 else M - 1)) % M
def mvN (M s i : Nat) : Nat := if s.testBit (i / 2) = true ∧ s.testBit (mvO M i) = false then flp s (i / 2) (mvO M i) else 0
theorem clr_s {s t : Nat} (ht : t < 32) (h : s.testBit t = true) : nI s &&& (nI (2 ^ t) ^^^ (-1)) = nI (s ^^^ 2 ^ t) := by
  refine b_ext (fun i hi => ?_)
  rw [b_and, b_not hi, bt_nI hi, bt_nI hi, bt_nI hi, fb_bit_flip, Nat.testBit_two_pow]
  by_cases c : t = i
  · subst c; rw [h]; simp
  · rw [decide_eq_false c, decide_eq_false (fun e => c e.symm)]; simp
theorem md_moveOf_s {w : Nat → Int32} {M s i : Nat} (hM : inM M) (hw : w 0 = nI M) (hs : s < 2 ^ M) (hi : i < 2 * M) : m_Md_moveOf w (nI s) (nI i) = some (nI (mvN M s i)) := by
  have hp := p2_le hM.2
  obtain ⟨h5, h12⟩ := hM
  have ho : mvO M i < M := Nat.mod_lt _ (by omega)
  unfold m_Md_moveOf
  rw [show (2 : Int32) = nI 2 from rfl, pk_div (by omega) (by omega) (by omega), lt_eq, pk_mul, pk_sub (by omega), show i - i / 2 * 2 = i % 2 by omega, show (0 : Int32) = nI 0 from rfl, ieq (by omega) (by omega)]
  have key : ∀ q : Nat, q < 16 → (i / 2 + q) % M = mvO M i → (bd1 (some (nI q)) fun q21_1 => bd1 (m_Md_m w) fun r_2 => dv r_2 (lt (nI (i / 2) + q21_1 - (nI (i / 2) + q21_1) / r_2 * r_2) fun v4_1 => bd1 (m_Md_has (nI s) (nI (i / 2))) fun r_3 => if r_3 = nI 0 then some (nI 0) else bd1 (m_Md_has (nI s) v4_1) fun r_4 => if r_4 = nI 0 then some ((nI s &&& (((1 : Int32) <<< (nI (i / 2) &&& 31)) ^^^ (-1))) ||| ((1 : Int32) <<< (v4_1 &&& 31))) else some (nI 0))) = some (nI (mvN M s i)) := by
    intro q hq e
    rw [bd1_s, md_m hw, bd1_s, dv_s (by omega) (by omega), nI_add, pk_div (by omega) (by omega) (by omega), pk_mul, pk_sub (Nat.div_mul_le_self _ _), show (i / 2 + q) - (i / 2 + q) / M * M = mvO M i by rw [← e, Nat.mod_def, Nat.mul_comm], lt_eq, md_has (by omega) (by omega), bd1_s]
    unfold mvN
    by_cases c1 : s.testBit (i / 2) = true
    · rw [if_pos c1, if_neg (show ¬ (1 : Int32) = nI 0 by decide), md_has (by omega) (by omega), bd1_s]
      by_cases c2 : s.testBit (mvO M i) = true
      · rw [if_pos c2, if_neg (show ¬ (1 : Int32) = nI 0 by decide), if_neg (fun z => by rw [c2] at z; cases z.2)]
      · have c2' : s.testBit (mvO M i) = false := by simpa using c2
        rw [if_neg c2, if_pos (show (0 : Int32) = nI 0 from rfl), if_pos ⟨c1, c2'⟩, p2_s (by omega), p2_s (by omega), clr_s (by omega) c1, fa_or]
        congr 2
        apply Nat.eq_of_testBit_eq
        intro j
        rw [fb_bit_set, flp_bit, fb_bit_flip]
        by_cases z : j = mvO M i
        · subst z
          have hne : ¬ mvO M i = i / 2 := fun e => by rw [e, c1] at c2'; cases c2'
          rw [c2', decide_eq_false hne, decide_eq_true (show mvO M i = mvO M i from rfl)]; rfl
        · rw [decide_eq_false z, Bool.or_false, Bool.xor_false]
    · rw [if_neg c1, if_pos (show (0 : Int32) = nI 0 from rfl), if_neg (fun z => c1 z.1)]
  by_cases c : i % 2 = 0
  · rw [if_pos c]
    exact key 1 (by omega) (by unfold mvO; rw [if_pos c])
  · rw [if_neg c, md_m hw, bd1_s, show (1 : Int32) = nI 1 from rfl, pk_sub (by omega), ← md_m hw]
    exact key (M - 1) (by omega) (by unfold mvO; rw [if_neg c])
theorem flp_ne {s t o : Nat} (h1 : s.testBit t = true) (h2 : s.testBit o = false) : flp s t o ≠ 0 := by
  intro e
  have h3 : (flp s t o).testBit o = true := by
    have hne : ¬ o = t := fun e => by rw [e, h1] at h2; cases h2
    rw [flp_bit, h2, decide_eq_false hne, decide_eq_true (show o = o from rfl)]; rfl
  rw [e, Nat.zero_testBit] at h3; cases h3
theorem mvO_0 {M t : Nat} (ht : t < M) : mvO M (2 * t) = upN M t := by
  unfold mvO upN
  rw [if_pos (by omega), show 2 * t / 2 = t by omega]
  by_cases c : t + 1 < M
  · rw [if_pos c, Nat.mod_eq_of_lt c]
  · rw [if_neg c, show t + 1 = M by omega, Nat.mod_self]
theorem mvO_1 {M t : Nat} (hM : inM M) (ht : t < M) : mvO M (2 * t + 1) < M ∧ upN M (mvO M (2 * t + 1)) = t := by
  have := hM.1
  unfold mvO upN
  rw [if_neg (by omega), show (2 * t + 1) / 2 = t by omega]
  by_cases c : t = 0
  · subst c
    rw [Nat.zero_add, Nat.mod_eq_of_lt (by omega), if_neg (by omega)]
    omega
  · have : (t + (M - 1)) % M = t - 1 := by
      rw [show t + (M - 1) = (t - 1) + M by omega, Nat.add_mod_right, Nat.mod_eq_of_lt (by omega)]
    rw [this, if_pos (by omega)]
    omega
theorem mv_adj {M s i : Nat} (hM : inM M) (hi : i < 2 * M) (h : mvN M s i ≠ 0) : adj M s (mvN M s i) := by
  unfold mvN at h ⊢
  by_cases c : s.testBit (i / 2) = true ∧ s.testBit (mvO M i) = false
  · rw [if_pos c] at h ⊢
    rcases Nat.mod_two_eq_zero_or_one i with z | z
    · have e := mvO_0 (M := M) (t := i / 2) (by omega)
      rw [show 2 * (i / 2) = i by omega] at e
      refine ⟨i / 2, by omega, ?_, by rw [e]⟩
      rw [← e, c.1, c.2]; decide
    · have e := mvO_1 (M := M) (t := i / 2) hM (by omega)
      rw [show 2 * (i / 2) + 1 = i by omega] at e
      refine ⟨mvO M i, e.1, ?_, by rw [e.2, flp_c]⟩
      rw [e.2, c.1, c.2]; decide
  · rw [if_neg c] at h; exact absurd rfl h
theorem adj_mv {M s u : Nat} (hM : inM M) (h : adj M s u) : ∃ i, i < 2 * M ∧ mvN M s i = u ∧ u ≠ 0 := by
  obtain ⟨t, ht, hb, rfl⟩ := h
  have hu := up_lt hM ht
  rcases Bool.eq_false_or_eq_true (s.testBit t) with z | z
  · have z2 : s.testBit (upN M t) = false := by
      rcases Bool.eq_false_or_eq_true (s.testBit (upN M t)) with y | y
      · rw [z, y] at hb; exact absurd rfl hb
      · exact y
    refine ⟨2 * t, by omega, ?_, flp_ne z z2⟩
    unfold mvN
    rw [mvO_0 ht, show 2 * t / 2 = t by omega, if_pos ⟨z, z2⟩]
  · have z2 : s.testBit (upN M t) = true := by
      rcases Bool.eq_false_or_eq_true (s.testBit (upN M t)) with y | y
      · exact y
      · rw [z, y] at hb; exact absurd rfl hb
    refine ⟨2 * upN M t + 1, by omega, ?_, by rw [flp_c]; exact flp_ne z2 z⟩
    obtain ⟨e1, e2⟩ := mvO_1 hM hu.1
    have e3 : mvO M (2 * upN M t + 1) = t := by
      revert e1 e2
      generalize mvO M (2 * upN M t + 1) = x
      intro e1 e2
      unfold upN at e2
      revert e2
      split <;> split <;> omega
    unfold mvN
    rw [e3, show (2 * upN M t + 1) / 2 = upN M t by omega, if_pos ⟨z2, z⟩, flp_c]
theorem md_rough_s {w : Nat → Int32} {M s fu : Nat} (hM : inM M) (hw : w 0 = nI M) (hs : s < 2 ^ M) (hfu : 20 < fu) : m_Md_rough fu w (nI s) = some (nI (rho M s)) := by
  unfold m_Md_rough
  rw [show (1 : Int32) = nI 1 from rfl, md_pairs_s hM hw hs (by omega) hfu, bd1_s, nI_add]
  rfl
def EI (M k : Nat) (d B : Nat → Nat) (best : Nat → Int32) : Prop := ∀ s, s < 2 ^ M → best s = nI (B s) ∧ B s ≤ FAR ∧ (pop M s = k → d s ≤ B s ∧ (d s = 0 → B s = 0))
def rgh (M k : Nat) (r : Nat → Int32) : Prop := ∀ s, s < 2 ^ M → r s = nI (if pop M s = k then rho M s else 0)
theorem lay7 {w best ro : Nat → Int32} {M to fu : Nat} {d : Nat → Nat} (hM : inM M) (hw : w 0 = nI M) (ht : to < 2 ^ M) (hd : isDist M (pop M to) to d) (hfu : 5000 < fu) : ∃ best' ro', m_Md_layEasy_L7 fu w (nI to) (nI (pop M to)) fu 0 best ro = some (best', ro') ∧ EI M (pop M to) d (fun s => if s = to then 0 else FAR) best' ∧ rgh M (pop M to) ro' := by
  have hp := p2_le hM.2
  have hFar : FAR = 1000000 := rfl
  obtain ⟨⟨b1, r1⟩, n', ⟨h1, h2⟩, e⟩ := up_go (F := fun k s (st : (Nat → Int32) × (Nat → Int32)) => m_Md_layEasy_L7 fu w (nI to) (nI (pop M to)) k (nI s) st.1 st.2) (2 ^ M) (fun s st => (∀ x, x < s → st.1 x = nI (if x = to then 0 else FAR)) ∧ ∀ x, x < s → st.2 x = nI (if pop M x = pop M to then rho M x else 0))
    (by
      rintro k s ⟨b, r⟩ hs ⟨h1, h2⟩
      have h1 : ∀ x, x < s → b x = nI (if x = to then 0 else FAR) := h1
      have h2 : ∀ x, x < s → r x = nI (if pop M x = pop M to then rho M x else 0) := h2
      have hpl := pop_le M s
      have hpt := pop_le M to
      have := hM.2
      refine ⟨(upd b s (nI (if s = to then 0 else FAR)), upd r s (nI (if pop M s = pop M to then rho M s else 0))), ⟨fun x hx => ?_, fun x hx => ?_⟩, ?_⟩
      · show upd b s _ x = _
        by_cases y : x = s
        · subst y; exact pk_us
        · rw [pk_un y]; exact h1 x (by omega)
      · show upd r s _ x = _
        by_cases y : x = s
        · subst y; exact pk_us
        · rw [pk_un y]; exact h2 x (by omega)
      · show m_Md_layEasy_L7 fu w (nI to) (nI (pop M to)) (k + 1) (nI s) b r = _
        rw [m_Md_layEasy_L7, md_m hw, bd1_s, p2_s hM.2, ile (by omega) (by omega), if_neg (by omega), ieq (by omega) (by omega), show (if s = to then some (0 : Int32) else some 1000000) = some (nI (if s = to then 0 else FAR)) from by split <;> rfl, bd1_s, ck_s (by omega) (by omega), cl_s (by omega), lt_eq, md_ones_s hM.2 hs (by omega), bd1_s, ieq (by omega) (by omega), md_rough_s hM hw hs (by omega), bd1_s, show (if pop M s = pop M to then some (nI (rho M s)) else some (0 : Int32)) = some (nI (if pop M s = pop M to then rho M s else 0)) from by split <;> rfl, bd1_s, ck_s (by omega) (by omega), lt_eq, lt_eq, nI_1])
    (2 ^ M) fu 0 (best, ro) (by omega) (by omega) ⟨fun x h => absurd h (Nat.not_lt_zero x), fun x h => absurd h (Nat.not_lt_zero x)⟩
  have e : m_Md_layEasy_L7 fu w (nI to) (nI (pop M to)) fu 0 best ro = m_Md_layEasy_L7 fu w (nI to) (nI (pop M to)) (n' + 1) (nI (2 ^ M)) b1 r1 := e
  refine ⟨b1, r1, ?_, fun s hs => ⟨h1 s hs, ?_, fun hk => ?_⟩, h2⟩
  · rw [e, m_Md_layEasy_L7, md_m hw, bd1_s, p2_s hM.2, ile (by omega) (by omega), if_pos (by omega)]
  · dsimp only; split <;> omega
  · dsimp only
    have := hd.2.2.2 s hs hk
    by_cases y : s = to
    · subst y; rw [if_pos rfl, hd.1]; omega
    · obtain ⟨u, -, e⟩ := hd.2.2.1 s hs hk y
      have := rho_le (s := u) hM
      rw [if_neg y]
      exact ⟨by omega, fun z => by omega⟩
theorem lay88 {w best ro : Nat → Int32} {M k s fu : Nat} {d B : Nat → Nat} {fl : Int32} (hM : inM M) (hw : w 0 = nI M) (hs : s < 2 ^ M) {to : Nat} (hd : isDist M k to d) (hr : rgh M k ro) (hE : EI M k d B best) (hfu : 100 < fu) : ∃ fl' best', m_Md_layEasy_L88 w (nI s) ro fu fl 0 best = some (fl', best') ∧ ∃ B', EI M k d B' best' ∧ ((fl' = fl ∧ B' = B ∧ (pop M s = k → ∀ u, adj M s u → B s ≤ B u + rho M u)) ∨ (fl' = 1 ∧ fb_sm B' (2 ^ M) < fb_sm B (2 ^ M))) := by
  have hp := p2_le hM.2
  have hFar : FAR = 1000000 := rfl
  have hM12 := hM.2
  have hM5 := hM.1
  by_cases c : pop M s = k
  · have hrs := rho_le (s := s) hM
    have ers : ro s = nI (rho M s) := by rw [hr s hs, if_pos c]
    obtain ⟨⟨f1, b1⟩, n', ⟨B', hE', hB⟩, e⟩ := up_go (F := fun n i (st : Int32 × (Nat → Int32)) => m_Md_layEasy_L88 w (nI s) ro n st.1 (nI i) st.2) (2 * M) (fun i st => ∃ B', EI M k d B' st.2 ∧ ((st.1 = fl ∧ B' = B ∧ ∀ i', i' < i → mvN M s i' ≠ 0 → B s ≤ B (mvN M s i') + rho M (mvN M s i')) ∨ (st.1 = 1 ∧ fb_sm B' (2 ^ M) < fb_sm B (2 ^ M))))
      (by
        rintro n i ⟨f1, b1⟩ hi ⟨B1, hE1, hB1⟩
        have hE1 : EI M k d B1 b1 := hE1
        have hB1 : (f1 = fl ∧ B1 = B ∧ ∀ i', i' < i → mvN M s i' ≠ 0 → B s ≤ B (mvN M s i') + rho M (mvN M s i')) ∨ (f1 = 1 ∧ fb_sm B1 (2 ^ M) < fb_sm B (2 ^ M)) := hB1
        by_cases z : mvN M s i = 0
        · refine ⟨(f1, b1), ⟨B1, hE1, hB1.imp (fun h => ⟨h.1, h.2.1, fun i' hi' h0 => ?_⟩) id⟩, ?_⟩
          · by_cases y : i' = i
            · subst y; exact absurd z h0
            · exact h.2.2 i' (by omega) h0
          · show m_Md_layEasy_L88 w (nI s) ro (n + 1) f1 (nI i) b1 = _
            rw [m_Md_layEasy_L88, md_m hw, bd1_s, show (2 : Int32) = nI 2 from rfl, pk_mul, ile (by omega) (by omega), if_neg (by omega), ck_s (by omega) (by omega), cl_s (by omega), ers, show (0 : Int32) = nI 0 from rfl, ile (by omega) (by omega), if_neg (by omega), md_moveOf_s hM hw hs hi, bd1_s, lt_eq, z, ile (by omega) (by omega), if_pos (Nat.le_refl 0), bd2_s, lt_eq, nI_1]
        · have ha := mv_adj hM hi z
          have hu := adj_lt hM hs ha
          have hk : pop M (mvN M s i) = k := by rw [adj_pop hM ha, c]
          generalize hmv : mvN M s i = u at *
          have hru := rho_le (s := u) hM
          have eru : ro u = nI (rho M u) := by rw [hr u hu, if_pos hk]
          obtain ⟨es, bs, ds⟩ := hE1 s hs
          obtain ⟨eu, bu, du⟩ := hE1 u hu
          by_cases y : B1 s ≤ B1 u + rho M u
          · refine ⟨(f1, b1), ⟨B1, hE1, hB1.imp (fun h => ⟨h.1, h.2.1, fun i' hi' h0 => ?_⟩) id⟩, ?_⟩
            · by_cases x : i' = i
              · subst x; rw [hmv, ← h.2.1]; exact y
              · exact h.2.2 i' (by omega) h0
            · show m_Md_layEasy_L88 w (nI s) ro (n + 1) f1 (nI i) b1 = _
              rw [m_Md_layEasy_L88, md_m hw, bd1_s, show (2 : Int32) = nI 2 from rfl, pk_mul, ile (by omega) (by omega), if_neg (by omega), ck_s (by omega) (by omega), cl_s (by omega), ers, show (0 : Int32) = nI 0 from rfl, ile (by omega) (by omega), if_neg (by omega), md_moveOf_s hM hw hs hi, bd1_s, lt_eq, hmv, ile (by omega) (by omega), if_neg (by omega), ck_s (by omega) (by omega), ck_s (by omega) (by omega), ck_s (by omega) (by omega), cl_s (by omega), es, eu, eru, nI_add, ile (by omega) (by omega), if_pos y, bd2_s, lt_eq, nI_1]
          · refine ⟨(1, upd b1 s (nI (B1 u + rho M u))), ⟨fun x => if x = s then B1 u + rho M u else B1 x, fun x hx => ?_, Or.inr ⟨rfl, ?_⟩⟩, ?_⟩
            · obtain ⟨ex, bx, dx⟩ := hE1 x hx
              show upd b1 s (nI (B1 u + rho M u)) x = _ ∧ _
              dsimp only
              by_cases q : x = s
              · subst q
                rw [if_pos rfl, pk_us]
                refine ⟨rfl, by omega, fun _ => ?_⟩
                have h1 := hd.2.1 x u hs c ha
                have h2 := (du hk).1
                have h3 := (ds c).2
                exact ⟨by omega, fun z => by have := h3 z; omega⟩
              · rw [if_neg q, pk_un q]
                exact ⟨ex, bx, dx⟩
            · have hsum := fb_sm_upd B1 (B1 u + rho M u) hs
              have hle : fb_sm B1 (2 ^ M) ≤ fb_sm B (2 ^ M) := by
                rcases hB1 with h | h
                · rw [h.2.1]; exact Nat.le_refl _
                · exact Nat.le_of_lt h.2
              omega
            · show m_Md_layEasy_L88 w (nI s) ro (n + 1) f1 (nI i) b1 = _
              rw [m_Md_layEasy_L88, md_m hw, bd1_s, show (2 : Int32) = nI 2 from rfl, pk_mul, ile (by omega) (by omega), if_neg (by omega), ck_s (by omega) (by omega), cl_s (by omega), ers, show (0 : Int32) = nI 0 from rfl, ile (by omega) (by omega), if_neg (by omega), md_moveOf_s hM hw hs hi, bd1_s, lt_eq, hmv, ile (by omega) (by omega), if_neg (by omega), ck_s (by omega) (by omega), ck_s (by omega) (by omega), ck_s (by omega) (by omega), cl_s (by omega), es, eu, eru, nI_add, ile (by omega) (by omega), if_neg y, ck_s (by omega) (by omega), ck_s (by omega) (by omega), ck_s (by omega) (by omega), lt_eq, lt_eq, bd2_s, lt_eq, nI_1])
      (2 * M) fu 0 (fl, best) (by omega) (by omega) ⟨B, hE, Or.inl ⟨rfl, rfl, fun i h => absurd h (Nat.not_lt_zero i)⟩⟩
    have e : m_Md_layEasy_L88 w (nI s) ro fu fl 0 best = m_Md_layEasy_L88 w (nI s) ro (n' + 1) f1 (nI (2 * M)) b1 := e
    refine ⟨f1, b1, ?_, B', hE', hB.imp (fun h => ⟨h.1, h.2.1, fun _ u hu => ?_⟩) id⟩
    · rw [e, m_Md_layEasy_L88, md_m hw, bd1_s, show (2 : Int32) = nI 2 from rfl, pk_mul, ile (by omega) (by omega), if_pos (by omega)]
    · obtain ⟨i, hi, e1, e2⟩ := adj_mv hM hu
      have := h.2.2 i hi (by rw [e1]; exact e2)
      rw [e1] at this; exact this
  · obtain ⟨fu, rfl⟩ : ∃ z, fu = z + 1 := ⟨fu - 1, by omega⟩
    refine ⟨fl, best, ?_, B, hE, Or.inl ⟨rfl, rfl, fun h => absurd h c⟩⟩
    rw [m_Md_layEasy_L88, md_m hw, bd1_s, show (2 : Int32) = nI 2 from rfl, pk_mul, show (0 : Int32) = nI 0 from rfl, ile (by omega) (by omega), if_neg (by omega), ck_s (by omega) (by omega), cl_s (by omega), hr s hs, if_neg c, ile (by omega) (by omega), if_pos (Nat.le_refl 0)]
theorem lay74 {w best ro : Nat → Int32} {M k fu to : Nat} {d B : Nat → Nat} (hM : inM M) (hw : w 0 = nI M) (hd : isDist M k to d) (hr : rgh M k ro) (hE : EI M k d B best) (hfu : 5000 < fu) : ∃ fl' best', m_Md_layEasy_L74 fu w ro fu 0 0 best = some (fl', best') ∧ ∃ B', EI M k d B' best' ∧ ((fl' = 0 ∧ B' = B ∧ ∀ s u, s < 2 ^ M → pop M s = k → adj M s u → B s ≤ B u + rho M u) ∨ (fl' = 1 ∧ fb_sm B' (2 ^ M) < fb_sm B (2 ^ M))) := by
  have hp := p2_le hM.2
  obtain ⟨⟨f1, b1⟩, n', ⟨B', hE', hB⟩, e⟩ := up_go (F := fun n s (st : Int32 × (Nat → Int32)) => m_Md_layEasy_L74 fu w ro n st.1 (nI s) st.2) (2 ^ M) (fun s st => ∃ B', EI M k d B' st.2 ∧ ((st.1 = 0 ∧ B' = B ∧ ∀ s', s' < s → pop M s' = k → ∀ u, adj M s' u → B s' ≤ B u + rho M u) ∨ (st.1 = 1 ∧ fb_sm B' (2 ^ M) < fb_sm B (2 ^ M))))
    (by
      rintro n s ⟨f1, b1⟩ hs ⟨B1, hE1, hB1⟩
      have hE1 : EI M k d B1 b1 := hE1
      obtain ⟨f2, b2, e2, B2, hE2, hB2⟩ := lay88 (fl := f1) (fu := fu) hM hw hs hd hr hE1 (by omega)
      refine ⟨(f2, b2), ⟨B2, hE2, ?_⟩, ?_⟩
      · rcases hB1 with h | h
        · rcases hB2 with g | g
          · refine Or.inl ⟨by rw [g.1]; exact h.1, by rw [g.2.1]; exact h.2.1, fun s' hs' hk => ?_⟩
            by_cases y : s' = s
            · subst y; rw [← h.2.1]; exact g.2.2 hk
            · exact h.2.2 s' (by omega) hk
          · refine Or.inr ⟨g.1, ?_⟩
            rw [← h.2.1]; exact g.2
        · refine Or.inr ?_
          rcases hB2 with g | g
          · exact ⟨by rw [g.1]; exact h.1, by rw [g.2.1]; exact h.2⟩
          · exact ⟨g.1, Nat.lt_trans g.2 h.2⟩
      · show m_Md_layEasy_L74 fu w ro (n + 1) f1 (nI s) b1 = _
        rw [m_Md_layEasy_L74, md_m hw, bd1_s, p2_s hM.2, ile (by omega) (by omega), if_neg (by omega), lt_eq, e2, bd2_s, lt_eq, nI_1])
    (2 ^ M) fu 0 (0, best) (by omega) (by omega) ⟨B, hE, Or.inl ⟨rfl, rfl, fun i h => absurd h (Nat.not_lt_zero i)⟩⟩
  have e : m_Md_layEasy_L74 fu w ro fu 0 0 best = m_Md_layEasy_L74 fu w ro (n' + 1) f1 (nI (2 ^ M)) b1 := e
  refine ⟨f1, b1, ?_, B', hE', hB.imp (fun h => ⟨h.1, h.2.1, fun s u hs hk ha => h.2.2 s hs hk u ha⟩) id⟩
  rw [e, m_Md_layEasy_L74, md_m hw, bd1_s, p2_s hM.2, ile (by omega) (by omega), if_pos (by omega)]
theorem lay65 {w ro : Nat → Int32} {M k fu to : Nat} {d : Nat → Nat} (hM : inM M) (hw : w 0 = nI M) (hd : isDist M k to d) (hr : rgh M k ro) (hfu : 5000 < fu) : ∀ (N n : Nat) (B : Nat → Nat) (best : Nat → Int32), fb_sm B (2 ^ M) ≤ N → N + 1 < n → EI M k d B best → ∃ best', m_Md_layEasy_L65 fu w ro n 1 best = some best' ∧ ∃ B', EI M k d B' best' ∧ ∀ s u, s < 2 ^ M → pop M s = k → adj M s u → B' s ≤ B' u + rho M u := by
  intro N
  induction N with
  | zero =>
    intro n B best hN hn hE
    obtain ⟨n, rfl⟩ : ∃ z, n = z + 2 := ⟨n - 2, by omega⟩
    obtain ⟨f2, b2, e2, B2, hE2, hB2⟩ := lay74 (fu := fu) hM hw hd hr hE hfu
    rcases hB2 with g | g
    · refine ⟨b2, ?_, B2, hE2, by rw [g.2.1]; exact g.2.2⟩
      rw [m_Md_layEasy_L65, if_neg (by decide), lt_eq, lt_eq, e2, bd2_s, g.1, m_Md_layEasy_L65, if_pos rfl]
    · omega
  | succ N ih =>
    intro n B best hN hn hE
    obtain ⟨n, rfl⟩ : ∃ z, n = z + 2 := ⟨n - 2, by omega⟩
    obtain ⟨f2, b2, e2, B2, hE2, hB2⟩ := lay74 (fu := fu) hM hw hd hr hE hfu
    rcases hB2 with g | g
    · refine ⟨b2, ?_, B2, hE2, by rw [g.2.1]; exact g.2.2⟩
      rw [m_Md_layEasy_L65, if_neg (by decide), lt_eq, lt_eq, e2, bd2_s, g.1, m_Md_layEasy_L65, if_pos rfl]
    · obtain ⟨b3, e3, h3⟩ := ih (n + 1) B2 b2 (by omega) (by omega) hE2
      refine ⟨b3, ?_, h3⟩
      rw [m_Md_layEasy_L65, if_neg (by decide), lt_eq, lt_eq, e2, bd2_s, g.1, e3]
