/-! the reference's way: tone by tone, set by set of those gone to -/
/-- all tones of A below T go to tones of B: which are gone to, at what cost -/
def Rch (M A B T g c : Nat) : Prop := ∃ φ : Nat → Nat, (∀ a, a < T → A.testBit a = true → φ a < M ∧ B.testBit (φ a) = true) ∧ acc φ A T = g ∧ fb_sm (fun a => if A.testBit a = true then apN M a (φ a) else 0) T = c
theorem Rch_0 {M A B g c : Nat} : Rch M A B 0 g c ↔ g = 0 ∧ c = 0 := by
  constructor
  · rintro ⟨φ, -, h1, h2⟩
    exact ⟨h1.symm, h2.symm⟩
  · rintro ⟨rfl, rfl⟩
    exact ⟨fun a => a, fun a h => absurd h (Nat.not_lt_zero a), rfl, rfl⟩
theorem Rch_no {M A B T g c : Nat} (h : ¬ A.testBit T = true) : Rch M A B (T + 1) g c ↔ Rch M A B T g c := by
  constructor
  · rintro ⟨φ, h0, h1, h2⟩
    refine ⟨φ, fun a ha => h0 a (by omega), ?_, ?_⟩
    · rw [acc, if_neg h, Nat.or_zero] at h1; exact h1
    · rw [fb_sm_succ, if_neg h, Nat.add_zero] at h2; exact h2
  · rintro ⟨φ, h0, h1, h2⟩
    refine ⟨φ, fun a ha hA => ?_, ?_, ?_⟩
    · by_cases e : a = T
      · subst e; exact absurd hA h
      · exact h0 a (by omega) hA
    · rw [acc, if_neg h, Nat.or_zero]; exact h1
    · rw [fb_sm_succ, if_neg h, Nat.add_zero]; exact h2
theorem Rch_up {M A B T g c : Nat} (h : A.testBit T = true) : Rch M A B (T + 1) g c ↔ ∃ b g' c', b < M ∧ B.testBit b = true ∧ Rch M A B T g' c' ∧ g = g' ||| 2 ^ b ∧ c = c' + apN M T b := by
  constructor
  · rintro ⟨φ, h0, h1, h2⟩
    obtain ⟨q1, q2⟩ := h0 T (by omega) h
    refine ⟨φ T, acc φ A T, fb_sm (fun a => if A.testBit a = true then apN M a (φ a) else 0) T, q1, q2, ⟨φ, fun a ha => h0 a (by omega), rfl, rfl⟩, ?_, ?_⟩
    · rw [acc, if_pos h] at h1; exact h1.symm
    · rw [fb_sm_succ, if_pos h] at h2; exact h2.symm
  · rintro ⟨b, g', c', hb, hB, ⟨φ, h0, h1, h2⟩, e1, e2⟩
    refine ⟨fun a => if a = T then b else φ a, fun a ha hA => ?_, ?_, ?_⟩
    · by_cases e : a = T
      · simp only [if_pos e]; exact ⟨hb, hB⟩
      · simp only [if_neg e]; exact h0 a (by omega) hA
    · rw [acc, if_pos h]
      simp only [if_pos]
      rw [e1, ← h1]
      congr 1
      exact acc_congr (fun k hk => if_neg (by omega))
    · rw [fb_sm_succ, if_pos h]
      simp only [if_pos]
      rw [e2, ← h2]
      congr 1
      exact fb_sm_cong (fun k hk => by rw [if_neg (show ¬ k = T by omega)])
def FAR : Nat := 1000000
/-- a row holds the least costs at stage T -/
def DP (M A B T : Nat) (best : Nat → Int32) : Prop := ∀ g, g < 2 ^ M → ∃ v, v ≤ FAR ∧ best g = nI v ∧ (v < FAR → Rch M A B T g v) ∧ ∀ c, Rch M A B T g c → v ≤ c
theorem or_lt {M g b : Nat} (hg : g < 2 ^ M) (hb : b < M) : g ||| 2 ^ b < 2 ^ M := Nat.or_lt_two_pow hg (Nat.pow_lt_pow_right (by omega) hb)
/-- next while the sets below G, and of G the tones below t, have been gone on from -/
def NX (M B T G t : Nat) (V : Nat → Nat) (next : Nat → Int32) : Prop := ∀ g, g < 2 ^ M → ∃ v, v ≤ FAR ∧ next g = nI v ∧ (v < FAR → ∃ x b, (x < G ∨ (x = G ∧ b < t)) ∧ x < 2 ^ M ∧ b < M ∧ V x < FAR ∧ B.testBit b = true ∧ g = x ||| 2 ^ b ∧ v = V x + apN M T b) ∧ ∀ x b, (x < G ∨ (x = G ∧ b < t)) → x < 2 ^ M → b < M → V x < FAR → B.testBit b = true → g = x ||| 2 ^ b → v ≤ V x + apN M T b
theorem on41 {w best : Nat → Int32} {M B T G fu : Nat} {V : Nat → Nat} (hM : inM M) (hw : w 0 = nI M) (hT : T < M) (hB : B < 2 ^ M) (hV : ∀ g, g < 2 ^ M → V g ≤ FAR ∧ best g = nI (V g)) (hG : G < 2 ^ M) (hfu : 20 < fu) {next : Nat → Int32} (hN : NX M B T G 0 V next) : ∃ next', m_Md_wayOn_L41 w (nI G) best (nI T) (nI B) fu 0 next = some next' ∧ NX M B T (G + 1) 0 V next' := by
  have h5 := hM.1; have h12 := hM.2
  have hp := p2_le h12
  obtain ⟨hVG, eVG⟩ := hV G hG
  have F1 : (1000000 : Int32) = nI FAR := rfl
  have hF : FAR = 1000000 := rfl
  by_cases c : V G < FAR
  · obtain ⟨N, n', hc, e⟩ := up_go (F := fun n t (N : Nat → Int32) => m_Md_wayOn_L41 w (nI G) best (nI T) (nI B) n (nI t) N) M (fun t N => NX M B T G t V N)
      (by
        rintro n t N ht hN
        have hap := apN_le hT ht
        have hor := or_lt hG ht
        obtain ⟨v, hv1, hv2, hv3, hv4⟩ := hN (G ||| 2 ^ t) hor
        have unf : ∀ X : Nat → Int32, (if B.testBit t = true ∧ V G + apN M T t < v then X = upd N (G ||| 2 ^ t) (nI (V G + apN M T t)) else X = upd N (G ||| 2 ^ t) (nI v)) → m_Md_wayOn_L41 w (nI G) best (nI T) (nI B) (n + 1) (nI t) N = m_Md_wayOn_L41 w (nI G) best (nI T) (nI B) n (nI (t + 1)) X := by
          intro X hX
          rw [m_Md_wayOn_L41, md_m hw, bd1_s, ile (by omega) (by omega), if_neg (by omega), ck_s (by omega) (by omega), cl_s (by omega), eVG, F1, ile (by omega) (by omega), if_neg (by omega), p2_s (by omega), fa_or, lt_eq, ck_s (by omega) (by omega), md_apart_s hM hw hT ht, bd1_s, nI_add, lt_eq, md_has (by omega) (by omega), bd1_s, ck_s (by omega) (by omega), cl_s (by omega), hv2, ck_s (by omega) (by omega), ile (by omega) (by omega)]
          by_cases q1 : B.testBit t = true
          · rw [if_pos q1, if_neg (by decide)]
            by_cases q2 : v ≤ V G + apN M T t
            · rw [if_neg (by omega)] at hX
              rw [if_pos q2, bd1_s, ck_s (by omega) (by omega), lt_eq, lt_eq, nI_1, hX]
            · rw [if_pos ⟨q1, by omega⟩] at hX
              rw [if_neg q2, bd1_s, ck_s (by omega) (by omega), lt_eq, lt_eq, nI_1, hX]
          · rw [if_neg (fun z => q1 z.1)] at hX
            rw [if_neg q1, if_pos rfl, bd1_s, ck_s (by omega) (by omega), lt_eq, lt_eq, nI_1, hX]
        by_cases q : B.testBit t = true ∧ V G + apN M T t < v
        · refine ⟨_, ?_, unf _ (by rw [if_pos q])⟩
          intro g hg
          by_cases e : g = G ||| 2 ^ t
          · subst e
            refine ⟨V G + apN M T t, by omega, pk_us, fun _ => ⟨G, t, Or.inr ⟨rfl, by omega⟩, hG, ht, c, q.1, rfl, rfl⟩, ?_⟩
            intro x b hx hx2 hb hVx hBb eg
            rcases hx with h | ⟨h1, h2⟩
            · have := hv4 x b (Or.inl h) hx2 hb hVx hBb eg
              omega
            · by_cases z : b = t
              · subst z; subst h1; omega
              · have := hv4 x b (Or.inr ⟨h1, by omega⟩) hx2 hb hVx hBb eg
                omega
          · obtain ⟨v', k1, k2, k3, k4⟩ := hN g hg
            refine ⟨v', k1, by rw [pk_un e]; exact k2, fun h => ?_, ?_⟩
            · obtain ⟨x, b, hx, r⟩ := k3 h
              exact ⟨x, b, hx.elim Or.inl (fun z => Or.inr ⟨z.1, by omega⟩), r⟩
            · intro x b hx hx2 hb hVx hBb eg
              rcases hx with h | ⟨h1, h2⟩
              · exact k4 x b (Or.inl h) hx2 hb hVx hBb eg
              · by_cases z : b = t
                · subst z; subst h1; exact absurd eg e
                · exact k4 x b (Or.inr ⟨h1, by omega⟩) hx2 hb hVx hBb eg
        · refine ⟨_, ?_, unf _ (by rw [if_neg q])⟩
          intro g hg
          obtain ⟨v', k1, k2, k3, k4⟩ := hN g hg
          have key : upd N (G ||| 2 ^ t) (nI v) g = nI v' := by
            by_cases e : g = G ||| 2 ^ t
            · subst e
              rw [pk_us, ← hv2, k2]
            · rw [pk_un e, k2]
          refine ⟨v', k1, key, fun h => ?_, ?_⟩
          · obtain ⟨x, b, hx, r⟩ := k3 h
            exact ⟨x, b, hx.elim Or.inl (fun z => Or.inr ⟨z.1, by omega⟩), r⟩
          · intro x b hx hx2 hb hVx hBb eg
            rcases hx with h | ⟨h1, h2⟩
            · exact k4 x b (Or.inl h) hx2 hb hVx hBb eg
            · by_cases z : b = t
              · subst z; subst h1
                have : v' = v := by
                  rw [eg, hv2] at k2
                  exact ((nI_eq (by omega) (by omega)).mp k2).symm
                rw [this]
                rcases Nat.lt_or_ge (V x + apN M T b) v with y | y
                · exact absurd ⟨hBb, y⟩ q
                · exact y
              · exact k4 x b (Or.inr ⟨h1, by omega⟩) hx2 hb hVx hBb eg)
      M fu 0 next (by omega) (by omega) hN
    have e : m_Md_wayOn_L41 w (nI G) best (nI T) (nI B) fu 0 next = m_Md_wayOn_L41 w (nI G) best (nI T) (nI B) (n' + 1) (nI M) N := e
    refine ⟨N, ?_, ?_⟩
    · rw [e, m_Md_wayOn_L41, md_m hw, bd1_s, ile (by omega) (by omega), if_pos (by omega)]
    · intro g hg
      obtain ⟨v', k1, k2, k3, k4⟩ := hc g hg
      refine ⟨v', k1, k2, fun h => ?_, ?_⟩
      · obtain ⟨x, b, hx, r⟩ := k3 h
        exact ⟨x, b, Or.inl (by omega), r⟩
      · intro x b hx hx2 hb hVx hBb eg
        refine k4 x b ?_ hx2 hb hVx hBb eg
        rcases hx with h | ⟨h1, h2⟩
        · rcases Nat.lt_or_ge x G with y | y
          · exact Or.inl y
          · exact Or.inr ⟨by omega, hb⟩
        · omega
  · refine ⟨next, ?_, ?_⟩
    · obtain ⟨n', rfl⟩ : ∃ k, fu = k + 1 := ⟨fu - 1, by omega⟩
      rw [m_Md_wayOn_L41, md_m hw, bd1_s, show (0 : Int32) = nI 0 from rfl, ile (by omega) (by omega), if_neg (by omega), ck_s (by omega) (by omega), cl_s (by omega), eVG, F1, ile (by omega) (by omega), if_pos (by omega)]
    · intro g hg
      obtain ⟨v', k1, k2, k3, k4⟩ := hN g hg
      refine ⟨v', k1, k2, fun h => ?_, ?_⟩
      · obtain ⟨x, b, hx, r⟩ := k3 h
        exact ⟨x, b, Or.inl (by omega), r⟩
      · intro x b hx hx2 hb hVx hBb eg
        refine k4 x b ?_ hx2 hb hVx hBb eg
        rcases hx with h | ⟨h1, h2⟩
        · rcases Nat.lt_or_ge x G with y | y
          · exact Or.inl y
          · obtain rfl : x = G := by omega
            exact absurd hVx c
        · omega
theorem wayOn_s {w best next : Nat → Int32} {M A B T fu : Nat} (hM : inM M) (hw : w 0 = nI M) (hT : T < M) (hA : A.testBit T = true) (hB : B < 2 ^ M) (hfu : 5000 < fu) (hD : DP M A B T best) : ∃ best' next', m_Md_wayOn fu best next w (nI T) (nI B) = some (best', next') ∧ DP M A B (T + 1) best' := by
  have h5 := hM.1; have h12 := hM.2
  have hp := p2_le h12
  have F1 : (1000000 : Int32) = nI FAR := rfl
  have hF : FAR = 1000000 := rfl
  -- the values of best
  have hV : ∀ g, g < 2 ^ M → (best g).toNatClampNeg ≤ FAR ∧ best g = nI (best g).toNatClampNeg := by
    intro g hg
    obtain ⟨v, h1, h2, -⟩ := hD g hg
    rw [h2, cl_s (by omega)]
    exact ⟨h1, rfl⟩
  unfold m_Md_wayOn
  rw [lt_eq]
  -- all far
  obtain ⟨N1, n1, hN1, e1⟩ := up_go (F := fun n x (N : Nat → Int32) => m_Md_wayOn_L2 w n (nI x) N) (2 ^ M) (fun x N => ∀ g, g < x → N g = nI FAR)
    (by
      rintro n x N hx hN
      refine ⟨upd N x (nI FAR), ?_, ?_⟩
      · intro g hg
        by_cases q : g = x
        · subst q; exact pk_us
        · rw [pk_un q]; exact hN g (by omega)
      · show m_Md_wayOn_L2 w (n + 1) (nI x) N = _
        rw [m_Md_wayOn_L2, md_m hw, bd1_s, p2_s h12, ile (by omega) (by omega), if_neg (by omega), ck_s (by omega) (by omega), cl_s (by omega), lt_eq, lt_eq, nI_1, F1])
    (2 ^ M) fu 0 next (by omega) (by omega) (fun g hg => absurd hg (Nat.not_lt_zero g))
  have e1 : m_Md_wayOn_L2 w fu 0 next = m_Md_wayOn_L2 w (n1 + 1) (nI (2 ^ M)) N1 := e1
  rw [e1, m_Md_wayOn_L2, md_m hw, bd1_s, p2_s h12, ile (by omega) (by omega), if_pos (by omega), bd1_s, lt_eq]
  -- on from each set
  obtain ⟨N2, n2, hN2, e2⟩ := up_go (F := fun n x (N : Nat → Int32) => m_Md_wayOn_L28 fu w best (nI T) (nI B) n (nI x) N) (2 ^ M) (fun x N => NX M B T x 0 (fun g => (best g).toNatClampNeg) N)
    (by
      rintro n x N hx hN
      obtain ⟨N', e', hN'⟩ := on41 hM hw hT hB hV hx (show 20 < fu by omega) hN
      refine ⟨N', hN', ?_⟩
      show m_Md_wayOn_L28 fu w best (nI T) (nI B) (n + 1) (nI x) N = _
      rw [m_Md_wayOn_L28, md_m hw, bd1_s, p2_s h12, ile (by omega) (by omega), if_neg (by omega), lt_eq, e', bd1_s, lt_eq, nI_1])
    (2 ^ M) fu 0 N1 (by omega) (by omega) (by
      intro g hg
      refine ⟨FAR, Nat.le_refl _, hN1 g hg, fun h => absurd h (Nat.lt_irrefl _), ?_⟩
      intro x b hx
      rcases hx with h | ⟨_, h⟩ <;> exact absurd h (Nat.not_lt_zero _))
  have e2 : m_Md_wayOn_L28 fu w best (nI T) (nI B) fu 0 N1 = m_Md_wayOn_L28 fu w best (nI T) (nI B) (n2 + 1) (nI (2 ^ M)) N2 := e2
  rw [e2, m_Md_wayOn_L28, md_m hw, bd1_s, p2_s h12, ile (by omega) (by omega), if_pos (by omega), bd1_s, lt_eq]
  -- taken over
  obtain ⟨B3, n3, hB3, e3⟩ := up_go (F := fun n x (b : Nat → Int32) => m_Md_wayOn_L139 w N2 n (nI x) b) (2 ^ M) (fun x b => ∀ g, g < x → b g = N2 g)
    (by
      rintro n x N hx hN
      refine ⟨upd N x (N2 x), ?_, ?_⟩
      · intro g hg
        by_cases q : g = x
        · subst q; exact pk_us
        · rw [pk_un q]; exact hN g (by omega)
      · show m_Md_wayOn_L139 w N2 (n + 1) (nI x) N = _
        rw [m_Md_wayOn_L139, md_m hw, bd1_s, p2_s h12, ile (by omega) (by omega), if_neg (by omega), ck_s (by omega) (by omega), ck_s (by omega) (by omega), cl_s (by omega), lt_eq, lt_eq, nI_1])
    (2 ^ M) fu 0 best (by omega) (by omega) (fun g hg => absurd hg (Nat.not_lt_zero g))
  have e3 : m_Md_wayOn_L139 w N2 fu 0 best = m_Md_wayOn_L139 w N2 (n3 + 1) (nI (2 ^ M)) B3 := e3
  rw [e3, m_Md_wayOn_L139, md_m hw, bd1_s, p2_s h12, ile (by omega) (by omega), if_pos (by omega), bd1_s]
  refine ⟨B3, N2, rfl, ?_⟩
  intro g hg
  obtain ⟨v, k1, k2, k3, k4⟩ := hN2 g hg
  refine ⟨v, k1, by rw [hB3 g hg]; exact k2, ?_, ?_⟩
  · intro h
    obtain ⟨x, b, -, hx2, hb, hVx, hBb, eg, ev⟩ := k3 h
    obtain ⟨vx, q1, q2, q3, -⟩ := hD x hx2
    have : (best x).toNatClampNeg = vx := by rw [q2, cl_s (by omega)]
    dsimp only at hVx ev
    rw [this] at hVx ev
    rw [Rch_up hA]
    exact ⟨b, x, vx, hb, hBb, q3 hVx, eg, ev⟩
  · intro c hc
    rw [Rch_up hA] at hc
    obtain ⟨b, g', c', hb, hBb, hR, eg, ec⟩ := hc
    have hg' : g' < 2 ^ M := by
      obtain ⟨φ, f1, f2, -⟩ := hR
      rw [← f2]
      -- only tones of A below T count: give the others a tone too
      have : acc φ A T = acc (fun a => if A.testBit a = true then φ a else 0) A T := by
        apply Nat.eq_of_testBit_eq
        intro i
        rw [Bool.eq_iff_iff, acc_bit, acc_bit]
        constructor
        · rintro ⟨k, z1, z2, z3⟩; exact ⟨k, z1, z2, by rw [if_pos z2]; exact z3⟩
        · rintro ⟨k, z1, z2, z3⟩; rw [if_pos z2] at z3; exact ⟨k, z1, z2, z3⟩
      rw [this]
      refine acc_lt _ _ _ _ (fun a ha => ?_)
      by_cases z : A.testBit a = true
      · rw [if_pos z]; exact (f1 a ha z).1
      · rw [if_neg z]; omega
    obtain ⟨vx, q1, q2, -, q4⟩ := hD g' hg'
    have e0 : (best g').toNatClampNeg = vx := by rw [q2, cl_s (by omega)]
    have hle := q4 c' hR
    have hap := apN_le hT hb
    by_cases z : vx < FAR
    · have := k4 g' b (Or.inl hg') hg' hb (by show (best g').toNatClampNeg < FAR; rw [e0]; exact z) hBb eg
      dsimp only at this
      rw [e0] at this
      omega
    · omega
theorem wayDown_s {w best next : Nat → Int32} {M A B fu : Nat} (hM : inM M) (hw : w 0 = nI M) (hA : A < 2 ^ M) (hB : B < 2 ^ M) (hfu : 5000 < fu) : ∃ v best' next', m_Md_wayDown fu best next w (nI A) (nI B) = some (nI v, best', next') ∧ v ≤ FAR ∧ (v < FAR → Rch M A B M B v) ∧ ∀ c, Rch M A B M B c → v ≤ c := by
  have h5 := hM.1; have h12 := hM.2
  have hp := p2_le h12
  have F1 : (1000000 : Int32) = nI FAR := rfl
  have hF : FAR = 1000000 := rfl
  unfold m_Md_wayDown
  rw [lt_eq]
  obtain ⟨B1, n1, hB1, e1⟩ := up_go (F := fun n x (b : Nat → Int32) => m_Md_wayDown_L2 w n (nI x) b) (2 ^ M) (fun x b => ∀ g, g < x → b g = nI (if g = 0 then 0 else FAR))
    (by
      rintro n x N hx hN
      refine ⟨upd N x (nI (if x = 0 then 0 else FAR)), ?_, ?_⟩
      · intro g hg
        by_cases q : g = x
        · subst q; exact pk_us
        · rw [pk_un q]; exact hN g (by omega)
      · show m_Md_wayDown_L2 w (n + 1) (nI x) N = _
        rw [m_Md_wayDown_L2, md_m hw, bd1_s, p2_s h12, ile (by omega) (by omega), if_neg (by omega)]
        by_cases q : x = 0
        · subst q
          rw [if_pos (show nI 0 = 0 from rfl), if_pos rfl, bd1_s, ck_s (by omega) (by omega), cl_s (by omega), lt_eq, lt_eq, nI_1]
          rfl
        · rw [if_neg (nI_ne0 (by omega) (by omega)), if_neg q, bd1_s, ck_s (by omega) (by omega), cl_s (by omega), lt_eq, lt_eq, nI_1, F1])
    (2 ^ M) fu 0 best (by omega) (by omega) (fun g hg => absurd hg (Nat.not_lt_zero g))
  have e1 : m_Md_wayDown_L2 w fu 0 best = m_Md_wayDown_L2 w (n1 + 1) (nI (2 ^ M)) B1 := e1
  rw [e1, m_Md_wayDown_L2, md_m hw, bd1_s, p2_s h12, ile (by omega) (by omega), if_pos (by omega), bd1_s, lt_eq]
  obtain ⟨⟨B2, N2⟩, n2, hD, e2⟩ := up_go (F := fun n a (c : (Nat → Int32) × (Nat → Int32)) => m_Md_wayDown_L36 fu w (nI A) (nI B) n (nI a) c.1 c.2) M (fun a c => DP M A B a c.1)
    (by
      rintro n a ⟨b, N⟩ ha hD
      by_cases q : A.testBit a = true
      · obtain ⟨b', N', e', hD'⟩ := wayOn_s (next := N) hM hw ha q hB hfu hD
        refine ⟨(b', N'), hD', ?_⟩
        show m_Md_wayDown_L36 fu w (nI A) (nI B) (n + 1) (nI a) b N = _
        have e' : m_Md_wayOn fu b N w (nI a) (nI B) = some (b', N') := e'
        rw [m_Md_wayDown_L36, md_m hw, bd1_s, ile (by omega) (by omega), if_neg (by omega), md_has (by omega) (by omega), bd1_s, if_pos q, if_neg (by decide), e', bd2_s, bd2_s, lt_eq, nI_1]
      · refine ⟨(b, N), ?_, ?_⟩
        · intro g hg
          obtain ⟨v, z1, z2, z3, z4⟩ := hD g hg
          exact ⟨v, z1, z2, fun h => (Rch_no q).mpr (z3 h), fun c h => z4 c ((Rch_no q).mp h)⟩
        · show m_Md_wayDown_L36 fu w (nI A) (nI B) (n + 1) (nI a) b N = _
          rw [m_Md_wayDown_L36, md_m hw, bd1_s, ile (by omega) (by omega), if_neg (by omega), md_has (by omega) (by omega), bd1_s, if_neg q, if_pos rfl, bd2_s, lt_eq, nI_1])
    M fu 0 (B1, next) (by omega) (by omega) (by
      intro g hg
      refine ⟨if g = 0 then 0 else FAR, by split <;> omega, hB1 g hg, ?_, ?_⟩
      · intro h
        by_cases q : g = 0
        · rw [if_pos q]; exact Rch_0.mpr ⟨q, rfl⟩
        · rw [if_neg q] at h; exact absurd h (Nat.lt_irrefl _)
      · intro c hc
        obtain ⟨z1, z2⟩ := Rch_0.mp hc
        rw [if_pos z1]; omega)
  have e2 : m_Md_wayDown_L36 fu w (nI A) (nI B) fu 0 B1 next = m_Md_wayDown_L36 fu w (nI A) (nI B) (n2 + 1) (nI M) B2 N2 := e2
  obtain ⟨v, z1, z2, z3, z4⟩ := hD B hB
  refine ⟨v, B2, N2, ?_, z1, z3, z4⟩
  have z2 : B2 B = nI v := z2
  rw [e2, m_Md_wayDown_L36, md_m hw, bd1_s, ile (by omega) (by omega), if_pos (by omega), bd2_s, ck_s (by omega) (by omega), cl_s (by omega), z2]
