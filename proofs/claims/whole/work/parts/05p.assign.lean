/-! the class's ways: goal by goal -/
theorem or_s {RB j : Nat} (hj : j ≤ 12) : nI RB ||| ((1 : Int32) <<< (nI j &&& 31)) = nI (RB ||| 2 ^ j) := by rw [p2_s hj, fa_or]
theorem free_loop {n m i fu : Nat} {ex p : Nat → Int32} {P : Nat → Nat} (hm : m ≤ 12) (hn : n ≤ m) (hi : i ≤ n) (hfu : 20 < fu)
    (hE : ∀ g j, 1 ≤ g → g ≤ n → 1 ≤ j → j ≤ m → 0 ≤ (ex (g * 13 + j)).toInt ∧ (ex (g * 13 + j)).toInt ≤ 6) (hp : ∀ j, j ≤ m → p j = nI (P j)) (hinj : ∀ j k, j ≤ m → k ≤ m → P j ≠ 0 → P j = P k → j = k) (hPi : ∀ j, j ≤ m → P j ≤ i) (hfree : ∃ f, 1 ≤ f ∧ f ≤ m ∧ P f = 0) :
    ∀ (d stp k j0 RB : Nat) (gp rp sl cf : Nat → Int32) (tm : Nat → Nat), stp + d = m + 1 → d < k → stp ≤ m → SI n m i stp j0 RB ex gp rp sl cf P tm → ∃ stp' j0' RB' gp' rp' sl' cf' tm', m_Ways_findFreeGoer_L25 fu (nI m) p ex k (nI j0) (nI stp) cf gp rp (nI RB) sl = some (nI j0', cf', gp', rp', nI RB', sl') ∧ stp' ≤ m ∧ SI n m i stp' j0' RB' ex gp' rp' sl' cf' P tm' ∧ P j0' = 0
  | 0, stp, k, j0, RB, gp, rp, sl, cf, tm, e, hk, hs, h => by omega
  | d + 1, stp, k, j0, RB, gp, rp, sl, cf, tm, e, hk, hs, h => by
    obtain ⟨k, rfl⟩ : ∃ z, k = z + 1 := ⟨k - 1, by omega⟩
    have h6 : j0 ≤ m := h.2.2.2.2.2.1.1
    have hPj := hPi j0 h6
    by_cases c : P j0 = 0
    · refine ⟨stp, j0, RB, gp, rp, sl, cf, tm, ?_, hs, h, c⟩
      rw [m_Ways_findFreeGoer_L25, ilt (by omega) (by omega), if_neg (by omega), ck_s (by omega) (by omega), cl_s (by omega), hp j0 h6, c, if_pos (show nI 0 = 0 from rfl)]
    · obtain ⟨c', cf', sl1, gp', rp', sl', e1, e2, hS, hlt⟩ := SI_step hm hn hi hfu hE hp hinj hPi hfree h c
      have hc' : c' ≤ m := hS.2.2.2.2.2.1.1
      obtain ⟨stp2, j2, RB2, gp2, rp2, sl2, cf2, tm2, e3, q1, q2, q3⟩ := free_loop hm hn hi hfu hE hp hinj hPi hfree d (stp + 1) k c' (RB ||| 2 ^ j0) gp' rp' sl' cf' _ (by omega) (by omega) (by omega) hS
      refine ⟨stp2, j2, RB2, gp2, rp2, sl2, cf2, tm2, ?_, q1, q2, q3⟩
      rw [m_Ways_findFreeGoer_L25, ilt (by omega) (by omega), if_neg (by omega), ck_s (by omega) (by omega), cl_s (by omega), hp j0 h6, if_neg (nI_ne0 (by omega) (by omega)), or_s (by omega), lt_eq, e1, bd3_s, lt_eq, ck_s (by omega) (by omega), cl_s (by omega), e2, bd3_s, lt_eq, lt_eq, nI_1]
      exact e3
/-- what holds when the goals up to i have their goers -/
def HI (n m i : Nat) (ex gp rp : Nat → Int32) (P : Nat → Nat) : Prop :=
  (∀ g j, 1 ≤ g → g ≤ n → 1 ≤ j → j ≤ m → (gp g).toInt + (rp j).toInt ≤ (ex (g * 13 + j)).toInt) ∧
  (∀ j, 1 ≤ j → j ≤ m → P j ≤ i ∧ (rp j).toInt ≤ 0 ∧ (P j = 0 → (rp j).toInt = 0) ∧ (P j ≠ 0 → (gp (P j)).toInt + (rp j).toInt = (ex (P j * 13 + j)).toInt)) ∧
  (∀ j k, 1 ≤ j → j ≤ m → 1 ≤ k → k ≤ m → P j ≠ 0 → P j = P k → j = k) ∧
  (∀ g, 1 ≤ g → g ≤ i → ∃ j, 1 ≤ j ∧ j ≤ m ∧ P j = g) ∧
  (∀ g, 1 ≤ g → g ≤ n → 0 ≤ (gp g).toInt ∧ (gp g).toInt ≤ 6) ∧
  (fb_si (fun g => (gp (1 + g)).toInt) n + fb_si (fun j => (rp j).toInt) (m + 1) = 0)
theorem hi_free {n m i : Nat} {ex gp rp : Nat → Int32} {P : Nat → Nat} (h : HI n m i ex gp rp P) (hi : i < m) : ∃ f, 1 ≤ f ∧ f ≤ m ∧ P f = 0 := by
  obtain ⟨-, h2, h3, -⟩ := h
  rcases Classical.em (∃ f, 1 ≤ f ∧ f ≤ m ∧ P f = 0) with c | c
  · exact c
  · have hne : ∀ f, 1 ≤ f → f ≤ m → P f ≠ 0 := fun f a b z => c ⟨f, a, b, z⟩
    have := fb_holes i m (fun k => P (k + 1) - 1) (fun k hk => by
      have h4 := (h2 (k + 1) (by omega) (by omega)).1
      have h5 := hne (k + 1) (by omega) (by omega)
      try dsimp only
      omega) (fun a b hab hb e => by
      have h5 := hne (a + 1) (by omega) (by omega)
      have h6 := hne (b + 1) (by omega) (by omega)
      try dsimp only at e
      have := h3 (a + 1) (b + 1) (by omega) (by omega) (by omega) (by omega) h5 (by omega)
      omega)
    omega
theorem search_s {n m i fu : Nat} {ex gp rp sl cf p : Nat → Int32} {reached : Int32} {P : Nat → Nat} (hm : m ≤ 12) (hn : n ≤ m) (hi : i + 1 ≤ n) (hfu : 20 < fu)
    (hE : ∀ g j, 1 ≤ g → g ≤ n → 1 ≤ j → j ≤ m → 0 ≤ (ex (g * 13 + j)).toInt ∧ (ex (g * 13 + j)).toInt ≤ 6) (hp : ∀ j, 1 ≤ j → j ≤ m → p j = nI (P j)) (h : HI n m i ex gp rp P) : ∃ stp j0 RB gp' rp' sl' cf' p' tm, m_Ways_findFreeGoer fu cf ex p gp rp (nI m) reached sl (nI (i + 1)) = some (nI j0, cf', p', gp', rp', nI RB, sl') ∧ stp ≤ m ∧ (∀ j, j ≤ m → p' j = nI (if j = 0 then i + 1 else P j)) ∧ SI n m (i + 1) stp j0 RB ex gp' rp' sl' cf' (fun j => if j = 0 then i + 1 else P j) tm ∧ (if j0 = 0 then i + 1 else P j0) = 0 := by
  obtain ⟨f, f1, f2, f3⟩ := hi_free h (by omega)
  obtain ⟨h1, h2, h3, h4, h5, h6⟩ := h
  have hp' : ∀ j, j ≤ m → upd p 0 (nI (i + 1)) j = nI (if j = 0 then i + 1 else P j) := by
    intro j hj
    by_cases z : j = 0
    · subst z; rw [pk_us, if_pos rfl]
    · rw [pk_un z, if_neg z]; exact hp j (by omega) hj
  have hz : ∀ r, (0 : Nat).testBit r = false := fun r => Nat.zero_testBit r
  obtain ⟨stp, j0, RB, gp', rp', sl', cf', tm, e, q1, q2, q3⟩ := free_loop (n := n) (m := m) (i := i + 1) (ex := ex) (p := upd p 0 (nI (i + 1))) (P := fun j => if j = 0 then i + 1 else P j) hm hn hi hfu hE hp'
    (fun j k hj hk hne e => by
      try dsimp only at hne e
      by_cases z : j = 0
      · by_cases y : k = 0
        · omega
        · rw [if_pos z, if_neg y] at e
          have := (h2 k (by omega) hk).1
          omega
      · by_cases y : k = 0
        · rw [if_neg z, if_pos y] at e
          have := (h2 j (by omega) hj).1
          omega
        · rw [if_neg z] at hne
          rw [if_neg z, if_neg y] at e
          exact h3 j k (by omega) hj (by omega) hk hne e)
    (fun j hj => by
      try dsimp only
      by_cases z : j = 0
      · rw [if_pos z]; omega
      · rw [if_neg z]
        have := (h2 j (by omega) hj).1
        omega)
    ⟨f, f1, f2, by rw [if_neg (by omega)]; exact f3⟩
    (m + 1) 0 fu 0 0 gp rp (fa_fill (fun _ => 1000000) sl 13) cf (fun _ => 0) (by omega) (by omega) (by omega)
    ⟨h1, (fun j j1 j2 => by
        obtain ⟨_, k2, k3, k4⟩ := h2 j j1 j2
        try dsimp only
        rw [if_neg (by omega)]
        exact ⟨k2, k3, k4⟩), h5, h6, ⟨by omega, (fun r z => by rw [hz] at z; cases z), fb_ct_zero.mpr (fun k _ => hz k)⟩, ⟨by omega, hz 0, fun _ => rfl, fun z => absurd rfl z⟩, (fun j j1 j2 z => by
        rcases z with z | z
        · rw [hz] at z; cases z
        · omega), (fun j _ => Nat.le_refl 0), (fun j j1 j2 _ => by
        rw [fa_fill_in (by omega)]
        exact ⟨by decide, fun _ => by decide, (fun r z => by rw [hz] at z; cases z), fun z => absurd rfl z⟩)⟩
  refine ⟨stp, j0, RB, gp', rp', sl', cf', upd p 0 (nI (i + 1)), tm, ?_, q1, hp', q2, q3⟩
  unfold m_Ways_findFreeGoer
  have e : m_Ways_findFreeGoer_L25 fu (nI m) (upd p 0 (nI (i + 1))) ex fu 0 0 cf gp rp 0 (fa_fill (fun _ => 1000000) sl 13) = some (nI j0, cf', gp', rp', nI RB, sl') := e
  rw [fill_s sl 1000000 (by omega) (by omega), bd1_s, lt_eq, show ck (0 : Int32) 13 = ck (nI 0) 13 from rfl, ck_s (by omega) (by omega), lt_eq, lt_eq, lt_eq, show (0 : Int32).toNatClampNeg = 0 from rfl, e, bd6_s]
/-- the goals are handed on along the way that was found; g is the goer without one -/
def HO (n m i g : Nat) (RB : Nat) (ex gp rp : Nat → Int32) (P Pc tm : Nat → Nat) : Prop :=
  (∀ j, RB.testBit j = true → tm j ≤ tm g → Pc j = P j) ∧
  (∀ x, 1 ≤ x → x ≤ i → ∃ j, j ≤ m ∧ j ≠ g ∧ Pc j = x) ∧
  (∀ j k, j ≤ m → k ≤ m → j ≠ g → k ≠ g → Pc j ≠ 0 → Pc j = Pc k → j = k) ∧
  (∀ j, 1 ≤ j → j ≤ m → j ≠ g → Pc j ≤ i ∧ (Pc j = 0 → (rp j).toInt = 0) ∧ (Pc j ≠ 0 → (gp (Pc j)).toInt + (rp j).toInt = (ex (Pc j * 13 + j)).toInt))
theorem pass_loop {n m i fu stp j0 RB : Nat} {ex gp rp sl cf : Nat → Int32} {P tm : Nat → Nat} (hm : m ≤ 12) (hS : SI n m i stp j0 RB ex gp rp sl cf P tm) (hPi : ∀ j, j ≤ m → P j ≤ i) :
    ∀ (d k st g : Nat) (pc : Nat → Int32) (Pc : Nat → Nat), tm g ≤ d → d < k → st + tm g ≤ m → g ≤ m → (RB.testBit g = true ∨ g = j0) → (∀ j, j ≤ m → pc j = nI (Pc j)) → HO n m i g RB ex gp rp P Pc tm → ∃ pc' Pc', m_Ways_passOn_L4 (nI m) cf k (nI g) (nI st) pc = some pc' ∧ (∀ j, j ≤ m → pc' j = nI (Pc' j)) ∧ HO n m i 0 RB ex gp rp P Pc' tm := by
  intro d
  induction d with
  | zero =>
    intro k st g pc Pc hd hk hst hg hgR hpc hO
    obtain ⟨k, rfl⟩ : ∃ z, k = z + 1 := ⟨k - 1, by omega⟩
    by_cases z : g = 0
    · subst z
      refine ⟨pc, Pc, ?_, hpc, hO⟩
      rw [m_Ways_passOn_L4, ilt (by omega) (by omega), if_neg (by omega), if_pos (show nI 0 = 0 from rfl)]
    · obtain ⟨c, y1, y2, y3, y4⟩ := hS.2.2.2.2.2.2.1 g (by omega) hg hgR
      omega
  | succ d ih =>
    intro k st g pc Pc hd hk hst hg hgR hpc hO
    obtain ⟨k, rfl⟩ : ∃ z, k = z + 1 := ⟨k - 1, by omega⟩
    by_cases z : g = 0
    · subst z
      refine ⟨pc, Pc, ?_, hpc, hO⟩
      rw [m_Ways_passOn_L4, ilt (by omega) (by omega), if_neg (by omega), if_pos (show nI 0 = 0 from rfl)]
    · obtain ⟨c, y1, y2, y3, y4⟩ := hS.2.2.2.2.2.2.1 g (by omega) hg hgR
      have hcm := (hS.2.2.2.2.1.2.1 c y2).1
      have hcg : ¬ c = g := fun e => by subst e; omega
      obtain ⟨o1, o2, o3, o4⟩ := hO
      have hPc : Pc c = P c := o1 c y2 (by omega)
      obtain ⟨pc', Pc', e, q1, q2⟩ := ih k (st + 1) c (upd pc g (pc c)) (fun j => if j = g then Pc c else Pc j) (by omega) (by omega) (by omega) hcm (Or.inl y2) (fun j hj => by
        try dsimp only
        by_cases w : j = g
        · subst w; rw [pk_us, if_pos rfl]; exact hpc c hcm
        · rw [pk_un w, if_neg w]; exact hpc j hj) (by
        refine ⟨fun j hj ht => ?_, fun x x1 x2 => ?_, fun j k hj hk hjc hkc hne e => ?_, fun j j1 j2 hjc => ?_⟩
        · try dsimp only
          have : ¬ j = g := fun e => by subst e; omega
          rw [if_neg this]
          exact o1 j hj (by omega)
        · obtain ⟨j, w1, w2, w3⟩ := o2 x x1 x2
          by_cases w : j = c
          · subst w
            exact ⟨g, hg, fun e => hcg e.symm, by try dsimp only; rw [if_pos rfl]; exact w3⟩
          · exact ⟨j, w1, w, by try dsimp only; rw [if_neg w2]; exact w3⟩
        · try dsimp only at hne e
          by_cases w : j = g
          · by_cases v : k = g
            · omega
            · rw [if_pos w, if_neg v] at e
              rw [if_pos w] at hne
              have := o3 c k hcm hk hcg v hne e
              omega
          · by_cases v : k = g
            · rw [if_neg w, if_pos v] at e
              rw [if_neg w] at hne
              have := o3 j c hj hcm w hcg hne e
              omega
            · rw [if_neg w, if_neg v] at e
              rw [if_neg w] at hne
              exact o3 j k hj hk w v hne e
        · try dsimp only
          by_cases w : j = g
          · rw [if_pos w, hPc]
            subst w
            have h1 := hPi c hcm
            have h2 := (hS.2.2.2.2.1.2.1 c y2).2
            exact ⟨h1, fun e => absurd e h2, fun _ => y4⟩
          · rw [if_neg w]
            exact o4 j j1 j2 w)
      refine ⟨pc', Pc', ?_, q1, q2⟩
      rw [m_Ways_passOn_L4, ilt (by omega) (by omega), if_neg (by omega), if_neg (nI_ne0 (by omega) (by omega)), ck_s (by omega) (by omega), cl_s (by omega), y1, lt_eq, ck_s (by omega) (by omega), ck_s (by omega) (by omega), cl_s (by omega), lt_eq, lt_eq, lt_eq, nI_1]
      exact e
theorem goal_s {n m i fu : Nat} {ex gp rp sl cf p : Nat → Int32} {reached : Int32} {P : Nat → Nat} (hm : m ≤ 12) (hn : n ≤ m) (hi : i + 1 ≤ n) (hfu : 20 < fu)
    (hE : ∀ g j, 1 ≤ g → g ≤ n → 1 ≤ j → j ≤ m → 0 ≤ (ex (g * 13 + j)).toInt ∧ (ex (g * 13 + j)).toInt ≤ 6) (hp : ∀ j, 1 ≤ j → j ≤ m → p j = nI (P j)) (h : HI n m i ex gp rp P) : ∃ r cf' p1 gp' rp' RB sl' p' P', m_Ways_findFreeGoer fu cf ex p gp rp (nI m) reached sl (nI (i + 1)) = some (r, cf', p1, gp', rp', RB, sl') ∧ m_Ways_passOn fu cf' p1 (nI m) r = some p' ∧ (∀ j, 1 ≤ j → j ≤ m → p' j = nI (P' j)) ∧ HI n m (i + 1) ex gp' rp' P' := by
  obtain ⟨stp, j0, RB, gp', rp', sl', cf', p1, tm, e1, q1, q2, hS, q3⟩ := search_s (reached := reached) (sl := sl) (cf := cf) hm hn hi hfu hE hp h
  obtain ⟨h1, h2, h3, h4, h5, h6⟩ := h
  have hj0 : ¬ j0 = 0 := fun z => by rw [if_pos z] at q3; omega
  rw [if_neg hj0] at q3
  have hj0m := hS.2.2.2.2.2.1.1
  have htm : tm j0 ≤ stp := hS.2.2.2.2.2.2.2.1 j0 (Or.inr rfl)
  obtain ⟨p', P', e2, k1, k2, k3, k4, k5⟩ := pass_loop (fu := fu) hm hS (fun j hj => by
      try dsimp only
      by_cases z : j = 0
      · rw [if_pos z]; omega
      · rw [if_neg z]
        have := (h2 j (by omega) hj).1
        omega) (tm j0) fu 0 j0 p1 (fun j => if j = 0 then i + 1 else P j) (by omega) (by omega) (by omega) hj0m (Or.inr rfl) q2 (by
      refine ⟨fun j _ _ => rfl, fun x x1 x2 => ?_, fun j k hj hk _ _ hne e => ?_, fun j j1 j2 hjn => ?_⟩
      · by_cases z : x = i + 1
        · exact ⟨0, by omega, fun e => hj0 e.symm, by try dsimp only; rw [if_pos rfl]; exact z.symm⟩
        · obtain ⟨j, w1, w2, w3⟩ := h4 x x1 (by omega)
          refine ⟨j, w2, fun e => ?_, by try dsimp only; rw [if_neg (by omega)]; exact w3⟩
          subst e; omega
      · try dsimp only at hne e
        by_cases z : j = 0
        · by_cases y : k = 0
          · omega
          · rw [if_pos z, if_neg y] at e
            have := (h2 k (by omega) hk).1
            omega
        · by_cases y : k = 0
          · rw [if_neg z, if_pos y] at e
            have := (h2 j (by omega) hj).1
            omega
          · rw [if_neg z] at hne
            rw [if_neg z, if_neg y] at e
            exact h3 j k (by omega) hj (by omega) hk hne e
      · obtain ⟨y1, y2, y3⟩ := hS.2.1 j j1 j2
        try dsimp only at y2 y3 ⊢
        rw [if_neg (by omega)] at y2 y3 ⊢
        have := (h2 j j1 j2).1
        exact ⟨by omega, y2, y3⟩)
  refine ⟨nI j0, cf', p1, gp', rp', nI RB, sl', p', P', e1, ?_, fun j j1 j2 => k1 j j2, hS.1, fun j j1 j2 => ?_, fun j k j1 j2 k1 k2 => k4 j k j2 k2 (by omega) (by omega), fun g g1 g2 => ?_, hS.2.2.1, hS.2.2.2.1⟩
  · unfold m_Ways_passOn
    have e2 : m_Ways_passOn_L4 (nI m) cf' fu (nI j0) 0 p1 = some p' := e2
    rw [lt_eq, lt_eq, e2, bd1_s]
  · obtain ⟨y1, y2, y3⟩ := k5 j j1 j2 (by omega)
    exact ⟨y1, (hS.2.1 j j1 j2).1, y2, y3⟩
  · obtain ⟨j, w1, w2, w3⟩ := k3 g g1 g2
    exact ⟨j, by omega, w1, w3⟩
