/-! easy ways: the class, whole -/
def Nbr (M f N : Nat) (σ : Nat → Nat) (s : Nat) : Prop := ∀ u, adj M s u → u ≠ f → ∃ i, i < N ∧ σ i = u
theorem take26 {M k f q fu to : Nat} {d : Nat → Nat} (hM : inM M) (hk : k ≤ 12) (hd : isDist M k to d) (hf : f < 2 ^ M) (hq : q ≤ 10000) (hfu : 20 < fu) : ∀ (R : List Nat) (n i b N : Nat) (σ : Nat → Nat) (L : Nat → List Nat) (spot : Int32) (he li se ss : Nat → Int32) (nx cost : Int32), Ch li spot b R → b ≤ N → SMI M k f q d N σ L he li se ss → (∀ y, y < 2 ^ M → pop M y = k → y ≠ f → d y < q → ∃ i, i < N ∧ σ i = y) → (∀ j, j ∈ R → d (σ j) + rho M (σ j) = q) → (∀ j, j < N → d (σ j) + rho M (σ j) ≤ q → j ∈ R ∨ Nbr M f N σ (σ j)) → NXi nx cost q (fun u => adj M u f ∧ ∃ j, j < N ∧ σ j = u ∧ d u + rho M u = q ∧ j ∉ R) → i + R.length ≤ 924 → R.length < n → ∃ cost' he' li' N' nx' se' ss' σ' L', m_Smooth_takeUp_L26 fu (nI q) (nI f) (nI M) n spot (nI i) cost he li (nI N) nx se ss = some (cost', he', li', nI N', nx', se', ss') ∧ SMI M k f q d N' σ' L' he' li' se' ss' ∧ (∀ y, y < 2 ^ M → pop M y = k → y ≠ f → d y < q → ∃ i, i < N' ∧ σ' i = y) ∧ (∀ j, j < N' → d (σ' j) + rho M (σ' j) ≤ q → Nbr M f N' σ' (σ' j)) ∧ NXi nx' cost' q (fun u => adj M u f ∧ ∃ j, j < N' ∧ σ' j = u ∧ d u + rho M u = q) := by
  intro R
  induction R with
  | nil =>
    intro n i b N σ L spot he li se ss nx cost hC hb hS h7 hR h8 hN hi hn
    obtain ⟨n, rfl⟩ : ∃ z, n = z + 1 := ⟨n - 1, by omega⟩
    obtain rfl : spot = -1 := hC
    refine ⟨cost, he, li, N, nx, se, ss, σ, L, ?_, hS, h7, fun j hj h => (h8 j hj h).resolve_left (by simp), NXi_c (fun u => ?_) hN⟩
    · rw [m_Smooth_takeUp_L26]
      by_cases c : (924 : Int32) ≤ nI i
      · rw [if_pos c]
      · rw [if_neg c, if_pos (by decide)]
    · constructor
      · rintro ⟨h1, j, h2, h3, h4, -⟩
        exact ⟨h1, j, h2, h3, h4⟩
      · rintro ⟨h1, j, h2, h3, h4⟩
        exact ⟨h1, j, h2, h3, h4, by simp⟩
  | cons j R ih =>
    intro n i b N σ L spot he li se ss nx cost hC hb hS h7 hR h8 hN hi hn
    obtain ⟨n, rfl⟩ : ∃ z, n = z + 1 := ⟨n - 1, by omega⟩
    obtain ⟨rfl, hjb, hC⟩ := hC
    rw [List.length_cons] at hi hn
    have hjN : j < N := by omega
    obtain ⟨g1, g2, g3, g4, g5⟩ := hS.1 j hjN
    have hN924 : N ≤ 924 := pig hM hk (fun i hi => ⟨(hS.1 i hi).2.1, (hS.1 i hi).2.2.1⟩) hS.2.1
    have hkey := hR j (List.mem_cons.mpr (Or.inl rfl))
    have hjR : j ∉ R := fun h => by have := Ch_in hC h; omega
    obtain ⟨c1, he1, li1, N1, nx1, se1, ss1, σ1, L1, e1, hS1, hNN, hag, hnew, hmet, hnx⟩ := spread_s (fu := fu) hM hk hd hS h7 g2 g3 hkey hf hN hq hfu
    have hnk : ∀ j', N ≤ j' → j' < N1 → ¬ d (σ1 j') + rho M (σ1 j') ≤ q := fun j' h1 h2 h3 => by
      have h4 := hnew j' h1 h2
      have h5 := rho_le (s := σ1 j') hM
      omega
    have up : ∀ y, (∃ i, i < N ∧ σ i = y) → ∃ i, i < N1 ∧ σ1 i = y := fun y h => by
      obtain ⟨i, hi, e⟩ := h
      exact ⟨i, by omega, by rw [(hag i hi).1]; exact e⟩
    obtain ⟨c2, he2, li2, N2, nx2, se2, ss2, σ2, L2, e2, hfin⟩ := ih n (i + 1) j N1 σ1 L1 (li1 j) he1 li1 se1 ss1 nx1 c1
      (by rw [(hag j hjN).2]; exact Ch_cong hC (Nat.le_refl _) (fun i hi => (hag i (by omega)).2))
      (by omega) hS1 (fun y h1 h2 h3 h4 => up y (h7 y h1 h2 h3 h4))
      (fun j' hj' => by
        have hlt := Ch_in hC hj'
        rw [(hag j' (by omega)).1]
        exact hR j' (List.mem_cons.mpr (Or.inr hj')))
      (fun j' hj' h => by
        rcases Nat.lt_or_ge j' N with z | z
        · rw [(hag j' z).1] at h ⊢
          rcases h8 j' z h with y | y
          · rcases List.mem_cons.mp y with x | x
            · subst x; exact Or.inr hmet
            · exact Or.inl x
          · exact Or.inr (fun u hu hne => up u (y u hu hne))
        · exact absurd h (hnk j' z hj'))
      (NXi_c (fun u => by
        constructor
        · rintro (⟨h1, j', h2, h3, h4, h5⟩ | ⟨h1, h2⟩)
          · exact ⟨h1, j', by omega, by rw [(hag j' h2).1]; exact h3, h4, fun h => h5 (List.mem_cons.mpr (Or.inr h))⟩
          · rw [h1]
            exact ⟨h2, j, by omega, (hag j hjN).1, hkey, hjR⟩
        · rintro ⟨h1, j', h2, h3, h4, h5⟩
          rcases Nat.lt_or_ge j' N with z | z
          · rw [(hag j' z).1] at h3
            by_cases y : j' = j
            · subst y; exact Or.inr ⟨h3.symm, by rw [h3]; exact h1⟩
            · exact Or.inl ⟨h1, j', z, h3, h4, fun h => (List.mem_cons.mp h).elim y h5⟩
          · exact absurd (by rw [h3]; omega) (hnk j' z h2)) hnx)
      (by omega) (by omega)
    refine ⟨c2, he2, li2, N2, nx2, se2, ss2, σ2, L2, ?_, hfin⟩
    have hneg : ¬ nI j < 0 := fun h => by
      have : (0 : Int32) ≤ nI j := nI_pos' (by omega)
      rw [fa_lt] at h; rw [fa_le] at this; omega
    rw [m_Smooth_takeUp_L26, show (924 : Int32) = nI 924 from rfl, ile (by omega) (by omega), if_neg (by omega), if_neg hneg, ile (by omega) (by omega), if_neg (by omega), ck_s (by omega) (by omega), cl_s (by omega), g1, e1, bd7_s, ck_s (by omega) (by omega), lt_eq, lt_eq, nI_1]
    exact e2
def EP (M k f : Nat) (d : Nat → Nat) (p N : Nat) (he li se ss : Nat → Int32) : Prop := ∃ σ L, SMI M k f p d N σ L he li se ss ∧ (∀ y, y < 2 ^ M → pop M y = k → y ≠ f → d y ≤ p → ∃ i, i < N ∧ σ i = y) ∧ (∀ j, j < N → d (σ j) + rho M (σ j) ≤ p → Nbr M f N σ (σ j)) ∧ p < d f
theorem takeUp_s {M k f p fu to N : Nat} {d : Nat → Nat} {he li se ss : Nat → Int32} (hM : inM M) (hk : k ≤ 12) (hd : isDist M k to d) (hf : f < 2 ^ M) (hkf : pop M f = k) (hft : f ≠ to) (hp : p ≤ 9000) (hfu : 1000 < fu) (hE : EP M k f d p N he li se ss) : ∃ cost' he' li' N' nx' se' ss', m_Smooth_takeUp fu 0 he li (nI N) (-1) se ss (nI (p + 1)) (nI f) (nI M) = some (cost', he', li', nI N', nx', se', ss') ∧ ((nx' = -1 ∧ cost' = 0 ∧ EP M k f d (p + 1) N' he' li' se' ss') ∨ ∃ v, nx' = nI v ∧ v < 4096 ∧ cost' = nI (p + 1) ∧ isNx M f d v ∧ d f = p + 1) := by
  obtain ⟨σ, L, hS, h7, h8, hdf⟩ := hE
  obtain ⟨s1, s2, s3, s4, s5, s6⟩ := hS
  have hN924 : N ≤ 924 := pig hM hk (fun i hi => ⟨(s1 i hi).2.1, (s1 i hi).2.2.1⟩) s2
  obtain ⟨r0, hr0⟩ : ∃ r0, r0 = (p + 1) % 16 := ⟨_, rfl⟩
  have hr16 : r0 < 16 := by omega
  obtain ⟨L', hL0, hL⟩ : ∃ L' : Nat → List Nat, L' r0 = [] ∧ ∀ r, r ≠ r0 → L' r = L r := ⟨fun r => if r = r0 then [] else L r, if_pos rfl, fun r h => if_neg h⟩
  have hkey : ∀ i, i < N → d (σ i) + rho M (σ i) ≤ p + 13 := fun i hi => by
    have := (s1 i hi).2.2.2.2
    have := rho_le (s := σ i) hM
    omega
  have hS' : SMI M k f (p + 1) d N σ L' (upd he r0 (-1)) li se ss := by
    refine ⟨fun i hi => ⟨(s1 i hi).1, (s1 i hi).2.1, (s1 i hi).2.2.1, (s1 i hi).2.2.2.1, by have := (s1 i hi).2.2.2.2; omega⟩, s2, s3, fun r hr => ?_, fun r hr i hi => ?_, fun i hi h => ?_⟩
    · by_cases c : r = r0
      · rw [c, hL0, pk_us]; rfl
      · rw [hL r c, pk_un c]; exact s4 r hr
    · by_cases c : r = r0
      · rw [c, hL0] at hi; exact absurd hi (by simp)
      · rw [hL r c] at hi
        have h1 := s5 r hr i hi
        exact ⟨by omega, h1.2⟩
    · have h1 := s6 i hi (by omega)
      have h2 := hkey i hi
      rw [hL _ (by omega)]
      exact h1
  have hR : ∀ j, j ∈ L r0 → d (σ j) + rho M (σ j) = p + 1 := fun j hj => by
    have h1 := s5 r0 hr16 j hj
    have h2 := hkey j (Ch_in (s4 r0 hr16) hj)
    omega
  have hlen := Ch_len (s4 r0 hr16)
  have hf0 : ¬ d f < p + 1 := by omega
  obtain ⟨c1, he1, li1, N1, nx1, se1, ss1, σ1, L1, e1, hS1, h71, h81, hnx1⟩ := take26 (fu := fu) (q := p + 1) hM hk hd hf (by omega) (by omega) (L r0) fu 0 N N σ L' (he r0) (upd he r0 (-1)) li se ss (-1) 0 (s4 r0 hr16) (Nat.le_refl _) hS' (fun y h1 h2 h3 h4 => h7 y h1 h2 h3 (by omega)) hR (fun j hj h => by
      rcases Nat.lt_or_ge p (d (σ j) + rho M (σ j)) with z | z
      · have h1 := s6 j hj z
        have h2 : (d (σ j) + rho M (σ j)) % 16 = r0 := by omega
        rw [h2] at h1
        exact Or.inl h1
      · exact Or.inr (h8 j hj z)) (Or.inl ⟨rfl, rfl, fun u h => by
        obtain ⟨h1, j, h2, h3, h4, h5⟩ := h
        apply h5
        have h6 := s6 j h2 (by rw [h3]; omega)
        rw [h3, h4, ← hr0] at h6
        exact h6⟩) (by omega) (by omega)
  have h1 : m_Smooth_takeUp_L26 fu (nI (p + 1)) (nI f) (nI M) fu (he r0) 0 0 (upd he r0 (-1)) li (nI N) (-1) se ss = _ := e1
  refine ⟨c1, he1, li1, N1, nx1, se1, ss1, ?_, ?_⟩
  · unfold m_Smooth_takeUp
    have e4 : nI (p + 1) &&& 15 = nI r0 := by rw [hr0]; exact pk_andN (by omega) 4 (by decide)
    rw [e4, lt_eq, ck_s hr16 (by omega), cl_s (by omega), lt_eq, ck_s hr16 (by omega), lt_eq, lt_eq, h1, bd7_s]
  · -- what is near the start and was met
    have near : ∀ u, adj M f u → d f = d u + rho M u → d f = p + 1 → adj M u f ∧ ∃ j, j < N1 ∧ σ1 j = u ∧ d u + rho M u = p + 1 := fun u ha h h' => by
      have hr := rho_le (s := u) hM
      have hu : u ≠ f := fun e => by rw [e] at h; have := rho_le (s := f) hM; omega
      obtain ⟨j, hj, e⟩ := h71 u (adj_lt hM hf ha) (by rw [adj_pop hM ha, hkf]) hu (by omega)
      exact ⟨adj_symm hM ha, j, hj, e, by omega⟩
    rcases hnx1 with ⟨g1, g2, g3⟩ | ⟨v, g1, g2, g3, g4, g5⟩
    · refine Or.inl ⟨g1, g2, σ1, L1, hS1, ?_, h81, ?_⟩
      · intro y hy hky hyf hdy
        rcases Nat.lt_or_ge (d y) (p + 1) with z | z
        · exact h71 y hy hky hyf z
        · by_cases c : y = to
          · have := hd.1; rw [c] at z; omega
          · obtain ⟨u, ha, e⟩ := hd.2.2.1 y hy hky c
            have hr := rho_le (s := u) hM
            have huf : u ≠ f := fun z => by rw [z] at e hr; omega
            obtain ⟨j, hj, e2⟩ := h71 u (adj_lt hM hy ha) (by rw [adj_pop hM ha, hky]) huf (by omega)
            have := h81 j hj (by rw [e2]; omega) y (by rw [e2]; exact adj_symm hM ha) hyf
            exact this
      · rcases Nat.lt_or_ge (p + 1) (d f) with z | z
        · exact z
        · obtain ⟨u, ha, e⟩ := hd.2.2.1 f hf hkf hft
          exact absurd (near u ha e (by omega)) (g3 u)
    · obtain ⟨ha, j, hj, e, hkv⟩ := g4
      have hdf1 : d f = p + 1 := by
        have := hd.2.1 f v hf hkf (adj_symm hM ha)
        omega
      refine Or.inr ⟨v, g1, g2, g3, ⟨⟨adj_symm hM ha, by omega⟩, fun u hu h => g5 u (near u hu h hdf1)⟩, hdf1⟩
theorem search46 {M k f fu to : Nat} {d : Nat → Nat} (hM : inM M) (hk : k ≤ 12) (hd : isDist M k to d) (hf : f < 2 ^ M) (hkf : pop M f = k) (hft : f ≠ to) (hfu : 1000 < fu) : ∀ (m p n N : Nat) (he li se ss : Nat → Int32), d f = p + 1 + m → m + 2 ≤ n → EP M k f d p N he li se ss → ∃ he' li' me' se' ss' v, m_Smooth_search_L46 fu (nI f) (nI M) n (nI (p + 1)) 0 he li (nI N) (-1) se ss = some (nI (d f), he', li', me', nI v, se', ss') ∧ isNx M f d v := by
  have hd4 := hd.2.2.2 f hf hkf
  intro m
  induction m with
  | zero =>
    intro p n N he li se ss hm hn hE
    obtain ⟨n, rfl⟩ : ∃ z, n = z + 2 := ⟨n - 2, by omega⟩
    obtain ⟨c1, he1, li1, N1, nx1, se1, ss1, e1, h1⟩ := takeUp_s (fu := fu) hM hk hd hf hkf hft (by omega) hfu hE
    rcases h1 with ⟨-, -, -, -, -, -, -, h⟩ | ⟨v, g1, g2, g3, g4, g5⟩
    · omega
    · refine ⟨he1, li1, nI N1, se1, ss1, v, ?_, g4⟩
      have hne : ¬ nI v = -1 := fun e => by
        have h0 : (0 : Int32) ≤ nI v := nI_pos' (by omega)
        rw [e] at h0
        exact absurd h0 (by decide)
      rw [m_Smooth_search_L46, show (14784 : Int32) = nI 14784 from rfl, ilt (by omega) (by omega), if_neg (by omega), if_pos rfl, e1, bd7_s, lt_eq, nI_1, g1, g3, m_Smooth_search_L46, show (14784 : Int32) = nI 14784 from rfl, ilt (by omega) (by omega), if_neg (by omega), if_neg hne, g5]
  | succ m ih =>
    intro p n N he li se ss hm hn hE
    obtain ⟨n, rfl⟩ : ∃ z, n = z + 1 := ⟨n - 1, by omega⟩
    obtain ⟨c1, he1, li1, N1, nx1, se1, ss1, e1, h1⟩ := takeUp_s (fu := fu) hM hk hd hf hkf hft (by omega) hfu hE
    rcases h1 with ⟨g1, g2, g3⟩ | ⟨v, g1, g2, g3, g4, g5⟩
    · obtain ⟨he2, li2, me2, se2, ss2, v, e2, h2⟩ := ih (p + 1) n N1 he1 li1 se1 ss1 (by omega) (by omega) g3
      refine ⟨he2, li2, me2, se2, ss2, v, ?_, h2⟩
      rw [m_Smooth_search_L46, show (14784 : Int32) = nI 14784 from rfl, ilt (by omega) (by omega), if_neg (by omega), if_pos rfl, e1, bd7_s, lt_eq, nI_1, g1, g2]
      exact e2
    · omega
theorem smooth_s {M f fu to : Nat} {d : Nat → Nat} {cost me nx : Int32} {he li se ss : Nat → Int32} (hM : inM M) (hd : isDist M (pop M to) to d) (ht : to < 2 ^ M) (hf : f < 2 ^ M) (hkf : pop M f = pop M to) (hfu : 20000 < fu) : ∃ he' li' me' nx' se' ss', m_Smooth_search fu cost he li me nx se ss (nI f) (nI to) (nI M) = some (nI (d f), he', li', me', nx', se', ss') ∧ (f = to → nx' = -1) ∧ (f ≠ to → ∃ v, nx' = nI v ∧ isNx M f d v) := by
  have hp := p2_le hM.2
  have hk : pop M to ≤ 12 := Nat.le_trans (pop_le _ _) hM.2
  unfold m_Smooth_search
  rw [lt_eq, lt_eq, ieq (by omega) (by omega)]
  by_cases c : f = to
  · rw [if_pos c]
    refine ⟨he, li, me, -1, se, ss, ?_, fun _ => rfl, fun h => absurd c h⟩
    rw [c, hd.1]; rfl
  · rw [if_neg c]
    obtain ⟨se1, e1, h1⟩ := clear_s (b := se) (fu := fu) (by omega)
    have e2 := fill_s (n := 16) (fu := fu) he (-1) (by omega) (by omega)
    have hS : SMI M (pop M to) f 0 d 0 (fun _ => 0) (fun _ => []) (fa_fill (fun _ => -1) he 16) li se1 ss := by
      refine ⟨fun i h => absurd h (Nat.not_lt_zero i), fun i j _ h => absurd h (Nat.not_lt_zero j), fun y hy => ?_, fun r hr => ?_, fun r hr i hi => absurd hi (by simp), fun i h => absurd h (Nat.not_lt_zero i)⟩
      · rw [h1 y hy]
        constructor
        · intro h; cases h
        · rintro ⟨i, h, -⟩; exact absurd h (Nat.not_lt_zero i)
      · rw [fa_fill_in hr]; rfl
    obtain ⟨he2, li2, se2, ss2, σ2, L2, e3, hS2, -, hN2⟩ := meet_s hM hk hS ht rfl (fun z => c z.symm) (fun i h => absurd h (Nat.not_lt_zero i)) hd.1 (by omega)
    have hdf : 0 < d f := by
      obtain ⟨u, -, e⟩ := hd.2.2.1 f hf hkf c
      have := rho_le (s := u) hM
      omega
    have hE : EP M (pop M to) f d 0 1 he2 li2 se2 ss2 := by
      refine ⟨σ2, L2, hS2, fun y hy hky hyf hdy => ⟨0, by omega, ?_⟩, fun j hj h => ?_, hdf⟩
      · rw [hN2]
        by_cases z : y = to
        · exact z.symm
        · obtain ⟨u, -, e⟩ := hd.2.2.1 y hy hky z
          have := rho_le (s := u) hM
          omega
      · have := rho_le (s := σ2 j) hM
        omega
    obtain ⟨he3, li3, me3, se3, ss3, v, e4, h4⟩ := search46 (fu := fu) hM hk hd hf hkf c (by omega) (d f - 1) 0 fu 1 he2 li2 se2 ss2 (by omega) (by have := hd.2.2.2 f hf hkf; omega) hE
    refine ⟨he3, li3, me3, nI v, se3, ss3, ?_, fun h => absurd h c, fun _ => ⟨v, rfl, h4⟩⟩
    have e3 : m_Smooth_meet (fa_fill (fun _ => -1) he 16) li 0 se1 ss (nI to) 0 (nI M) = some (he2, li2, nI 1, se2, ss2) := e3
    have e4 : m_Smooth_search_L46 fu (nI f) (nI M) fu 1 0 he2 li2 (nI 1) (-1) se2 ss2 = _ := e4
    rw [lt_eq, e1, bd1_s, e2, bd1_s, e3, bd5_s, lt_eq, e4, bd7_s]
