/-! easy ways: the class, a set is spread, a list taken up -/
def NXi (nx cost : Int32) (q : Nat) (A : Nat → Prop) : Prop := (nx = -1 ∧ cost = 0 ∧ ∀ u, ¬ A u) ∨ ∃ v, nx = nI v ∧ v < 4096 ∧ cost = nI q ∧ A v ∧ ∀ u, A u → v ≤ u
theorem NXi_c {nx cost : Int32} {q : Nat} {A B : Nat → Prop} (h : ∀ u, A u ↔ B u) (H : NXi nx cost q A) : NXi nx cost q B := by
  rcases H with ⟨h1, h2, h3⟩ | ⟨v, h1, h2, h3, h4, h5⟩
  · exact Or.inl ⟨h1, h2, fun u hu => h3 u ((h u).mpr hu)⟩
  · exact Or.inr ⟨v, h1, h2, h3, (h v).mp h4, fun u hu => h5 u ((h u).mpr hu)⟩
theorem NXi_add {nx cost : Int32} {q s : Nat} {A : Nat → Prop} (hs : s < 4096) (H : NXi nx cost q A) : ∃ nx', (if nx = -1 then some (nI s) else some (if nI s < nx then nI s else nx)) = some nx' ∧ NXi nx' (nI q) q (fun u => A u ∨ u = s) := by
  rcases H with ⟨h1, h2, h3⟩ | ⟨v, h1, h2, h3, h4, h5⟩
  · refine ⟨nI s, by rw [if_pos h1], Or.inr ⟨s, rfl, hs, rfl, Or.inr rfl, fun u hu => ?_⟩⟩
    rcases hu with z | z
    · exact absurd z (h3 u)
    · omega
  · subst h1
    have hne : ¬ nI v = -1 := fun e => by
      have h0 : (0 : Int32) ≤ nI v := nI_pos' (by omega)
      rw [e] at h0
      exact absurd h0 (by decide)
    refine ⟨nI (if s < v then s else v), ?_, Or.inr ⟨_, rfl, by split <;> omega, rfl, ?_, fun u hu => ?_⟩⟩
    · rw [if_neg hne, ilt (by omega) (by omega)]
      split <;> rfl
    · by_cases c : s < v
      · rw [if_pos c]; exact Or.inr rfl
      · rw [if_neg c]; exact Or.inl h4
    · rcases hu with z | z
      · have := h5 u z; split <;> omega
      · split <;> omega
theorem spread_s {M k f q s N fu to : Nat} {d σ : Nat → Nat} {L : Nat → List Nat} {he li se ss : Nat → Int32} {nx cost : Int32} {A : Nat → Prop} (hM : inM M) (hk : k ≤ 12) (hd : isDist M k to d) (hS : SMI M k f q d N σ L he li se ss) (h7 : ∀ y, y < 2 ^ M → pop M y = k → y ≠ f → d y < q → ∃ i, i < N ∧ σ i = y) (hs : s < 2 ^ M) (hks : pop M s = k) (hkey : d s + rho M s = q) (hf : f < 2 ^ M) (hN : NXi nx cost q A) (hq : q ≤ 10000) (hfu : 20 < fu) : ∃ cost' he' li' N' nx' se' ss' σ' L', m_Smooth_spread fu cost he li (nI N) nx se ss (nI s) (nI q) (nI f) (nI M) = some (cost', he', li', nI N', nx', se', ss') ∧ SMI M k f q d N' σ' L' he' li' se' ss' ∧ N ≤ N' ∧ (∀ i, i < N → σ' i = σ i ∧ li' i = li i) ∧ (∀ i, N ≤ i → i < N' → d (σ' i) = q) ∧ (∀ u, adj M s u → u ≠ f → ∃ i, i < N' ∧ σ' i = u) ∧ NXi nx' cost' q (fun u => A u ∨ (u = s ∧ adj M s f)) := by
  have hp := p2_le hM.2
  have hM12 := hM.2
  have hM5 := hM.1
  obtain ⟨⟨c1, he1, li1, me1, nx1, se1, ss1⟩, n', ⟨N1, σ1, L1, eN, hS1, hNN, hag, hnew, hmet, hnx⟩, e⟩ := up_go (F := fun n t (x : Int32 × (Nat → Int32) × (Nat → Int32) × Int32 × Int32 × (Nat → Int32) × (Nat → Int32)) => m_Smooth_spread_L3 (nI M) (nI s) (nI f) (nI q) n (nI t) x.1 x.2.1 x.2.2.1 x.2.2.2.1 x.2.2.2.2.1 x.2.2.2.2.2.1 x.2.2.2.2.2.2) M (fun t x => ∃ N' σ' L', x.2.2.2.1 = nI N' ∧ SMI M k f q d N' σ' L' x.2.1 x.2.2.1 x.2.2.2.2.2.1 x.2.2.2.2.2.2 ∧ N ≤ N' ∧ (∀ i, i < N → σ' i = σ i ∧ x.2.2.1 i = li i) ∧ (∀ i, N ≤ i → i < N' → d (σ' i) = q) ∧ (∀ t', t' < t → s.testBit t' ≠ s.testBit (upN M t') → flp s t' (upN M t') ≠ f → ∃ i, i < N' ∧ σ' i = flp s t' (upN M t')) ∧ NXi x.2.2.2.2.1 x.1 q (fun u => A u ∨ (u = s ∧ ∃ t', t' < t ∧ s.testBit t' ≠ s.testBit (upN M t') ∧ f = flp s t' (upN M t'))))
    (by
      rintro n t ⟨c1, he1, li1, me1, nx1, se1, ss1⟩ ht ⟨N1, σ1, L1, eN, hS1, hNN, hag, hnew, hmet, hnx⟩
      obtain rfl : me1 = nI N1 := eN
      have hS1 : SMI M k f q d N1 σ1 L1 he1 li1 se1 ss1 := hS1
      have hag : ∀ i, i < N → σ1 i = σ i ∧ li1 i = li i := hag
      have hnx : NXi nx1 c1 q (fun u => A u ∨ (u = s ∧ ∃ t', t' < t ∧ s.testBit t' ≠ s.testBit (upN M t') ∧ f = flp s t' (upN M t'))) := hnx
      have hu := up_lt hM ht
      have eup : (if nI M ≤ nI t + 1 then some (0 : Int32) else some (nI t + 1)) = some (nI (upN M t)) := by
        rw [nI_1, ile (by omega) (by omega)]
        unfold upN
        by_cases z : t + 1 < M
        · rw [if_neg (by omega), if_pos z]
        · rw [if_pos (by omega), if_neg z]; rfl
      have hb1 : ∀ b : Bool, (if b then 1 else 0) < 2147483648 := fun b => by cases b <;> decide
      have ebit : (nI (if s.testBit t then 1 else 0) = nI (if s.testBit (upN M t) then 1 else 0)) ↔ s.testBit t = s.testBit (upN M t) := by
        rw [nI_eq (hb1 _) (hb1 _)]
        cases s.testBit t <;> cases s.testBit (upN M t) <;> decide
      have eflp : (nI s ^^^ (1 : Int32) <<< (nI t &&& 31)) ^^^ (1 : Int32) <<< (nI (upN M t) &&& 31) = nI (flp s t (upN M t)) := by
        rw [p2_s (by omega), p2_s (by omega), nx_xor, nx_xor]; rfl
      by_cases z : s.testBit t = s.testBit (upN M t)
      · refine ⟨(c1, he1, li1, nI N1, nx1, se1, ss1), ⟨N1, σ1, L1, rfl, hS1, hNN, hag, hnew, fun t' ht' h1 => ?_, ?_⟩, ?_⟩
        · by_cases y : t' = t
          · subst y; exact absurd z h1
          · exact hmet t' (by omega) h1
        · refine NXi_c (fun u => ?_) hnx
          constructor
          · rintro (h | ⟨h, t', h1, h2⟩)
            · exact Or.inl h
            · exact Or.inr ⟨h, t', by omega, h2⟩
          · rintro (h | ⟨h, t', h1, h2⟩)
            · exact Or.inl h
            · by_cases y : t' = t
              · subst y; exact absurd z h2.1
              · exact Or.inr ⟨h, t', by omega, h2⟩
        · show m_Smooth_spread_L3 (nI M) (nI s) (nI f) (nI q) (n + 1) (nI t) c1 he1 li1 (nI N1) nx1 se1 ss1 = _
          rw [m_Smooth_spread_L3, ile (by omega) (by omega), if_neg (by omega), eup, bd1_s, lt_eq, bit_s (by omega) (by omega), bit_s (by omega) (by omega), if_pos (ebit.mpr z), bd7_s, lt_eq, nI_1]
      · have ha : adj M s (flp s t (upN M t)) := ⟨t, ht, z, rfl⟩
        have hlt := adj_lt hM hs ha
        have hkn : pop M (flp s t (upN M t)) = k := by rw [adj_pop hM ha, hks]
        generalize hfl : flp s t (upN M t) = y at *
        have head : m_Smooth_spread_L3 (nI M) (nI s) (nI f) (nI q) (n + 1) (nI t) c1 he1 li1 (nI N1) nx1 se1 ss1 = bd7 (if y = f then bd1 (if nx1 = -1 then some (nI s) else some (if nI s < nx1 then nI s else nx1)) (fun q87_1 => lt q87_1 (fun f_t_next_4 => lt (nI q) (fun f_t_cost_4 => some (f_t_cost_4, he1, li1, nI N1, f_t_next_4, se1, ss1)))) else bd1 (m_Seen_has se1 (nI y)) (fun r_1 => if r_1 = 0 then bd5 (m_Smooth_meet he1 li1 (nI N1) se1 ss1 (nI y) (nI q) (nI M)) (fun f_t_heads_4 f_t_links_4 f_t_met_4 f_t_seen_bits_4 f_t_sets_4 => some (c1, f_t_heads_4, f_t_links_4, f_t_met_4, nx1, f_t_seen_bits_4, f_t_sets_4)) else some (c1, he1, li1, nI N1, nx1, se1, ss1))) (fun f_t_cost_3 f_t_heads_3 f_t_links_3 f_t_met_3 f_t_next_3 f_t_seen_bits_3 f_t_sets_3 => m_Smooth_spread_L3 (nI M) (nI s) (nI f) (nI q) n (nI (t + 1)) f_t_cost_3 f_t_heads_3 f_t_links_3 f_t_met_3 f_t_next_3 f_t_seen_bits_3 f_t_sets_3) := by
          rw [m_Smooth_spread_L3, ile (by omega) (by omega), if_neg (by omega), eup, bd1_s, lt_eq, bit_s (by omega) (by omega), bit_s (by omega) (by omega), if_neg (fun e => z (ebit.mp e)), eflp, lt_eq, ieq (by omega) (by omega)]
          simp only [lt_eq, nI_1]
        have head' : ∀ x1 x2 x3 x4 x5 x6 x7, (if y = f then bd1 (if nx1 = -1 then some (nI s) else some (if nI s < nx1 then nI s else nx1)) (fun q87_1 => lt q87_1 (fun f_t_next_4 => lt (nI q) (fun f_t_cost_4 => some (f_t_cost_4, he1, li1, nI N1, f_t_next_4, se1, ss1)))) else bd1 (m_Seen_has se1 (nI y)) (fun r_1 => if r_1 = 0 then bd5 (m_Smooth_meet he1 li1 (nI N1) se1 ss1 (nI y) (nI q) (nI M)) (fun f_t_heads_4 f_t_links_4 f_t_met_4 f_t_seen_bits_4 f_t_sets_4 => some (c1, f_t_heads_4, f_t_links_4, f_t_met_4, nx1, f_t_seen_bits_4, f_t_sets_4)) else some (c1, he1, li1, nI N1, nx1, se1, ss1))) = some (x1, x2, x3, x4, x5, x6, x7) → m_Smooth_spread_L3 (nI M) (nI s) (nI f) (nI q) (n + 1) (nI t) c1 he1 li1 (nI N1) nx1 se1 ss1 = m_Smooth_spread_L3 (nI M) (nI s) (nI f) (nI q) n (nI (t + 1)) x1 x2 x3 x4 x5 x6 x7 := fun x1 x2 x3 x4 x5 x6 x7 h => by rw [head, h, bd7_s]
        by_cases c : y = f
        · obtain ⟨nx2, e2, hn2⟩ := NXi_add (s := s) (by omega) hnx
          refine ⟨(nI q, he1, li1, nI N1, nx2, se1, ss1), ⟨N1, σ1, L1, rfl, hS1, hNN, hag, hnew, fun t' ht' h1 h2 => ?_, ?_⟩, ?_⟩
          · by_cases x : t' = t
            · subst x; rw [hfl] at h2; exact absurd c h2
            · exact hmet t' (by omega) h1 h2
          · refine NXi_c (fun u => ?_) hn2
            constructor
            · rintro ((h | ⟨h, t', h1, h2⟩) | h)
              · exact Or.inl h
              · exact Or.inr ⟨h, t', by omega, h2⟩
              · exact Or.inr ⟨h, t, by omega, z, by rw [hfl]; exact c.symm⟩
            · rintro (h | ⟨h, t', h1, h2⟩)
              · exact Or.inl (Or.inl h)
              · exact Or.inr h
          · exact head' _ _ _ _ _ _ _ (by rw [if_pos c, e2, bd1_s, lt_eq, lt_eq])
        · have nxs : NXi nx1 c1 q (fun u => A u ∨ (u = s ∧ ∃ t', t' < t + 1 ∧ s.testBit t' ≠ s.testBit (upN M t') ∧ f = flp s t' (upN M t'))) := by
            refine NXi_c (fun u => ?_) hnx
            constructor
            · rintro (h | ⟨h, t', h1, h2⟩)
              · exact Or.inl h
              · exact Or.inr ⟨h, t', by omega, h2⟩
            · rintro (h | ⟨h, t', h1, h2⟩)
              · exact Or.inl h
              · by_cases x : t' = t
                · subst x
                  have := h2.2
                  rw [hfl] at this
                  exact absurd this.symm c
                · exact Or.inr ⟨h, t', by omega, h2⟩
          by_cases x : ∃ i, i < N1 ∧ σ1 i = y
          · refine ⟨(c1, he1, li1, nI N1, nx1, se1, ss1), ⟨N1, σ1, L1, rfl, hS1, hNN, hag, hnew, fun t' ht' h1 h2 => ?_, nxs⟩, ?_⟩
            · by_cases w : t' = t
              · subst w; rw [hfl]; exact x
              · exact hmet t' (by omega) h1 h2
            · exact head' _ _ _ _ _ _ _ (by rw [if_neg c, seen_has_s (by omega), bd1_s, if_pos ((hS1.2.2.1 y (by omega)).mpr x), if_neg (by decide)])
          · have hdy : d y = q := by
              have h1 := hd.2.1 y s hlt hkn (adj_symm hM ha)
              rcases Nat.lt_or_ge (d y) q with w | w
              · obtain ⟨i, hi, e⟩ := h7 y hlt hkn c w
                exact absurd ⟨i, by omega, by rw [(hag i hi).1]; exact e⟩ x
              · omega
            obtain ⟨he2, li2, se2, ss2, σ2, L2, e2, hS2, hag2, hN2⟩ := meet_s hM hk hS1 hlt hkn c (fun i hi e => x ⟨i, hi, e⟩) hdy hq
            have hns : ¬ sB se1 y = true := fun e => x ((hS1.2.2.1 y (by omega)).mp e)
            refine ⟨(c1, he2, li2, nI (N1 + 1), nx1, se2, ss2), ⟨N1 + 1, σ2, L2, rfl, hS2, by omega, fun i hi => ?_, fun i hi hi2 => ?_, fun t' ht' h1 h2 => ?_, nxs⟩, ?_⟩
            · show σ2 i = σ i ∧ li2 i = li i
              rw [(hag2 i (by omega)).1, (hag2 i (by omega)).2]
              exact hag i hi
            · by_cases w : i = N1
              · rw [w, hN2]; exact hdy
              · rw [(hag2 i (by omega)).1]; exact hnew i hi (by omega)
            · by_cases w : t' = t
              · subst w; rw [hfl]; exact ⟨N1, by omega, hN2⟩
              · obtain ⟨i, hi, e⟩ := hmet t' (by omega) h1 h2
                exact ⟨i, by omega, by rw [(hag2 i hi).1]; exact e⟩
            · exact head' _ _ _ _ _ _ _ (by rw [if_neg c, seen_has_s (by omega), bd1_s, if_neg hns, if_pos rfl, e2, bd5_s]))
    M fu 0 (cost, he, li, nI N, nx, se, ss) (by omega) (by omega) ⟨N, σ, L, rfl, hS, Nat.le_refl _, fun _ _ => ⟨rfl, rfl⟩, fun i h1 h2 => absurd h2 (by omega), fun t h => absurd h (Nat.not_lt_zero t), NXi_c (fun u => ⟨fun h => Or.inl h, fun h => h.elim id (fun h => absurd h.2 (by rintro ⟨t, h, -⟩; exact absurd h (Nat.not_lt_zero t)))⟩) hN⟩
  have e : m_Smooth_spread_L3 (nI M) (nI s) (nI f) (nI q) fu 0 cost he li (nI N) nx se ss = m_Smooth_spread_L3 (nI M) (nI s) (nI f) (nI q) (n' + 1) (nI M) c1 he1 li1 me1 nx1 se1 ss1 := e
  obtain rfl : me1 = nI N1 := eN
  refine ⟨c1, he1, li1, N1, nx1, se1, ss1, σ1, L1, ?_, hS1, hNN, hag, hnew, ?_, NXi_c (fun u => ?_) hnx⟩
  · unfold m_Smooth_spread
    rw [lt_eq, e, m_Smooth_spread_L3, ile (by omega) (by omega), if_pos (by omega), bd7_s]
  · rintro u ⟨t, ht, hb, rfl⟩ h
    exact hmet t ht hb h
  · constructor
    · rintro (h | ⟨h, t', h1, h2, h3⟩)
      · exact Or.inl h
      · exact Or.inr ⟨h, t', h1, h2, h3⟩
    · rintro (h | ⟨h, t', h1, h2, h3⟩)
      · exact Or.inl h
      · exact Or.inr ⟨h, t', h1, h2, h3⟩
