/-! easy ways: the class -/
theorem inj_ct {p : Nat → Bool} {n : Nat} : ∀ {N : Nat} {σ : Nat → Nat}, (∀ i, i < N → σ i < n ∧ p (σ i) = true) → (∀ i j, i < j → j < N → σ i ≠ σ j) → N ≤ fb_ct p n
  | 0, _, _, _ => Nat.zero_le _
  | N + 1, σ, h, hi => by
    have h1 := fb_ct_upd p false (h N (by omega)).1
    rw [if_pos (h N (by omega)).2, if_neg (by decide)] at h1
    have h2 := inj_ct (p := fun k => if k = σ N then false else p k) (n := n) (N := N) (σ := σ) (fun i hi' => ⟨(h i (by omega)).1, by rw [if_neg (hi i N hi' (by omega))]; exact (h i (by omega)).2⟩) (fun i j h h' => hi i j h (by omega))
    omega
def bin : Nat → Nat → Nat
  | 0, 0 => 1
  | 0, _ + 1 => 0
  | n + 1, 0 => bin n 0
  | n + 1, k + 1 => bin n (k + 1) + bin n k
theorem pop_low {n j : Nat} (hj : j < 2 ^ n) : pop (n + 1) j = pop n j := pop_up hj 1
theorem pop_high {n j : Nat} (hj : j < 2 ^ n) : pop (n + 1) (2 ^ n + j) = pop n j + 1 := by
  unfold pop
  rw [fb_ct_succ, Nat.testBit_two_pow_add_eq, Nat.testBit_lt_two_pow hj]
  have : fb_ct (fun k => (2 ^ n + j).testBit k) n = fb_ct (fun k => j.testBit k) n := fb_ct_cong (fun k hk => by rw [Nat.testBit_two_pow_add_gt hk])
  rw [this]; rfl
theorem bin_ct : ∀ (n k : Nat), fb_ct (fun s => decide (pop n s = k)) (2 ^ n) = bin n k
  | 0, 0 => rfl
  | 0, k + 1 => rfl
  | n + 1, 0 => by
    rw [Nat.pow_succ, Nat.mul_two, fb_ct_split, bin, ← bin_ct n 0]
    have h1 : fb_ct (fun s => decide (pop (n + 1) s = 0)) (2 ^ n) = fb_ct (fun s => decide (pop n s = 0)) (2 ^ n) := fb_ct_cong (fun s hs => by rw [pop_low hs])
    have h2 : fb_ct (fun s => decide (pop (n + 1) (2 ^ n + s) = 0)) (2 ^ n) = 0 := fb_ct_zero.mpr (fun s hs => by rw [pop_high hs]; simp)
    rw [h1, h2]; rfl
  | n + 1, k + 1 => by
    rw [Nat.pow_succ, Nat.mul_two, fb_ct_split, bin, ← bin_ct n (k + 1), ← bin_ct n k]
    have h1 : fb_ct (fun s => decide (pop (n + 1) s = k + 1)) (2 ^ n) = fb_ct (fun s => decide (pop n s = k + 1)) (2 ^ n) := fb_ct_cong (fun s hs => by rw [pop_low hs])
    have h2 : fb_ct (fun s => decide (pop (n + 1) (2 ^ n + s) = k + 1)) (2 ^ n) = fb_ct (fun s => decide (pop n s = k)) (2 ^ n) := fb_ct_cong (fun s hs => by rw [pop_high hs]; simp)
    rw [h1, h2]
theorem bin_tab : allB (fun n => allB (fun k => decide (bin n k ≤ 924)) 13) 13 = true := by decide +kernel
theorem pig {M k N : Nat} {σ : Nat → Nat} (hM : inM M) (hk : k ≤ 12) (h : ∀ i, i < N → σ i < 2 ^ M ∧ pop M (σ i) = k) (hi : ∀ i j, i < j → j < N → σ i ≠ σ j) : N ≤ 924 := by
  have h1 := inj_ct (p := fun s => decide (pop M s = k)) (n := 2 ^ M) (fun i h' => ⟨(h i h').1, decide_eq_true (h i h').2⟩) hi
  rw [bin_ct] at h1
  have h2 : bin M k ≤ 924 := of_decide_eq_true (allB_spec (allB_spec bin_tab M (by have := hM.2; omega)) k (by omega))
  omega
/-- a list by its links -/
def Ch (li : Nat → Int32) : Int32 → Nat → List Nat → Prop
  | h, _, [] => h = -1
  | h, b, i :: L => h = nI i ∧ i < b ∧ Ch li (li i) i L
theorem Ch_len {li : Nat → Int32} : ∀ {L : List Nat} {h : Int32} {b : Nat}, Ch li h b L → L.length ≤ b
  | [], h, b, _ => Nat.zero_le _
  | i :: L, h, b, H => by
    have := Ch_len H.2.2
    have := H.2.1
    rw [List.length_cons]; omega
theorem Ch_in {li : Nat → Int32} : ∀ {L : List Nat} {h : Int32} {b j : Nat}, Ch li h b L → j ∈ L → j < b
  | [], h, b, j, _, hj => absurd hj (by simp)
  | i :: L, h, b, j, H, hj => by
    have := H.2.1
    rcases List.mem_cons.mp hj with z | z
    · omega
    · have := Ch_in H.2.2 z; omega
theorem Ch_cong {li li' : Nat → Int32} : ∀ {L : List Nat} {h : Int32} {b c : Nat}, Ch li h b L → b ≤ c → (∀ i, i < b → li' i = li i) → Ch li' h c L
  | [], h, b, c, H, _, _ => H
  | i :: L, h, b, c, H, hb, hl => by
    obtain ⟨h1, h2, h3⟩ := H
    refine ⟨h1, by omega, ?_⟩
    rw [hl i h2]
    exact Ch_cong h3 (Nat.le_refl _) (fun j hj => hl j (by omega))
def SMI (M k f q : Nat) (d : Nat → Nat) (N : Nat) (σ : Nat → Nat) (L : Nat → List Nat) (he li se ss : Nat → Int32) : Prop :=
  (∀ i, i < N → ss i = nI (σ i) ∧ σ i < 2 ^ M ∧ pop M (σ i) = k ∧ σ i ≠ f ∧ d (σ i) ≤ q) ∧ (∀ i j, i < j → j < N → σ i ≠ σ j) ∧ (∀ y, y < 4096 → (sB se y = true ↔ ∃ i, i < N ∧ σ i = y)) ∧ (∀ r, r < 16 → Ch li (he r) N (L r)) ∧ (∀ r, r < 16 → ∀ i, i ∈ L r → q < d (σ i) + rho M (σ i) ∧ (d (σ i) + rho M (σ i)) % 16 = r) ∧ (∀ i, i < N → q < d (σ i) + rho M (σ i) → i ∈ L ((d (σ i) + rho M (σ i)) % 16))
theorem meet_s {M k f q n N : Nat} {d σ : Nat → Nat} {L : Nat → List Nat} {he li se ss : Nat → Int32} (hM : inM M) (hk : k ≤ 12) (hS : SMI M k f q d N σ L he li se ss) (hn : n < 2 ^ M) (hkn : pop M n = k) (hnf : n ≠ f) (hns : ∀ i, i < N → σ i ≠ n) (hdn : d n = q) (hq : q ≤ 10000) : ∃ he' li' se' ss' σ' L', m_Smooth_meet he li (nI N) se ss (nI n) (nI q) (nI M) = some (he', li', nI (N + 1), se', ss') ∧ SMI M k f q d (N + 1) σ' L' he' li' se' ss' ∧ (∀ i, i < N → σ' i = σ i ∧ li' i = li i) ∧ σ' N = n := by
  have hp := p2_le hM.2
  obtain ⟨s1, s2, s3, s4, s5, s6⟩ := hS
  have hr := rho_le (s := n) hM
  obtain ⟨σ', hσN, hσ⟩ : ∃ σ' : Nat → Nat, σ' N = n ∧ ∀ i, i ≠ N → σ' i = σ i := ⟨fun i => if i = N then n else σ i, if_pos rfl, fun i h => if_neg h⟩
  obtain ⟨r0, hr0⟩ : ∃ r0, r0 = (q + rho M n) % 16 := ⟨_, rfl⟩
  have hli : r0 < 16 := by omega
  obtain ⟨L', hL0, hL⟩ : ∃ L' : Nat → List Nat, L' r0 = N :: L r0 ∧ ∀ r, r ≠ r0 → L' r = L r := ⟨fun r => if r = r0 then N :: L r else L r, if_pos rfl, fun r h => if_neg h⟩
  have t2 : ∀ i j, i < j → j < N + 1 → σ' i ≠ σ' j := fun i j hij hj => by
    rw [hσ i (by omega)]
    by_cases c : j = N
    · rw [c, hσN]; exact hns i (by omega)
    · rw [hσ j c]; exact s2 i j hij (by omega)
  have hN : N + 1 ≤ 924 := pig (M := M) (k := k) (N := N + 1) (σ := σ') hM hk (fun i hi => by
    by_cases c : i = N
    · rw [c, hσN]; exact ⟨hn, hkn⟩
    · rw [hσ i c]; exact ⟨(s1 i (by omega)).2.1, (s1 i (by omega)).2.2.1⟩) t2
  obtain ⟨se', e1, hse⟩ := seen_add_s (b := se) (x := n) (by omega)
  refine ⟨upd he r0 (nI N), upd li N (he r0), se', upd ss N (nI n), σ', L', ?_, ⟨?_, t2, ?_, ?_, ?_, ?_⟩, fun i hi => ⟨hσ i (by omega), pk_un (by omega)⟩, hσN⟩
  · unfold m_Smooth_meet
    have e3 : m_Ring_pairsApart (nI n) 1 (nI M) = some (nI (prs M n 1)) := pairs_s (d := 1) hM hn (by omega) (by have := hM.1; omega)
    have e4 : nI (q + rho M n) &&& 15 = nI r0 := by rw [hr0]; exact pk_andN (by omega) 4 (by decide)
    rw [show (924 : Int32) = nI 924 from rfl, ilt (by omega) (by omega), if_pos (by omega), e3, bd1_s, nI_1, nI_add, show q + 1 + prs M n 1 = q + rho M n by unfold rho; omega, e4, lt_eq, e1, bd1_s, ck_s (by omega) (by omega), cl_s (by omega), lt_eq, ck_s hli (by omega), ck_s (by omega) (by omega), cl_s (by omega), lt_eq, ck_s hli (by omega), lt_eq, lt_eq, nI_1]
  · intro i hi
    by_cases c : i = N
    · rw [c, hσN, pk_us]
      exact ⟨rfl, hn, hkn, hnf, by omega⟩
    · rw [hσ i c, pk_un c]
      exact s1 i (by omega)
  · intro y hy
    rw [hse y hy, Bool.or_eq_true, s3 y hy, decide_eq_true_iff]
    constructor
    · rintro (⟨i, hi, e⟩ | e)
      · exact ⟨i, by omega, by rw [hσ i (by omega)]; exact e⟩
      · exact ⟨N, by omega, by rw [hσN]; exact e.symm⟩
    · rintro ⟨i, hi, e⟩
      by_cases c : i = N
      · rw [c, hσN] at e; exact Or.inr e.symm
      · rw [hσ i c] at e; exact Or.inl ⟨i, by omega, e⟩
  · intro r hr'
    have hc := Ch_cong (li' := upd li N (he r0)) (s4 r hr') (Nat.le_refl _) (fun i hi => pk_un (by omega))
    by_cases c : r = r0
    · subst c
      rw [hL0, pk_us]
      refine ⟨rfl, by omega, ?_⟩
      rw [pk_us]
      exact hc
    · rw [hL r c, pk_un c]
      exact Ch_cong hc (by omega) (fun _ _ => rfl)
  · intro r hr' i hi
    have old : i ∈ L r → q < d (σ' i) + rho M (σ' i) ∧ (d (σ' i) + rho M (σ' i)) % 16 = r := fun z => by
      have hlt := Ch_in (s4 _ hr') z
      rw [hσ i (by omega)]
      exact s5 _ hr' i z
    by_cases c : r = r0
    · subst c
      rw [hL0] at hi
      rcases List.mem_cons.mp hi with z | z
      · rw [z, hσN, hdn]
        exact ⟨by omega, hr0.symm⟩
      · exact old z
    · rw [hL r c] at hi
      exact old hi
  · intro i hi
    by_cases c : i = N
    · rw [c, hσN, hdn, ← hr0, hL0]
      intro _
      exact List.mem_cons.mpr (Or.inl rfl)
    · rw [hσ i c]
      intro h
      have := s6 i (by omega) h
      by_cases z : (d (σ i) + rho M (σ i)) % 16 = r0
      · rw [z] at this ⊢
        rw [hL0]; exact List.mem_cons.mpr (Or.inr this)
      · rw [hL _ z]; exact this
