/-! easy ways: sets and moves -/
def upN (M t : Nat) : Nat := if t + 1 < M then t + 1 else 0
def flp (s t o : Nat) : Nat := (s ^^^ 2 ^ t) ^^^ 2 ^ o
def adj (M s u : Nat) : Prop := ∃ t, t < M ∧ s.testBit t ≠ s.testBit (upN M t) ∧ u = flp s t (upN M t)
def rho (M s : Nat) : Nat := 1 + prs M s 1
theorem rho_le {M s : Nat} (hM : inM M) : 1 ≤ rho M s ∧ rho M s ≤ 13 := by
  have := prs_le (s := s) (d := 1) hM (by omega) (by have := hM.1; omega)
  unfold rho
  omega
theorem up_lt {M t : Nat} (hM : inM M) (ht : t < M) : upN M t < M ∧ upN M t ≠ t := by
  have := hM.1
  unfold upN
  split <;> omega
theorem flp_bit (s t o i : Nat) : (flp s t o).testBit i = ((s.testBit i ^^ decide (i = t)) ^^ decide (i = o)) := by
  unfold flp
  rw [fb_bit_flip, fb_bit_flip]
theorem flp_c (s t o : Nat) : flp s t o = flp s o t := by
  apply Nat.eq_of_testBit_eq
  intro i
  rw [flp_bit, flp_bit, Bool.xor_assoc, Bool.xor_assoc, Bool.xor_comm (decide (i = t))]
theorem flp_2 (s t o : Nat) : flp (flp s t o) t o = s := by
  apply Nat.eq_of_testBit_eq
  intro i
  rw [flp_bit, flp_bit]
  cases s.testBit i <;> cases decide (i = t) <;> cases decide (i = o) <;> rfl
theorem adj_symm {M s u : Nat} (hM : inM M) (h : adj M s u) : adj M u s := by
  obtain ⟨t, ht, hb, rfl⟩ := h
  have hu := up_lt hM ht
  refine ⟨t, ht, ?_, (flp_2 s t _).symm⟩
  rw [flp_bit, flp_bit, decide_eq_true (show t = t from rfl), decide_eq_false (show ¬ t = upN M t from fun e => hu.2 e.symm), decide_eq_false hu.2, decide_eq_true (show upN M t = upN M t from rfl)]
  intro e
  apply hb
  revert e
  cases s.testBit t <;> cases s.testBit (upN M t) <;> decide
theorem flip_lt {M s t : Nat} (hs : s < 2 ^ M) (ht : t < M) : s ^^^ 2 ^ t < 2 ^ M := Nat.xor_lt_two_pow hs (Nat.pow_lt_pow_right (by omega) ht)
theorem adj_lt {M s u : Nat} (hM : inM M) (hs : s < 2 ^ M) (h : adj M s u) : u < 2 ^ M := by
  obtain ⟨t, ht, hb, rfl⟩ := h
  exact flip_lt (flip_lt hs ht) (up_lt hM ht).1
theorem pop_flip {n s q : Nat} (hq : q < n) : pop n (s ^^^ 2 ^ q) + (if s.testBit q then 1 else 0) = pop n s + (if s.testBit q then 0 else 1) := by
  have h1 := fb_ct_upd (fun k => s.testBit k) (!s.testBit q) hq
  have h2 : pop n (s ^^^ 2 ^ q) = fb_ct (fun k => if k = q then !s.testBit q else s.testBit k) n := fb_ct_cong (fun k _ => by
    rw [fb_bit_flip]
    by_cases z : k = q
    · subst z; simp
    · simp [z])
  rw [h2, h1]
  unfold pop
  cases s.testBit q <;> rfl
theorem adj_pop {M s u : Nat} (hM : inM M) (h : adj M s u) : pop M u = pop M s := by
  obtain ⟨t, ht, hb, rfl⟩ := h
  have hu := up_lt hM ht
  have h1 := pop_flip (s := s) ht
  have h2 := pop_flip (s := s ^^^ 2 ^ t) hu.1
  have h3 : (s ^^^ 2 ^ t).testBit (upN M t) = s.testBit (upN M t) := by rw [fb_bit_flip, decide_eq_false hu.2, Bool.xor_false]
  rw [h3] at h2
  unfold flp
  revert hb h1 h2
  cases s.testBit t <;> cases s.testBit (upN M t) <;> intro hb h1 h2
  · exact absurd rfl hb
  · simp at h1 h2; omega
  · simp at h1 h2; omega
  · exact absurd rfl hb
/-- moves from a set to another -/
def Rn (M : Nat) : Nat → Nat → Nat → Prop
  | 0, a, b => a = b
  | n + 1, a, b => ∃ u, adj M a u ∧ Rn M n u b
theorem Rn_app {M : Nat} : ∀ {n a b c : Nat}, Rn M n a b → adj M b c → Rn M (n + 1) a c
  | 0, a, b, c, h, hc => by
    obtain rfl : a = b := h
    exact ⟨c, hc, rfl⟩
  | n + 1, a, b, c, h, hc => by
    obtain ⟨u, h1, h2⟩ := h
    exact ⟨u, h1, Rn_app h2 hc⟩
theorem Rn_symm {M : Nat} (hM : inM M) : ∀ {n a b : Nat}, Rn M n a b → Rn M n b a
  | 0, a, b, h => Eq.symm h
  | n + 1, a, b, h => by
    obtain ⟨u, h1, h2⟩ := h
    exact Rn_app (Rn_symm hM h2) (adj_symm hM h1)
theorem Rn_trans {M : Nat} : ∀ {n m a b c : Nat}, Rn M n a b → Rn M m b c → Rn M (n + m) a c
  | 0, m, a, b, c, h, h' => by
    obtain rfl : a = b := h
    rw [Nat.zero_add]; exact h'
  | n + 1, m, a, b, c, h, h' => by
    obtain ⟨u, h1, h2⟩ := h
    rw [Nat.add_right_comm]
    exact ⟨u, h1, Rn_trans h2 h'⟩
def wt (n s : Nat) : Nat := fb_sm (fun i => if s.testBit i then i else 0) n
theorem wt_flip {n s q : Nat} (hq : q < n) : wt n (s ^^^ 2 ^ q) + (if s.testBit q then q else 0) = wt n s + (if s.testBit q then 0 else q) := by
  have h1 := fb_sm_upd (fun i => if s.testBit i then i else 0) (if s.testBit q then 0 else q) hq
  have h2 : wt n (s ^^^ 2 ^ q) = fb_sm (fun k => if k = q then (if s.testBit q then 0 else q) else (if s.testBit k then k else 0)) n := fb_sm_cong (fun k _ => by
    rw [fb_bit_flip]
    by_cases z : k = q
    · subst z
      rw [if_pos rfl]
      cases s.testBit k <;> simp
    · rw [if_neg z]; simp [z])
  rw [h2, h1]
  rfl
theorem allB_ex {p : Nat → Bool} : ∀ {n : Nat}, allB p n = false → ∃ k, k < n ∧ p k = false
  | 0, h => by cases h
  | n + 1, h => by
    rw [allB, Bool.and_eq_false_iff] at h
    rcases h with h | h
    · exact ⟨n, by omega, h⟩
    · obtain ⟨k, hk, e⟩ := allB_ex h
      exact ⟨k, by omega, e⟩
theorem low_tab : allB (fun s => decide (s = 2 ^ pop 12 s - 1) || !allB (fun t => !(s.testBit (t + 1) && !s.testBit t)) 11) 4096 = true := by decide +kernel
theorem low_ex {s : Nat} (hs : s < 4096) (h : s ≠ 2 ^ pop 12 s - 1) : ∃ t, s.testBit (t + 1) = true ∧ s.testBit t = false := by
  have h1 := allB_spec low_tab s hs
  rw [decide_eq_false h, Bool.false_or, Bool.not_eq_true'] at h1
  obtain ⟨t, -, e⟩ := allB_ex h1
  rw [Bool.not_eq_false', Bool.and_eq_true, Bool.not_eq_true'] at e
  exact ⟨t, e⟩
theorem Rn_down {M : Nat} (hM : inM M) : ∀ {N s : Nat}, wt M s = N → s < 2 ^ M → ∃ n, n ≤ N ∧ Rn M n s (2 ^ pop M s - 1)
  | 0, s, hN, hs => by
    by_cases c : s = 2 ^ pop M s - 1
    · exact ⟨0, by omega, c⟩
    · have h12 := p2_le hM.2
      obtain ⟨t, h1, h2⟩ := low_ex (s := s) (by omega) (by rw [pop_12 hM.2 hs]; exact c)
      have ht : t + 1 < M := by
        rcases Nat.lt_or_ge (t + 1) M with z | z
        · exact z
        · rw [Nat.testBit_lt_two_pow (Nat.lt_of_lt_of_le hs (Nat.pow_le_pow_right (by omega) z))] at h1; cases h1
      have := fb_sm_zero hN (t + 1) ht
      rw [h1] at this
      simp only [if_true] at this
      omega
  | N + 1, s, hN, hs => by
    by_cases c : s = 2 ^ pop M s - 1
    · exact ⟨0, by omega, c⟩
    · have h12 := p2_le hM.2
      obtain ⟨t, h1, h2⟩ := low_ex (s := s) (by omega) (by rw [pop_12 hM.2 hs]; exact c)
      have ht : t + 1 < M := by
        rcases Nat.lt_or_ge (t + 1) M with z | z
        · exact z
        · rw [Nat.testBit_lt_two_pow (Nat.lt_of_lt_of_le hs (Nat.pow_le_pow_right (by omega) z))] at h1; cases h1
      have hu : upN M t = t + 1 := if_pos ht
      have ha : adj M s (flp s t (t + 1)) := ⟨t, by omega, by rw [hu, h1, h2]; decide, by rw [hu]⟩
      have w1 := wt_flip (s := s) (n := M) (q := t) (by omega)
      have w2 := wt_flip (s := s ^^^ 2 ^ t) (n := M) (q := t + 1) ht
      have h3 : (s ^^^ 2 ^ t).testBit (t + 1) = true := by rw [fb_bit_flip, h1, decide_eq_false (show ¬ t + 1 = t by omega)]; rfl
      rw [h3, if_pos rfl, if_pos rfl] at w2
      rw [h2, if_neg (by decide), if_neg (by decide)] at w1
      obtain ⟨n, hn, hr⟩ := Rn_down hM (N := N) (s := flp s t (t + 1)) (by unfold flp; omega) (adj_lt hM hs ha)
      rw [adj_pop hM ha] at hr
      exact ⟨n + 1, by omega, _, ha, hr⟩
theorem Rn_ex {M s u : Nat} (hM : inM M) (hs : s < 2 ^ M) (hu : u < 2 ^ M) (h : pop M s = pop M u) : ∃ n, n ≤ 264 ∧ Rn M n s u := by
  have hw : ∀ x, wt M x ≤ 132 := fun x => by
    have h1 : wt M x ≤ M * 11 := fb_sm_bound (fun k hk => by have := hM.2; split <;> omega)
    have := hM.2
    omega
  obtain ⟨n1, l1, r1⟩ := Rn_down hM (s := s) rfl hs
  obtain ⟨n2, l2, r2⟩ := Rn_down hM (s := u) rfl hu
  rw [← h] at r2
  have h1 := hw s
  have h2 := hw u
  exact ⟨n1 + n2, by omega, Rn_trans r1 (Rn_symm hM r2)⟩
/-- moves with what they cost -/
def Ew (M to : Nat) : Nat → Nat → Nat → Prop
  | 0, s, c => s = to ∧ c = 0
  | n + 1, s, c => ∃ u c', adj M s u ∧ Ew M to n u c' ∧ c = c' + rho M u
theorem Ew_of {M to : Nat} (hM : inM M) : ∀ {n s : Nat}, Rn M n s to → ∃ c, c ≤ 13 * n ∧ Ew M to n s c
  | 0, s, h => ⟨0, by omega, h, rfl⟩
  | n + 1, s, h => by
    obtain ⟨u, h1, h2⟩ := h
    obtain ⟨c, h3, h4⟩ := Ew_of hM h2
    have := rho_le (s := u) hM
    exact ⟨c + rho M u, by omega, u, c, h1, h4, rfl⟩
theorem least_ex {P : Nat → Prop} (h : ∃ c, P c) : ∃ c, P c ∧ ∀ c', P c' → c ≤ c' := by
  obtain ⟨c, hc⟩ := h
  have key : ∀ N c, c ≤ N → P c → ∃ c, P c ∧ ∀ c', P c' → c ≤ c' := by
    intro N
    induction N with
    | zero => intro c h hc; exact ⟨c, hc, fun c' _ => by omega⟩
    | succ N ih =>
      intro c h hc
      rcases Classical.em (∃ c', P c' ∧ c' < c) with ⟨c', h1, h2⟩ | z
      · exact ih c' (by omega) h1
      · refine ⟨c, hc, fun c' h' => ?_⟩
        rcases Nat.lt_or_ge c' c with y | y
        · exact absurd ⟨c', h', y⟩ z
        · exact y
  exact key c c (Nat.le_refl c) hc
def isDist (M k to : Nat) (d : Nat → Nat) : Prop := d to = 0 ∧ (∀ s u, s < 2 ^ M → pop M s = k → adj M s u → d s ≤ d u + rho M u) ∧ (∀ s, s < 2 ^ M → pop M s = k → s ≠ to → ∃ u, adj M s u ∧ d s = d u + rho M u) ∧ ∀ s, s < 2 ^ M → pop M s = k → d s ≤ 4000
theorem dist_ex {M to : Nat} (hM : inM M) (ht : to < 2 ^ M) : ∃ d, isDist M (pop M to) to d := by
  have hex : ∀ s, s < 2 ^ M ∧ pop M s = pop M to → ∃ c, (∃ n, Ew M to n s c) ∧ ∀ c', (∃ n, Ew M to n s c') → c ≤ c' := fun s hs => by
    obtain ⟨n, -, hr⟩ := Rn_ex hM hs.1 ht hs.2
    obtain ⟨c, -, hc⟩ := Ew_of hM hr
    exact least_ex ⟨c, n, hc⟩
  obtain ⟨d, hd⟩ : ∃ d : Nat → Nat, ∀ s, s < 2 ^ M ∧ pop M s = pop M to → (∃ n, Ew M to n s (d s)) ∧ ∀ c', (∃ n, Ew M to n s c') → d s ≤ c' := by
    refine ⟨fun s => if h : s < 2 ^ M ∧ pop M s = pop M to then Classical.choose (hex s h) else 0, fun s hs => ?_⟩
    dsimp only
    rw [dif_pos hs]
    exact Classical.choose_spec (hex s hs)
  have D1 : ∀ s u, s < 2 ^ M → pop M s = pop M to → adj M s u → d s ≤ d u + rho M u := fun s u hs hk ha => by
    obtain ⟨⟨n, hn⟩, -⟩ := hd u ⟨adj_lt hM hs ha, by rw [adj_pop hM ha, hk]⟩
    exact (hd s ⟨hs, hk⟩).2 _ ⟨n + 1, u, _, ha, hn, rfl⟩
  refine ⟨d, ?_, D1, ?_, ?_⟩
  · have := (hd to ⟨ht, rfl⟩).2 0 ⟨0, rfl, rfl⟩
    omega
  · intro s hs hk hne
    obtain ⟨⟨n, hn⟩, -⟩ := hd s ⟨hs, hk⟩
    cases n with
    | zero => exact absurd hn.1 hne
    | succ n =>
      obtain ⟨u, c', h1, h2, h3⟩ := hn
      have h4 := (hd u ⟨adj_lt hM hs h1, by rw [adj_pop hM h1, hk]⟩).2 c' ⟨n, h2⟩
      have h5 := D1 s u hs hk h1
      exact ⟨u, h1, by omega⟩
  · intro s hs hk
    obtain ⟨n, hn, hr⟩ := Rn_ex hM hs ht hk
    obtain ⟨c, h1, hc⟩ := Ew_of hM hr
    have := (hd s ⟨hs, hk⟩).2 c ⟨n, hc⟩
    omega
