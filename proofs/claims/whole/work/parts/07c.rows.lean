/-! shelves in rows -/
def Sh (M n : Nat) (s : Nat → Nat) : Prop := inM M ∧ n ≤ 8 ∧ ∀ p, p < n → s p < 2 ^ M
def RW (w : Nat → Int32) (b M n : Nat) (s : Nat → Nat) : Prop := w b = nI M ∧ w (b + 1) = nI n ∧ ∀ p, p < n → w (b + (2 + p)) = nI (s p)
def RC (c : Nat → Int32) (r M n : Nat) (s : Nat → Nat) : Prop := c (r * 11) = nI M ∧ c (r * 11 + 1) = nI n ∧ ∀ p, p < n → c (r * 11 + (3 + p)) = nI (s p)
theorem RW_to {w w' : Nat → Int32} {a b M n : Nat} {s : Nat → Nat} (hn : n ≤ 8) (h : RW w a M n s) (hc : ∀ i, i < 10 → w' (b + i) = w (a + i)) : RW w' b M n s := by
  refine ⟨?_, ?_, fun p hp => ?_⟩
  · have := hc 0 (by omega); rw [Nat.add_zero, Nat.add_zero] at this; rw [this]; exact h.1
  · rw [hc 1 (by omega)]; exact h.2.1
  · rw [hc (2 + p) (by omega)]; exact h.2.2 p hp
theorem RC_to {c c' : Nat → Int32} {r M n : Nat} {s : Nat → Nat} (hn : n ≤ 8) (h : RC c r M n s) (hc : ∀ i, i < 11 → c' (r * 11 + i) = c (r * 11 + i)) : RC c' r M n s := by
  refine ⟨?_, ?_, fun p hp => ?_⟩
  · have := hc 0 (by omega); rw [Nat.add_zero] at this; rw [this]; exact h.1
  · rw [hc 1 (by omega)]; exact h.2.1
  · rw [hc (3 + p) (by omega)]; exact h.2.2 p hp
theorem nI_dec (k : Nat) : nI (k + 1) + (-1) = nI k := by
  rw [← nI_1, Int32.add_assoc, show (1 : Int32) + (-1) = 0 from rfl, Int32.add_zero]
theorem copy_s {w : Nat → Int32} {fu a b : Nat} (ha : a + 10 ≤ 190) (hb : b + 10 ≤ 190) (hd : a + 10 ≤ b ∨ b + 10 ≤ a) (hfu : 20 < fu) : ∃ w', m_Md_copyRow fu w (nI a) (nI b) = some w' ∧ (∀ i, i < 10 → w' (b + i) = w (a + i)) ∧ ∀ i, (i < b ∨ b + 10 ≤ i) → w' i = w i := by
  obtain ⟨w1, n', ⟨h1, h2⟩, e⟩ := up_go (F := fun k i (w : Nat → Int32) => m_Md_copyRow_L2 (nI a) (nI b) k (nI i) w) 10 (fun k w1 => (∀ i, i < k → w1 (b + i) = w (a + i)) ∧ ∀ i, (i < b ∨ b + k ≤ i) → w1 i = w i)
    (by
      rintro k i w1 hi ⟨h1, h2⟩
      refine ⟨upd w1 (b + i) (w1 (a + i)), ⟨fun j hj => ?_, fun j hj => ?_⟩, ?_⟩
      · by_cases c : j = i
        · subst c; rw [pk_us]; exact h2 _ (by omega)
        · rw [pk_un (by omega)]; exact h1 j (by omega)
      · rw [pk_un (by omega)]; exact h2 j (by omega)
      · show m_Md_copyRow_L2 (nI a) (nI b) (k + 1) (nI i) w1 = _
        rw [m_Md_copyRow_L2, show (10 : Int32) = nI 10 from rfl, ile (by omega) (by omega), if_neg (by omega), nI_add, nI_add, ck_s (by omega) (by omega), ck_s (by omega) (by omega), cl_s (by omega), cl_s (by omega), lt_eq, lt_eq, nI_1])
    10 fu 0 w (by omega) (by omega) ⟨fun i h => absurd h (Nat.not_lt_zero i), fun _ _ => rfl⟩
  have e : m_Md_copyRow_L2 (nI a) (nI b) fu 0 w = m_Md_copyRow_L2 (nI a) (nI b) (n' + 1) (nI 10) w1 := e
  refine ⟨w1, ?_, h1, h2⟩
  unfold m_Md_copyRow
  rw [lt_eq, e, m_Md_copyRow_L2, show (10 : Int32) = nI 10 from rfl, ile (by omega) (by omega), if_pos (by omega), bd1_s]
theorem rem_L3 {fu : Nat} (hfu : 20 < fu) : ∀ (k n : Nat) (w : Nat → Int32), k ≤ 16 → k < n → ∃ w', m_Md_remember_L3 fu n (nI k) w = some w' ∧ (∀ j, 1 ≤ j → j ≤ k → ∀ i, i < 10 → w' (10 * j + i) = w (10 * (j - 1) + i)) ∧ ∀ i, (i < 10 ∨ 10 * k + 10 ≤ i) → w' i = w i
  | 0, n, w, _, hn => by
    obtain ⟨n, rfl⟩ : ∃ z, n = z + 1 := ⟨n - 1, by omega⟩
    refine ⟨w, ?_, fun j h1 h2 => absurd h2 (by omega), fun _ _ => rfl⟩
    rw [m_Md_remember_L3, if_pos (show nI 0 ≤ 0 by decide)]
  | k + 1, n, w, hk, hn => by
    obtain ⟨n, rfl⟩ : ∃ z, n = z + 1 := ⟨n - 1, by omega⟩
    obtain ⟨w1, e1, h1, h2⟩ := copy_s (w := w) (fu := fu) (a := 10 * k) (b := 10 * (k + 1)) (by omega) (by omega) (Or.inl (by omega)) hfu
    obtain ⟨w2, e2, g1, g2⟩ := rem_L3 hfu k n w1 (by omega) (by omega)
    refine ⟨w2, ?_, fun j j1 j2 i hi => ?_, fun i hi => ?_⟩
    · have e1' : m_Md_copyRow fu w (nI 10 * (nI (k + 1) - nI 1)) (nI 10 * nI (k + 1)) = some w1 := by
        rw [pk_sub (by omega), pk_mul, pk_mul]; exact e1
      have e1'' : m_Md_copyRow fu w (10 * (nI (k + 1) - 1)) (10 * nI (k + 1)) = some w1 := e1'
      rw [m_Md_remember_L3, show (0 : Int32) = nI 0 from rfl, ile (by omega) (by omega), if_neg (by omega), e1'', bd1_s, lt_eq, nI_dec]
      exact e2
    · by_cases c : j = k + 1
      · subst c
        rw [g2 _ (by omega), h1 i hi, Nat.add_sub_cancel]
      · rw [g1 j j1 (by omega) i hi, h2 _ (by omega)]
    · rw [g2 i (by omega), h2 i (by omega)]
def inc16 (k : Nat) : Nat := if 16 ≤ k then 16 else k + 1
theorem md_rem_s {w : Nat → Int32} {fu k : Nat} (hk : k ≤ 16) (hfu : 20 < fu) : ∃ w', m_Md_remember fu (nI k) w = some (nI (inc16 k), w') ∧ (∀ j, 1 ≤ j → j ≤ 16 → ∀ i, i < 10 → w' (10 * j + i) = w (10 * (j - 1) + i)) ∧ ∀ i, (i < 10 ∨ 170 ≤ i) → w' i = w i := by
  obtain ⟨w1, e1, h1, h2⟩ := rem_L3 hfu 16 fu w (by omega) (by omega)
  have e1 : m_Md_remember_L3 fu fu 16 w = some w1 := e1
  refine ⟨w1, ?_, h1, fun i hi => h2 i (by omega)⟩
  unfold m_Md_remember inc16
  rw [lt_eq, e1, bd1_s, show (16 : Int32) = nI 16 from rfl, ile (by omega) (by omega), lt_eq, lt_eq, nI_1]
  split <;> rfl
theorem und28 {w : Nat → Int32} {fu k : Nat} (h1 : 1 ≤ k) (hk : k ≤ 16) (hfu : 20 < fu) : ∃ w', m_Md_undo_L28 fu (nI k) fu 0 w = some w' ∧ (∀ j, j + k ≤ 16 → ∀ i, i < 10 → w' (10 * j + i) = w (10 * (j + k) + i)) ∧ ∀ i, 170 ≤ i → w' i = w i := by
  obtain ⟨w1, n', ⟨g1, g2⟩, e⟩ := up_go (F := fun n j (w : Nat → Int32) => m_Md_undo_L28 fu (nI k) n (nI j) w) (17 - k) (fun j w1 => (∀ j', j' < j → ∀ i, i < 10 → w1 (10 * j' + i) = w (10 * (j' + k) + i)) ∧ ∀ i, 10 * j ≤ i → w1 i = w i)
    (by
      rintro n j w1 hj ⟨g1, g2⟩
      obtain ⟨w2, e2, q1, q2⟩ := copy_s (w := w1) (fu := fu) (a := 10 * (j + k)) (b := 10 * j) (by omega) (by omega) (Or.inr (by omega)) hfu
      have e2 : m_Md_copyRow fu w1 (nI (10 * (j + k))) (nI (10 * j)) = some w2 := e2
      refine ⟨w2, ⟨fun j' hj' i hi => ?_, fun i hi => ?_⟩, ?_⟩
      · by_cases c : j' = j
        · subst c; rw [q1 i hi]; exact g2 _ (by omega)
        · rw [q2 _ (by omega)]; exact g1 j' (by omega) i hi
      · rw [q2 i (by omega)]; exact g2 i (by omega)
      · show m_Md_undo_L28 fu (nI k) (n + 1) (nI j) w1 = _
        rw [m_Md_undo_L28, nI_add, show (16 : Int32) = nI 16 from rfl, ilt (by omega) (by omega), if_neg (by omega), show (10 : Int32) = nI 10 from rfl, pk_mul, pk_mul, e2, bd1_s, lt_eq, nI_1])
    (17 - k) fu 0 w (by omega) (by omega) ⟨fun j h => absurd h (Nat.not_lt_zero j), fun _ _ => rfl⟩
  have e : m_Md_undo_L28 fu (nI k) fu 0 w = m_Md_undo_L28 fu (nI k) (n' + 1) (nI (17 - k)) w1 := e
  refine ⟨w1, ?_, fun j hj i hi => g1 j (by omega) i hi, fun i hi => g2 i (by omega)⟩
  rw [e, m_Md_undo_L28, nI_add, show (16 : Int32) = nI 16 from rfl, ilt (by omega) (by omega), if_pos (by omega)]
/-! the class's rows -/
theorem rhas_s {cnt r : Nat} (hc : cnt ≤ 16) (hr : r < cnt) : m_Rows_has (nI cnt) (nI r) = some 1 := by
  unfold m_Rows_has
  rw [if_neg (nI_pos (by omega)), ile (by omega) (by omega), if_neg (by omega)]
theorem sets_any {n p : Nat} {sets : Nat → Int32} (hn : n ≤ 8) (hp : p < 8) : ∃ v, m_Shelf_setAt (nI n) sets (nI p) = some v ∧ (p < n → v = sets p) := by
  by_cases c : p < n
  · exact ⟨_, setAt_s hn c, fun _ => rfl⟩
  · refine ⟨0, setAt_o hn (fun h => ?_), fun h => absurd h c⟩
    have h2 := (nI_ltI (by omega) (by omega)).mp h.2
    exact c h2
theorem store_s {C cnt r fu M n : Nat} {drawn : Int32} {sets cells : Nat → Int32} (hr : r < cnt) (hc : cnt ≤ 16) (hC : C = cnt * 11) (hn : n ≤ 8) (hfu : 20 < fu) : ∃ cells', m_Rows_store fu C drawn (nI n) sets (nI M) cells (nI cnt) (nI r) = some cells' ∧ cells' (r * 11) = nI M ∧ cells' (r * 11 + 1) = nI n ∧ cells' (r * 11 + 2) = drawn ∧ (∀ p, p < n → cells' (r * 11 + (3 + p)) = sets p) ∧ ∀ i, (i < r * 11 ∨ r * 11 + 11 ≤ i) → cells' i = cells i := by
  have hCr : r * 11 + 11 ≤ C := by omega
  obtain ⟨c1, n', ⟨h1, h2⟩, e⟩ := up_go (F := fun k p (c : Nat → Int32) => m_Rows_store_L53 (nI n) sets (nI (r * 11)) C k (nI p) c) 8 (fun p c => (∀ q, q < p → q < n → c (r * 11 + (3 + q)) = sets q) ∧ ∀ i, (i < r * 11 + 3 ∨ r * 11 + 11 ≤ i) → c i = (upd (upd (upd cells (r * 11) (nI M)) (r * 11 + 1) (nI n)) (r * 11 + 2) drawn) i)
    (by
      rintro k p c hp ⟨h1, h2⟩
      obtain ⟨v, ev, hv⟩ := sets_any (sets := sets) hn hp
      refine ⟨upd c (r * 11 + 3 + p) v, ⟨fun q hq hqn => ?_, fun i hi => ?_⟩, ?_⟩
      · by_cases z : q = p
        · subst z
          rw [show r * 11 + (3 + q) = r * 11 + 3 + q by omega, pk_us]
          exact hv hqn
        · rw [pk_un (by omega)]; exact h1 q (by omega) hqn
      · rw [pk_un (by omega)]; exact h2 i hi
      · show m_Rows_store_L53 (nI n) sets (nI (r * 11)) C (k + 1) (nI p) c = _
        rw [m_Rows_store_L53, show (8 : Int32) = nI 8 from rfl, ile (by omega) (by omega), if_neg (by omega), ev, bd1_s, show (3 : Int32) = nI 3 from rfl, nI_add, nI_add, ck_s (by omega) (by omega), cl_s (by omega), lt_eq, lt_eq, nI_1])
    8 fu 0 (upd (upd (upd cells (r * 11) (nI M)) (r * 11 + 1) (nI n)) (r * 11 + 2) drawn) (by omega) (by omega) ⟨fun q h => absurd h (Nat.not_lt_zero q), fun _ _ => rfl⟩
  have e : m_Rows_store_L53 (nI n) sets (nI (r * 11)) C fu 0 (upd (upd (upd cells (r * 11) (nI M)) (r * 11 + 1) (nI n)) (r * 11 + 2) drawn) = m_Rows_store_L53 (nI n) sets (nI (r * 11)) C (n' + 1) (nI 8) c1 := e
  refine ⟨c1, ?_, ?_, ?_, ?_, fun p hp => h1 p (by omega) hp, fun i hi => ?_⟩
  · unfold m_Rows_store
    rw [rhas_s hc hr, bd1_s, if_neg (by decide), show (11 : Int32) = nI 11 from rfl, pk_mul, lt_eq, Int32.add_zero, show (2 : Int32) = nI 2 from rfl, nI_add, nI_1, ck_s (by omega) (by omega), cl_s (by omega), lt_eq, ck_s (by omega) (by omega), cl_s (by omega), lt_eq, ck_s (by omega) (by omega), cl_s (by omega), lt_eq, lt_eq, e, m_Rows_store_L53, show (8 : Int32) = nI 8 from rfl, ile (by omega) (by omega), if_pos (by omega), bd1_s]
  · rw [h2 _ (by omega), pk_un (by omega), pk_un (by omega), pk_us]
  · rw [h2 _ (by omega), pk_un (by omega), pk_us]
  · rw [h2 _ (by omega), pk_us]
  · rw [h2 _ (by omega), pk_un (by omega), pk_un (by omega), pk_un (by omega)]
theorem append_s {n : Nat} {sets : Nat → Int32} (hn : n < 8) (x : Int32) : m_Shelf_append (nI n) sets x = some (nI (n + 1), upd sets n x) := by
  unfold m_Shelf_append m_Shelf_hasRoom
  rw [show (8 : Int32) = nI 8 from rfl, ile (by omega) (by omega), if_neg (by omega), bd1_s, if_neg (by decide), ck_s (by omega) (by omega), cl_s (by omega), lt_eq, lt_eq, nI_1]
theorem stored_s {C cnt r : Nat} {cells : Nat → Int32} (hr : r < cnt) (hc : cnt ≤ 16) (hC : C = cnt * 11) : m_Rows_isStored C cells (nI cnt) (nI r) = some (if cells (r * 11) = 0 then 0 else 1) := by
  unfold m_Rows_isStored
  rw [rhas_s hc hr, bd1_s, if_neg (by decide), show (11 : Int32) = nI 11 from rfl, pk_mul, Int32.add_zero, ck_s (by omega) (by omega), cl_s (by omega)]
  split <;> rfl
theorem load_s {C cnt r fu M n : Nat} {s : Nat → Nat} {places size : Int32} {sets cells : Nat → Int32} (hr : r < cnt) (hc : cnt ≤ 16) (hC : C = cnt * 11) (hS : Sh M n s) (h : RC cells r M n s) (hfu : 20 < fu) : ∃ sets', m_Rows_load fu C places sets size cells (nI cnt) (nI r) = some (nI n, sets', nI M) ∧ ∀ p, p < n → sets' p = nI (s p) := by
  obtain ⟨hM, hn, hs⟩ := hS
  have hM5 := hM.1
  have hM12 := hM.2
  have hCr : r * 11 + 11 ≤ C := by omega
  obtain ⟨⟨p1, s1⟩, n', ⟨h1, h2⟩, e⟩ := up_go (F := fun k p (x : Int32 × (Nat → Int32)) => m_Rows_load_L34 (nI (r * 11)) C cells k (nI p) x.1 x.2) n (fun p x => x.1 = nI p ∧ ∀ q, q < p → x.2 q = nI (s q))
    (by
      rintro k p ⟨p1, s1⟩ hp ⟨h1, h2⟩
      obtain rfl : p1 = nI p := h1
      have h2 : ∀ q, q < p → s1 q = nI (s q) := h2
      refine ⟨(nI (p + 1), upd s1 p (nI (s p))), ⟨rfl, fun q hq => ?_⟩, ?_⟩
      · show upd s1 p (nI (s p)) q = _
        by_cases z : q = p
        · subst z; exact pk_us
        · rw [pk_un z]; exact h2 q (by omega)
      · show m_Rows_load_L34 (nI (r * 11)) C cells (k + 1) (nI p) (nI p) s1 = _
        rw [m_Rows_load_L34, nI_1, ck_s (by omega) (by omega), cl_s (by omega), h.2.1, ile (by omega) (by omega), if_neg (by omega), show (8 : Int32) = nI 8 from rfl, ile (by omega) (by omega), if_neg (by omega), show (3 : Int32) = nI 3 from rfl, nI_add, nI_add, ck_s (by omega) (by omega), cl_s (by omega), show r * 11 + 3 + p = r * 11 + (3 + p) by omega, h.2.2 p hp, append_s (by omega), bd2_s, lt_eq, nI_1])
    n fu 0 (0, sets) (by omega) (by omega) ⟨rfl, fun q h => absurd h (Nat.not_lt_zero q)⟩
  have e : m_Rows_load_L34 (nI (r * 11)) C cells fu 0 0 sets = m_Rows_load_L34 (nI (r * 11)) C cells (n' + 1) (nI n) p1 s1 := e
  obtain rfl : p1 = nI n := h1
  refine ⟨s1, ?_, h2⟩
  have hne : ¬ nI M = 0 := nI_ne0 (by omega) (by omega)
  unfold m_Rows_load
  rw [stored_s hr hc hC, h.1, if_neg hne, bd1_s, if_neg (by decide), show (11 : Int32) = nI 11 from rfl, pk_mul, lt_eq, Int32.add_zero, ck_s (by omega) (by omega), cl_s (by omega), h.1, lt_eq, lt_eq, lt_eq, e, m_Rows_load_L34, nI_1, ck_s (by omega) (by omega), cl_s (by omega), h.2.1, ile (by omega) (by omega), if_pos (by omega), bd2_s]
/-! the past -/
def IPast (k r : Nat) (cells w : Nat → Int32) : Prop := ∀ j, 1 ≤ j → j ≤ k → ∃ M n s, Sh M n s ∧ RC cells ((r + 16 - j) % 16) M n s ∧ RW w (10 * j) M n s
theorem IPast_w {k r : Nat} {cells w w' : Nat → Int32} (hk : k ≤ 16) (h : IPast k r cells w) (hw : ∀ i, 10 ≤ i → i < 170 → w' i = w i) : IPast k r cells w' := by
  intro j h1 h2
  obtain ⟨M, n, s, hS, hC, hW⟩ := h j h1 h2
  exact ⟨M, n, s, hS, hC, RW_to hS.2.1 hW (fun i hi => hw _ (by omega) (by omega))⟩
theorem rem_both {k r M n fu : Nat} {s : Nat → Nat} {drawn : Int32} {sets cells w : Nat → Int32} (hS : Sh M n s) (hsets : ∀ p, p < n → sets p = nI (s p)) (hW : RW w 0 M n s) (hk : k ≤ 16) (hr : r < 16) (hP : IPast k r cells w) (hfu : 20 < fu) : ∃ cells' w', m_Past_remember fu drawn (nI n) sets (nI M) (nI k) (nI r) cells (nI 16) = some (nI (inc16 k), nI ((r + 1) % 16), cells') ∧ m_Md_remember fu (nI k) w = some (nI (inc16 k), w') ∧ inc16 k ≤ 16 ∧ (∀ i, i < 10 → w' i = w i) ∧ (∀ i, 170 ≤ i → w' i = w i) ∧ IPast (inc16 k) ((r + 1) % 16) cells' w' := by
  have hn := hS.2.1
  obtain ⟨c', e1, c1, c2, c3, c4, c5⟩ := store_s (C := 176) (cnt := 16) (r := r) (fu := fu) (M := M) (n := n) (drawn := drawn) (sets := sets) (cells := cells) hr (by omega) rfl hn hfu
  obtain ⟨w', e2, w1, w2⟩ := md_rem_s (w := w) (k := k) hk hfu
  have hi : inc16 k ≤ 16 ∧ inc16 k ≤ k + 1 := by unfold inc16; split <;> omega
  refine ⟨c', w', ?_, e2, hi.1, fun i h => w2 i (Or.inl h), fun i h => w2 i (Or.inr h), ?_⟩
  · unfold m_Past_remember
    have e3 : (nI r + 1) - (nI r + 1) / 16 * 16 = nI ((r + 1) % 16) := by
      rw [nI_1, show (16 : Int32) = nI 16 from rfl, pk_rem (by omega) (by omega) (by omega)]
    have e4 : (if 16 < nI k + 1 then 16 else nI k + 1) = nI (inc16 k) := by
      unfold inc16
      rw [nI_1, show (16 : Int32) = nI 16 from rfl, ilt (by omega) (by omega)]
      by_cases c : 16 ≤ k
      · rw [if_pos (by omega), if_pos c]
      · rw [if_neg (by omega), if_neg c]
    rw [e1, bd1_s, e3, lt_eq, e4, lt_eq]
  · intro j h1 h2
    by_cases c : j = 1
    · subst c
      refine ⟨M, n, s, hS, ?_, RW_to hn hW (fun i hi => by have := w1 1 (by omega) (by omega) i hi; rw [this])⟩
      have : ((r + 1) % 16 + 16 - 1) % 16 = r := by omega
      rw [this]
      exact ⟨c1, c2, fun p hp => by rw [c4 p hp]; exact hsets p hp⟩
    · obtain ⟨M', n', s', hS', hC', hW'⟩ := hP (j - 1) (by omega) (by omega)
      refine ⟨M', n', s', hS', ?_, RW_to hS'.2.1 hW' (fun i hi => w1 j h1 (by omega) i hi)⟩
      have : ((r + 1) % 16 + 16 - j) % 16 = (r + 16 - (j - 1)) % 16 := by omega
      rw [this]
      exact RC_to hS'.2.1 hC' (fun i hi => c5 _ (by omega))
theorem undo_both {k r t fu : Nat} {sets cells w : Nat → Int32} {places size : Int32} (ht : 1 ≤ t) (htk : t ≤ k) (hk : k ≤ 16) (hr : r < 16) (hP : IPast k r cells w) (hfu : 20 < fu) : ∃ M n s sets' w', Sh M n s ∧ m_Past_bringBack fu places sets size (nI k) (nI r) cells (nI 16) (nI t) = some (nI n, sets', nI M, nI (k - t), nI ((r + 16 - t) % 16)) ∧ m_Md_undo_L28 fu (nI t) fu 0 w = some w' ∧ (∀ p, p < n → sets' p = nI (s p)) ∧ RW w' 0 M n s ∧ (∀ i, 170 ≤ i → w' i = w i) ∧ IPast (k - t) ((r + 16 - t) % 16) cells w' := by
  obtain ⟨M, n, s, hS, hC, hW⟩ := hP t ht htk
  obtain ⟨w', e1, w1, w2⟩ := und28 (w := w) (fu := fu) ht (by omega) hfu
  obtain ⟨sets', e2, h2⟩ := load_s (C := 176) (cnt := 16) (r := (r + 16 - t) % 16) (fu := fu) (places := places) (size := size) (sets := sets) (by omega) (by omega) rfl hS hC hfu
  refine ⟨M, n, s, sets', w', hS, ?_, e1, h2, ?_, w2, ?_⟩
  · unfold m_Past_bringBack
    have e3 : (nI r + 16 - nI t) - (nI r + 16 - nI t) / 16 * 16 = nI ((r + 16 - t) % 16) := by
      rw [show (16 : Int32) = nI 16 from rfl, nI_add, pk_sub (by omega), pk_rem (by omega) (by omega) (by omega)]
    rw [show (1 : Int32) = nI 1 from rfl, ilt (by omega) (by omega), if_neg (by omega), ile (by omega) (by omega), if_pos htk, e3, lt_eq, pk_sub htk, lt_eq, e2, bd3_s]
  · exact RW_to hS.2.1 hW (fun i hi => by
      have := w1 0 (by omega) i hi
      rw [Nat.zero_add t] at this
      exact this)
  · intro j h1 h2
    obtain ⟨M', n', s', hS', hC', hW'⟩ := hP (j + t) (by omega) (by omega)
    refine ⟨M', n', s', hS', ?_, RW_to hS'.2.1 hW' (fun i hi => w1 j (by omega) i hi)⟩
    have : ((r + 16 - t) % 16 + 16 - j) % 16 = (r + 16 - (j + t)) % 16 := by omega
    rw [this]
    exact hC'
