/-! what holds between the two, call after call -/
def IImg (cells w : Nat → Int32) (kept : Int32) (iS : Nat → Int32) : Prop := ∃ kb, kept = nI kb ∧ kb < 4 ∧ ∀ i, i < 2 → (kb.testBit i = true ∧ ∃ M n s sd, Sh M n s ∧ RC cells i M n s ∧ RW w (170 + 10 * i) M n s ∧ sd < 2147483648 ∧ cells (i * 11 + 2) = nI sd ∧ iS i = nI sd) ∨ (kb.testBit i = false ∧ cells (i * 11) = 0)
def Inv (size places drawn deeds nextRow rcount icount entries built all : Int32) (sets rcells icells goals lengths rising sorted rows starts w : Nat → Int32) (known kept seed : Int32) (imageSeed bookOf bookIs : Nat → Int32) (written : Int32) (forms : Nat → Int32) (formRing formMany : Int32) : Prop :=
  (∃ M n s, Sh M n s ∧ size = nI M ∧ places = nI n ∧ (∀ p, p < n → sets p = nI (s p)) ∧ RW w 0 M n s) ∧ (∃ sd, sd < 2147483648 ∧ drawn = nI sd ∧ seed = nI sd) ∧ (∃ k r, k ≤ 16 ∧ r < 16 ∧ deeds = nI k ∧ known = nI k ∧ nextRow = nI r ∧ rcount = nI 16 ∧ IPast k r rcells w) ∧ (icount = nI 2 ∧ IImg icells w kept imageSeed) ∧ (∃ e, e ≤ 20 ∧ entries = nI e ∧ written = nI e ∧ ∀ i, i < e → goals i = bookOf i ∧ lengths i = bookIs i) ∧ FIx all built rows sorted starts ∧ FIm formMany formRing forms
theorem IImg_w {cells w w' iS : Nat → Int32} {kept : Int32} (h : IImg cells w kept iS) (hw : ∀ i, 170 ≤ i → w' i = w i) : IImg cells w' kept iS := by
  obtain ⟨kb, h1, h2, h3⟩ := h
  refine ⟨kb, h1, h2, fun i hi => ?_⟩
  rcases h3 i hi with ⟨q, M, n, s, sd, hS, hC, hW, hr⟩ | q
  · exact Or.inl ⟨q, M, n, s, sd, hS, hC, RW_to hS.2.1 hW (fun j hj => hw _ (by omega)), hr⟩
  · exact Or.inr q
theorem ck2 {β : Type} {p : Nat} (hp : p < 8) (k : Option β) : ck (2 + nI p) 190 k = k := by
  rw [show (2 : Int32) = nI 2 from rfl, nI_add]
  exact ck_s (by omega) (by omega)
theorem cl2 {p : Nat} (hp : p < 8) : (2 + nI p).toNatClampNeg = 2 + p := by
  rw [show (2 : Int32) = nI 2 from rfl, nI_add, cl_s (by omega)]
theorem w2s {w : Nat → Int32} {M n p : Nat} {s : Nat → Nat} (hW : RW w 0 M n s) (hp : p < n) : w (2 + p) = nI (s p) := by
  have := hW.2.2 p hp
  rw [Nat.zero_add] at this
  exact this
theorem isF_form {M s : Nat} (hM : inM M) (hs : s < 2 ^ M) : form M (form M s) = form M s := by
  obtain ⟨k, hk, e, -⟩ := first_ex hM hs
  have := form_img hM hs hk
  rw [e] at this
  exact this
theorem nz {x : Nat} (h : x < 4096) (h0 : x ≠ 0) : ¬ nI x = 0 := nI_ne0 (by omega) (by omega)
def sup (s : Nat → Nat) (p c : Nat) : Nat → Nat := fun q => if q = p then c else s q
theorem sup_s {s : Nat → Nat} {p c : Nat} : sup s p c p = c := if_pos rfl
theorem sup_n {s : Nat → Nat} {p c q : Nat} (h : q ≠ p) : sup s p c q = s q := if_neg h
/-- one set more -/
theorem add_both {k r M n x fu : Nat} {s : Nat → Nat} {drawn : Int32} {sets cells w : Nat → Int32} (hS : Sh M n s) (hsets : ∀ p, p < n → sets p = nI (s p)) (hW : RW w 0 M n s) (hk : k ≤ 16) (hr : r < 16) (hP : IPast k r cells w) (h8 : n < 8) (hx : x < 2 ^ M) (hfu : 20 < fu) : ∃ cells' w' s', m_Past_remember fu drawn (nI n) sets (nI M) (nI k) (nI r) cells (nI 16) = some (nI (inc16 k), nI ((r + 1) % 16), cells') ∧ m_Md_add fu (nI k) w (nI x) = some (nI n, nI (inc16 k), w') ∧ inc16 k ≤ 16 ∧ Sh M (n + 1) s' ∧ (∀ p, p < n + 1 → upd sets n (nI x) p = nI (s' p)) ∧ RW w' 0 M (n + 1) s' ∧ (∀ i, 170 ≤ i → w' i = w i) ∧ IPast (inc16 k) ((r + 1) % 16) cells' w' := by
  obtain ⟨c1, w1, e1, e2, hi, q1, q2, q3⟩ := rem_both (drawn := drawn) (sets := sets) hS hsets hW hk hr hP hfu
  obtain ⟨hM, hn, hs⟩ := hS
  have hw1 : w1 1 = nI n := by rw [q1 1 (by omega)]; exact hW.2.1
  have W1 : w1 (1 : Int32).toNatClampNeg = nI n := hw1
  refine ⟨c1, upd (upd w1 (2 + n) (nI x)) 1 (nI (n + 1)), sup s n x, e1, ?_, hi, ⟨hM, by omega, fun p hp => ?_⟩, fun p hp => ?_, ⟨?_, ?_, fun p hp => ?_⟩, fun i h => ?_, IPast_w hi q3 (fun i h1 h2 => ?_)⟩
  · have T1 : (1 : Int32).toNatClampNeg = 1 := rfl
    have hu : upd w1 (2 + n) (nI x) 1 = nI n := by rw [pk_un (by omega)]; exact hw1
    unfold m_Md_add
    rw [e2, bd2_s, C1, W1, ck2 h8, cl2 h8, lt_eq, C1, C1, T1, hu, nI_1, lt_eq, C1, pk_us, show (1 : Int32) = nI 1 from rfl, pk_sub (by omega), Nat.add_sub_cancel]
  · by_cases c : p = n
    · rw [c, sup_s]; exact hx
    · rw [sup_n c]; exact hs p (by omega)
  · by_cases c : p = n
    · rw [c, pk_us, sup_s]
    · rw [pk_un c, sup_n c]; exact hsets p (by omega)
  · rw [pk_un (by omega), pk_un (by omega), q1 0 (by omega)]; exact hW.1
  · exact pk_us
  · rw [Nat.zero_add, pk_un (by omega)]
    by_cases c : p = n
    · rw [c, pk_us, sup_s]
    · rw [pk_un (by omega), sup_n c, q1 _ (by omega)]; exact w2s hW (by omega)
  · rw [pk_un (by omega), pk_un (by omega)]; exact q2 i h
  · rw [pk_un (by omega), pk_un (by omega)]
/-- a set in the place of another -/
theorem rep_row {M n p c : Nat} {s : Nat → Nat} {sets w w1 : Nat → Int32} (hS : Sh M n s) (hsets : ∀ q, q < n → sets q = nI (s q)) (hW : RW w 0 M n s) (hw1 : ∀ i, i < 10 → w1 i = w i) (hp : p < n) (hc : c < 2 ^ M) : Sh M n (sup s p c) ∧ (∀ q, q < n → upd sets p (nI c) q = nI (sup s p c q)) ∧ RW (upd w1 (2 + p) (nI c)) 0 M n (sup s p c) := by
  obtain ⟨hM, hn, hs⟩ := hS
  refine ⟨⟨hM, hn, fun q hq => ?_⟩, fun q hq => ?_, ?_, ?_, fun q hq => ?_⟩
  · by_cases z : q = p
    · rw [z, sup_s]; exact hc
    · rw [sup_n z]; exact hs q hq
  · by_cases z : q = p
    · rw [z, pk_us, sup_s]
    · rw [pk_un z, sup_n z]; exact hsets q hq
  · rw [pk_un (by omega), hw1 0 (by omega)]; exact hW.1
  · rw [pk_un (by omega), hw1 1 (by omega)]; exact hW.2.1
  · rw [Nat.zero_add]
    by_cases z : q = p
    · rw [z, pk_us, sup_s]
    · rw [pk_un (by omega), sup_n z, hw1 _ (by omega)]; exact w2s hW hq
