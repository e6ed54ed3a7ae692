/-! what a set becomes: both sides -/
theorem two5 {α : Type} {n : Nat} {x lo : Int32} {A B : α} (hn : n ≤ 5000) : (if x < lo then A else if x < nI n then B else A) = if rg lo (nI n - 1) x then B else A := by
  unfold rg
  rw [show (1 : Int32) = nI 1 from rfl, pk_sub_toInt (by omega) (by omega)]
  by_cases h1 : x < lo
  · rw [if_pos h1, if_neg (fun h => by rw [fa_lt] at h1; omega)]
  · rw [if_neg h1]
    by_cases h2 : x < nI n
    · rw [if_pos h2, if_pos (by rw [fa_lt] at h1 h2; rw [nI_toInt (by omega)] at h2; omega)]
    · rw [if_neg h2, if_neg (fun h => h2 (by rw [fa_lt, nI_toInt (by omega)]; omega))]
theorem rg_ex {n : Nat} {x lo : Int32} (hn : n ≤ 5000) (hlo : 0 ≤ lo.toInt) (h : rg lo (nI n - 1) x) : ∃ q, q < n ∧ lo.toInt ≤ q ∧ x = nI q := by
  unfold rg at h
  rw [show (1 : Int32) = nI 1 from rfl, pk_sub_toInt (by omega) (by omega)] at h
  obtain ⟨q, q1, q2, q3⟩ := rg_nat (x := x) (by omega)
  exact ⟨q, by omega, by omega, q2⟩
theorem isk_m {w : Nat → Int32} {M : Nat} (hM : inM M) (hw : w 0 = nI M) (v : Int32) : m_Md_isKind w 0 v = some (if rg 0 (nI M - 1) v then 1 else 0) ∧ m_Md_isKind w 1 v = some 1 ∧ m_Md_isKind w 2 v = some (if rg 1 (nI M - 1) v then 1 else 0) ∧ m_Md_isKind w 3 v = some 1 ∧ m_Md_isKind w 4 v = some (if rg 0 (nI M - 1) v then 1 else 0) ∧ m_Md_isKind w 5 v = some 1 := by
  have fin : ∀ P : Prop, [Decidable P] → (if (if P then (1 : Int32) else 0) = 0 then some (0 : Int32) else some 1) = some (if P then 1 else 0) := fun P _ => by
    by_cases h : P
    · rw [if_pos h, if_neg (by decide)]
    · rw [if_neg h, if_pos rfl]
  have q0 : m_Md_in (Int32.toInt64 0) 0 5 = some 1 := by decide
  have q1 : m_Md_in (Int32.toInt64 1) 0 5 = some 1 := by decide
  have q2 : m_Md_in (Int32.toInt64 2) 0 5 = some 1 := by decide
  have q3 : m_Md_in (Int32.toInt64 3) 0 5 = some 1 := by decide
  have q4 : m_Md_in (Int32.toInt64 4) 0 5 = some 1 := by decide
  have q5 : m_Md_in (Int32.toInt64 5) 0 5 = some 1 := by decide
  have n10 : ¬ (1 : Int32) = 0 := by decide
  unfold m_Md_isKind
  refine ⟨?_, ?_, ?_, ?_, ?_, ?_⟩
  · rw [if_pos rfl, bd1_s, lt_eq, q0, bd1_s, if_neg n10, if_neg n10, if_neg (by decide), bd1_s, md_m hw, bd1_s, in_s 0 (nI M - 1) (by decide) (by rw [Int32.toInt_toInt64]), bd1_s, fin]
  · rw [if_neg (by decide), if_neg (by decide), if_neg (by decide), bd1_s, lt_eq, q1, bd1_s, if_neg n10, if_pos rfl]
  · rw [if_neg (by decide), if_pos rfl, bd1_s, lt_eq, q2, bd1_s, if_neg n10, if_neg n10, if_pos rfl, bd1_s, md_m hw, bd1_s, in_s 1 (nI M - 1) (by decide) (by rw [Int32.toInt_toInt64]), bd1_s, fin]
  · rw [if_neg (by decide), if_neg (by decide), if_neg (by decide), bd1_s, lt_eq, q3, bd1_s, if_neg n10, if_pos rfl]
  · rw [if_neg (by decide), if_neg (by decide), if_pos rfl, bd1_s, lt_eq, q4, bd1_s, if_neg n10, if_neg n10, if_neg (by decide), bd1_s, md_m hw, bd1_s, in_s 0 (nI M - 1) (by decide) (by rw [Int32.toInt_toInt64]), bd1_s, fin]
  · rw [if_neg (by decide), if_neg (by decide), if_neg (by decide), bd1_s, lt_eq, q5, bd1_s, if_neg n10, if_pos rfl]
theorem isk_o {w : Nat → Int32} {k v : Int32} (h : ¬ rg 0 5 k) : m_Md_isKind w k v = some 0 := by
  have h0 : ¬ k = 0 := fun e => h (by rw [e]; decide)
  have h2 : ¬ k = 2 := fun e => h (by rw [e]; decide)
  have h4 : ¬ k = 4 := fun e => h (by rw [e]; decide)
  unfold m_Md_isKind
  rw [if_neg h0, if_neg h2, if_neg h4, bd1_s, lt_eq, in_s 0 5 (by decide) (by decide), bd1_s, if_neg h, if_pos rfl]
theorem rg05 {k : Int32} (h : rg 0 5 k) : k = 0 ∨ k = 1 ∨ k = 2 ∨ k = 3 ∨ k = 4 ∨ k = 5 := by
  have h1 : (0 : Int) ≤ k.toInt := h.1
  have h2 : k.toInt ≤ 5 := h.2
  obtain ⟨q, q1, rfl, q3⟩ := rg_nat h1
  have : q = 0 ∨ q = 1 ∨ q = 2 ∨ q = 3 ∨ q = 4 ∨ q = 5 := by omega
  rcases this with rfl | rfl | rfl | rfl | rfl | rfl <;> decide
theorem xor_lt {M a b : Nat} (ha : a < 2 ^ M) (hb : b < 2 ^ M) : a ^^^ b < 2 ^ M := Nat.xor_lt_two_pow ha hb
theorem change_s {M s fu : Nat} {w : Nat → Int32} (hM : inM M) (hw : w 0 = nI M) (hs : s < 2 ^ M) (k v : Int32) (hfu : 5000 < fu) :
    (∃ c, c < 2 ^ M ∧ m_Ring_changed fu (nI s) k v (nI M) = some (nI c) ∧ m_Md_isKind w k v = some 1 ∧ (k = 2 → m_Md_share fu w v = some 0) ∧ ∀ w' : Nat → Int32, w' 0 = nI M → m_Md_changed fu w' (nI s) k v = some (nI c)) ∨ (m_Ring_changed fu (nI s) k v (nI M) = some (-1000000002) ∧ m_Md_isKind w k v = some 0) ∨ (k = 2 ∧ m_Ring_changed fu (nI s) k v (nI M) = some (-1000000003) ∧ m_Md_isKind w k v = some 1 ∧ m_Md_share fu w v = some 1) := by
  have hp := p2_le hM.2
  have hM12 := hM.2
  have hM5 := hM.1
  obtain ⟨i0, i1, i2, i3, i4, i5⟩ := isk_m hM hw v
  by_cases c : rg 0 5 k
  · rcases rg05 c with rfl | rfl | rfl | rfl | rfl | rfl
    · by_cases r : rg 0 (nI M - 1) v
      · obtain ⟨t, ht, -, rfl⟩ := rg_ex (by omega) (by decide) r
        refine Or.inl ⟨img M s t, img_lt (by omega), ?_, by rw [i0, if_pos r], fun h => absurd h (by decide), fun w' hw' => ?_⟩
        · unfold m_Ring_changed
          rw [if_pos rfl, two5 (by omega), if_pos r, turned_s hM ht hs, bd1_s]
        · unfold m_Md_changed
          rw [if_pos rfl, md_moved_s hM hw' hs (by omega) 1 (nI t) (rot M t) (fun j hj => ⟨rot_lt (by omega), (mv_all hM hj ht).1⟩), bd1_s]
          rfl
      · refine Or.inr (Or.inl ⟨?_, by rw [i0, if_neg r]⟩)
        unfold m_Ring_changed
        rw [if_pos rfl, two5 (by omega), if_neg r]
    · refine Or.inl ⟨img M s M, img_lt (by omega), ?_, i1, fun h => absurd h (by decide), fun w' hw' => ?_⟩
      · unfold m_Ring_changed
        rw [if_neg (by decide), if_pos rfl, mirrored_s hM hs (by omega), bd1_s]
      · unfold m_Md_changed
        rw [if_neg (by decide), if_pos rfl, md_moved_s hM hw' hs (by omega) (-1) 0 (rot M (M + 0)) (fun j hj => ⟨rot_lt (by omega), (mv_all (t := 0) hM hj (by omega)).2.1⟩), bd1_s]
        rfl
    · by_cases r : rg 1 (nI M - 1) v
      · obtain ⟨t, ht, h1, rfl⟩ := rg_ex (by omega) (by decide) r
        have h1 : 1 ≤ t := by
          have : (1 : Int32).toInt = 1 := by decide
          omega
        have e1 := cd_s (M := M) (v := t) (fu := fu) h1 (by omega) (by omega) (by omega)
        have e2 := share_s (M := M) (v := t) (fu := fu) hw h1 (by omega) (by omega) (by omega)
        by_cases z : exB (cdv t M) 2 (t - 1) = true
        · rw [if_pos z] at e1 e2
          refine Or.inr (Or.inr ⟨rfl, ?_, by rw [i2, if_pos r], e2⟩)
          unfold m_Ring_changed
          rw [if_neg (by decide), if_neg (by decide), if_pos rfl, two5 (by omega), if_pos r, e1, bd1_s, if_neg (by decide)]
        · rw [if_neg z] at e1 e2
          refine Or.inl ⟨acc (fun k => k * t % M) s M, mulN_lt (by omega), ?_, by rw [i2, if_pos r], fun _ => e2, fun w' hw' => ?_⟩
          · unfold m_Ring_changed
            rw [if_neg (by decide), if_neg (by decide), if_pos rfl, two5 (by omega), if_pos r, e1, bd1_s, if_pos rfl, mult_s hM hs ht (by omega), bd1_s]
          · unfold m_Md_changed
            rw [if_neg (by decide), if_neg (by decide), if_pos rfl, md_moved_s hM hw' hs (by omega) (nI t) 0 (fun k => k * t % M) (fun j hj => ⟨Nat.mod_lt _ (by omega), (mv_all hM hj ht).2.2⟩), bd1_s]
      · refine Or.inr (Or.inl ⟨?_, by rw [i2, if_neg r]⟩)
        unfold m_Ring_changed
        rw [if_neg (by decide), if_neg (by decide), if_pos rfl, two5 (by omega), if_neg r]
    · refine Or.inl ⟨2 ^ M - 1 - s, by omega, ?_, i3, fun h => absurd h (by decide), fun w' hw' => ?_⟩
      · unfold m_Ring_changed
        rw [if_neg (by decide), if_neg (by decide), if_neg (by decide), if_pos rfl, all_s (by omega), bd1_s, cmpl_s (by omega) hs]
      · unfold m_Md_changed
        rw [if_neg (by decide), if_neg (by decide), if_neg (by decide), if_pos rfl, md_m hw', bd1_s, p2_s (by omega), show (1 : Int32) = nI 1 from rfl, pk_sub (by omega), pk_sub (by omega)]
    · by_cases r : rg 0 (nI M - 1) v
      · obtain ⟨t, ht, -, rfl⟩ := rg_ex (by omega) (by decide) r
        refine Or.inl ⟨s ^^^ 2 ^ t, flip_lt hs ht, ?_, by rw [i4, if_pos r], fun h => absurd h (by decide), fun w' hw' => ?_⟩
        · unfold m_Ring_changed
          rw [if_neg (by decide), if_neg (by decide), if_neg (by decide), if_neg (by decide), if_pos rfl, two5 (by omega), if_pos r, p2_s (by omega), nx_xor]
        · unfold m_Md_changed
          rw [if_neg (by decide), if_neg (by decide), if_neg (by decide), if_neg (by decide), if_pos rfl, p2_s (by omega), nx_xor]
      · refine Or.inr (Or.inl ⟨?_, by rw [i4, if_neg r]⟩)
        unfold m_Ring_changed
        rw [if_neg (by decide), if_neg (by decide), if_neg (by decide), if_neg (by decide), if_pos rfl, two5 (by omega), if_neg r]
    · refine Or.inl ⟨form M s, form_lt hM hs, ?_, i5, fun h => absurd h (by decide), fun w' hw' => ?_⟩
      · unfold m_Ring_changed
        rw [if_neg (by decide), if_neg (by decide), if_neg (by decide), if_neg (by decide), if_neg (by decide), if_pos rfl, form_s hM hs (by omega), bd1_s]
      · unfold m_Md_changed
        rw [if_neg (by decide), if_neg (by decide), if_neg (by decide), if_neg (by decide), if_neg (by decide), md_form_s hM hw' hs (by omega), bd1_s]
  · refine Or.inr (Or.inl ⟨?_, isk_o c⟩)
    unfold m_Ring_changed
    rw [if_neg (fun e => c (by rw [e]; decide)), if_neg (fun e => c (by rw [e]; decide)), if_neg (fun e => c (by rw [e]; decide)), if_neg (fun e => c (by rw [e]; decide)), if_neg (fun e => c (by rw [e]; decide)), if_neg (fun e => c (by rw [e]; decide))]
theorem join_s {M a b : Nat} (ha : a < 2 ^ M) (hb : b < 2 ^ M) (k : Int32) : (rg 0 3 k ∧ ∃ c, c < 2 ^ M ∧ m_Ring_joined (nI a) (nI b) k = some (nI c) ∧ (if k = 0 then some (nI a &&& nI b) else (if k = 1 then some (nI a ||| nI b) else (if k = 2 then some (nI a ^^^ nI b) else some (nI a &&& (nI b ^^^ (-1)))))) = some (nI c)) ∨ (¬ rg 0 3 k ∧ m_Ring_joined (nI a) (nI b) k = some (-1000000002)) := by
  unfold m_Ring_joined
  by_cases c : rg 0 3 k
  · refine Or.inl ⟨c, ?_⟩
    have h1 : (0 : Int) ≤ k.toInt := c.1
    have h2 : k.toInt ≤ 3 := c.2
    obtain ⟨q, q1, rfl, q3⟩ := rg_nat h1
    have : q = 0 ∨ q = 1 ∨ q = 2 ∨ q = 3 := by omega
    rcases this with rfl | rfl | rfl | rfl
    · exact ⟨a &&& b, Nat.lt_of_le_of_lt Nat.and_le_left ha, by rw [if_pos (by decide), fa_and], by rw [if_pos (by decide), fa_and]⟩
    · exact ⟨a ||| b, Nat.or_lt_two_pow ha hb, by rw [if_neg (by decide), if_pos (by decide), fa_or], by rw [if_neg (by decide), if_pos (by decide), fa_or]⟩
    · exact ⟨a ^^^ b, xor_lt ha hb, by rw [if_neg (by decide), if_neg (by decide), if_pos (by decide), nx_xor], by rw [if_neg (by decide), if_neg (by decide), if_pos (by decide), nx_xor]⟩
    · exact ⟨a ^^^ (a &&& b), xor_lt ha (Nat.lt_of_le_of_lt Nat.and_le_left ha), by rw [if_neg (by decide), if_neg (by decide), if_neg (by decide), if_pos (by decide), anot_s], by rw [if_neg (by decide), if_neg (by decide), if_neg (by decide), anot_s]⟩
  · refine Or.inr ⟨c, ?_⟩
    rw [if_neg (fun e => c (by rw [e]; decide)), if_neg (fun e => c (by rw [e]; decide)), if_neg (fun e => c (by rw [e]; decide)), if_neg (fun e => c (by rw [e]; decide))]
/-! unlike forms -/
def sameF (M : Nat) (s : Nat → Nat) (p q : Nat) : Bool := decide (form M (s q) = form M (s p))
def newF (M : Nat) (s : Nat → Nat) (p : Nat) : Bool := !exB (sameF M s p) 0 p
theorem ahead_L {M n p fu : Nat} {s : Nat → Nat} {sets : Nat → Int32} (hM : inM M) (hn : n ≤ 8) (hs : ∀ p, p < n → s p < 2 ^ M) (hw : ∀ p, p < n → sets p = nI (s p)) (hp : p < n) (hfu : 30 < fu) : ∀ (m q k : Nat), q + m = p → m < k → m_Shelf_isFormAhead_L15 fu (nI p) (nI n) sets (nI M) (nI (form M (s p))) k (nI q) = some (if exB (sameF M s p) q m then 1 else 0)
  | 0, q, k, e, hk => by
    obtain ⟨k, rfl⟩ : ∃ z, k = z + 1 := ⟨k - 1, by omega⟩
    rw [m_Shelf_isFormAhead_L15, ile (by omega) (by omega), if_pos (by omega)]
    rfl
  | m + 1, q, k, e, hk => by
    obtain ⟨k, rfl⟩ : ∃ z, k = z + 1 := ⟨k - 1, by omega⟩
    have hp2 := p2_le hM.2
    have f1 := form_lt hM (hs q (by omega))
    have f2 := form_lt hM (hs p hp)
    rw [m_Shelf_isFormAhead_L15, ile (by omega) (by omega), if_neg (by omega), setAt_s hn (by omega), bd1_s, hw q (by omega), form_s hM (hs q (by omega)) hfu, bd1_s, ieq (by omega) (by omega), lt_eq, nI_1, ahead_L hM hn hs hw hp hfu m (q + 1) k (by omega) (by omega), exB]
    unfold sameF
    by_cases h : form M (s q) = form M (s p)
    · rw [if_pos h, decide_eq_true h]; rfl
    · rw [if_neg h, decide_eq_false h, Bool.false_or]
theorem ahead_s {M n p fu : Nat} {s : Nat → Nat} {sets : Nat → Int32} (hM : inM M) (hn : n ≤ 8) (hs : ∀ p, p < n → s p < 2 ^ M) (hw : ∀ p, p < n → sets p = nI (s p)) (hp : p < n) (hfu : 30 < fu) : m_Shelf_isFormAhead fu (nI n) sets (nI M) (nI p) = some (if exB (sameF M s p) 0 p then 1 else 0) := by
  unfold m_Shelf_isFormAhead
  rw [setAt_s hn hp, bd1_s, hw p hp, form_s hM (hs p hp) hfu, bd1_s, lt_eq, lt_eq]
  exact ahead_L hM hn hs hw hp hfu p 0 fu (by omega) (by omega)
theorem unlike_s {M n fu : Nat} {s : Nat → Nat} {sets : Nat → Int32} (hM : inM M) (hn : n ≤ 8) (hs : ∀ p, p < n → s p < 2 ^ M) (hw : ∀ p, p < n → sets p = nI (s p)) (hfu : 30 < fu) : m_Shelf_countUnlikeForms fu (nI n) sets (nI M) = some (nI (fb_ct (newF M s) n)) := by
  unfold m_Shelf_countUnlikeForms
  rw [lt_eq, lt_eq]
  obtain ⟨c, n', h1, e⟩ := up_go (F := fun k p (c : Int32) => m_Shelf_countUnlikeForms_L4 fu (nI n) sets (nI M) k c (nI p)) n (fun p c => c = nI (fb_ct (newF M s) p))
    (by
      rintro k p c hp rfl
      refine ⟨_, rfl, ?_⟩
      show m_Shelf_countUnlikeForms_L4 fu (nI n) sets (nI M) (k + 1) (nI (fb_ct (newF M s) p)) (nI p) = _
      have key : (if (if exB (sameF M s p) 0 p then (1 : Int32) else 0) = 0 then lt (nI (fb_ct (newF M s) p) + 1) (fun v1_5 => some v1_5) else some (nI (fb_ct (newF M s) p))) = some (nI (fb_ct (newF M s) (p + 1))) := by
        rw [fb_ct_succ, lt_eq, nI_1]
        unfold newF
        cases exB (sameF M s p) 0 p <;> rfl
      rw [m_Shelf_countUnlikeForms_L4, ile (by omega) (by omega), if_neg (by omega), ahead_s hM hn hs hw hp hfu, bd1_s, key, bd1_s, lt_eq, nI_1])
    n fu 0 0 (by omega) (by omega) rfl
  have e : m_Shelf_countUnlikeForms_L4 fu (nI n) sets (nI M) fu 0 0 = m_Shelf_countUnlikeForms_L4 fu (nI n) sets (nI M) (n' + 1) c (nI n) := e
  rw [e, m_Shelf_countUnlikeForms_L4, ile (by omega) (by omega), if_pos (by omega), bd1_s, h1]
theorem md_unlike_s {M n fu : Nat} {s : Nat → Nat} {w : Nat → Int32} (hM : inM M) (hn : n ≤ 8) (hw0 : w 0 = nI M) (hw1 : w 1 = nI n) (hs : ∀ p, p < n → s p < 2 ^ M) (hw : ∀ p, p < n → w (2 + p) = nI (s p)) (hfu : 30 < fu) : m_Md_unlikeForms fu w = some (nI (fb_ct (newF M s) n)) := by
  have hp2 := p2_le hM.2
  have W1 : w (1 : Int32).toNatClampNeg = nI n := hw1
  have inner : ∀ p, p < n → m_Md_unlikeForms_L19 fu (nI p) w fu 1 0 = some (if exB (sameF M s p) 0 p then 0 else 1) := by
    intro p hp
    obtain ⟨c, n', h1, e⟩ := up_go (F := fun k q (c : Int32) => m_Md_unlikeForms_L19 fu (nI p) w k c (nI q)) p (fun q c => c = if exB (sameF M s p) 0 q then 0 else 1)
      (by
        rintro k q c hq rfl
        refine ⟨_, rfl, ?_⟩
        show m_Md_unlikeForms_L19 fu (nI p) w (k + 1) (if exB (sameF M s p) 0 q then 0 else 1) (nI q) = _
        have f1 := form_lt hM (hs q (by omega))
        have f2 := form_lt hM (hs p hp)
        have key : (if (if exB (sameF M s p) 0 q then (0 : Int32) else 1) = 0 then some (0 : Int32) else ck (2 + nI q) 190 (bd1 (m_Md_formOf fu w (w (2 + nI q).toNatClampNeg)) (fun r_1 => ck (2 + nI p) 190 (bd1 (m_Md_formOf fu w (w (2 + nI p).toNatClampNeg)) (fun r_2 => (if r_1 = r_2 then some ((0 : Int32)) else some ((1 : Int32)))))))) = some (if exB (sameF M s p) 0 (q + 1) then 0 else 1) := by
          rw [exB_top, Nat.zero_add]
          cases exB (sameF M s p) 0 q
          · rw [if_neg (show ¬ (if false = true then (0 : Int32) else 1) = 0 by decide), show (2 : Int32) = nI 2 from rfl, nI_add, nI_add, ck_s (by omega) (by omega), cl_s (by omega), hw q (by omega), md_form_s hM hw0 (hs q (by omega)) hfu, bd1_s, ck_s (by omega) (by omega), cl_s (by omega), hw p hp, md_form_s hM hw0 (hs p hp) hfu, bd1_s, ieq (by omega) (by omega), Bool.false_or]
            unfold sameF
            by_cases h : form M (s q) = form M (s p)
            · rw [if_pos h, decide_eq_true h]; rfl
            · rw [if_neg h, decide_eq_false h]; rfl
          · rfl
        rw [m_Md_unlikeForms_L19, ile (by omega) (by omega), if_neg (by omega), key, bd1_s, lt_eq, lt_eq, nI_1])
      p fu 0 1 (by omega) (by omega) rfl
    have e : m_Md_unlikeForms_L19 fu (nI p) w fu 1 0 = m_Md_unlikeForms_L19 fu (nI p) w (n' + 1) c (nI p) := e
    rw [e, m_Md_unlikeForms_L19, ile (by omega) (by omega), if_pos (by omega), h1]
  unfold m_Md_unlikeForms
  rw [lt_eq, lt_eq]
  obtain ⟨c, n', h1, e⟩ := up_go (F := fun k p (c : Int32) => m_Md_unlikeForms_L4 fu w k c (nI p)) n (fun p c => c = nI (fb_ct (newF M s) p))
    (by
      rintro k p c hp rfl
      refine ⟨_, rfl, ?_⟩
      show m_Md_unlikeForms_L4 fu w (k + 1) (nI (fb_ct (newF M s) p)) (nI p) = _
      have key : (if (if exB (sameF M s p) 0 p then (0 : Int32) else 1) = 0 then some (0 : Int32) else some 1) = some (nI (if newF M s p then 1 else 0)) := by
        unfold newF
        cases exB (sameF M s p) 0 p <;> rfl
      rw [m_Md_unlikeForms_L4, C1, W1, ile (by omega) (by omega), if_neg (by omega), lt_eq, lt_eq, inner p hp, bd1_s, key, bd1_s, nI_add, lt_eq, lt_eq, nI_1, fb_ct_succ])
    n fu 0 0 (by omega) (by omega) rfl
  have e : m_Md_unlikeForms_L4 fu w fu 0 0 = m_Md_unlikeForms_L4 fu w (n' + 1) c (nI n) := e
  rw [e, m_Md_unlikeForms_L4, C1, W1, ile (by omega) (by omega), if_pos (by omega), bd1_s, h1]
