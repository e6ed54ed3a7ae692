/-! the class's ways: one step of the search by prices -/
theorem reached_s {RB j : Nat} (hj : j < 32) : m_Ways_isReached (nI RB) (nI j) = some (if RB.testBit j = true then 1 else 0) := by
  unfold m_Ways_isReached
  have h := and1_s (y := nI RB) hj
  rw [bt_nI hj] at h
  by_cases c : RB.testBit j = true
  · rw [if_neg (fun q => by have := h.mp q; rw [c] at this; cases this), if_pos c]
  · rw [if_pos (h.mpr (Bool.eq_false_iff.mpr c)), if_neg c]
theorem le_t {a b c : Int32} (h1 : a ≤ b) (h2 : b ≤ c) : a ≤ c := by rw [fa_le] at *; omega
theorem le_n {a b : Int32} (h : ¬ a ≤ b) : b ≤ a := by rw [fa_le] at *; omega
def gpx (ex gp rp : Nat → Int32) (g j : Nat) : Int32 := (ex (g * 13 + j) - gp g) - rp j
/-- the row of slacks as it is when the goers below t have been looked at -/
def CU (m RB g0 j0 t : Nat) (ex gp rp sl cf : Nat → Int32) (cf' sl' : Nat → Int32) : Prop := ∀ j, ((1 ≤ j ∧ j < t ∧ RB.testBit j = false) → sl' j = (if sl j ≤ gpx ex gp rp g0 j then sl j else gpx ex gp rp g0 j) ∧ cf' j = (if sl j ≤ gpx ex gp rp g0 j then cf j else nI j0)) ∧ (¬ (1 ≤ j ∧ j < t ∧ RB.testBit j = false) → sl' j = sl j ∧ cf' j = cf j)
def CC (RB t : Nat) (sl' : Nat → Int32) (c0 : Nat) : Prop := (c0 = 0 ∧ ∀ j, 1 ≤ j → j < t → RB.testBit j = true) ∨ (1 ≤ c0 ∧ c0 < t ∧ RB.testBit c0 = false ∧ ∀ j, 1 ≤ j → j < t → RB.testBit j = false → sl' c0 ≤ sl' j)
theorem closest_s {m RB g0 j0 fu : Nat} {ex gp rp sl cf p : Nat → Int32} (hm : m ≤ 12) (hg : g0 ≤ 12) (hj : j0 ≤ 12) (hp : p j0 = nI g0) (hfu : 20 < fu) (hf : ∃ f, 1 ≤ f ∧ f ≤ m ∧ RB.testBit f = false) : ∃ c cf' sl', m_Ways_closestUnreached fu cf ex p gp rp (nI m) (nI RB) sl (nI j0) = some (nI c, cf', sl') ∧ 1 ≤ c ∧ c ≤ m ∧ RB.testBit c = false ∧ (∀ j, 1 ≤ j → j ≤ m → RB.testBit j = false → sl' c ≤ sl' j) ∧ CU m RB g0 j0 (m + 1) ex gp rp sl cf cf' sl' := by
  unfold m_Ways_closestUnreached
  rw [ck_s (by omega) (by omega), cl_s (by omega), hp, lt_eq, lt_eq, lt_eq]
  obtain ⟨⟨c, cf1, sl1⟩, n', ⟨c0, hc0, -, hcu, hcc⟩, e⟩ := up_go (F := fun n t (c : Int32 × (Nat → Int32) × (Nat → Int32)) => m_Ways_closestUnreached_L12 (nI m) (nI RB) (nI g0) ex gp rp (nI j0) n c.1 (nI t) c.2.1 c.2.2) (m + 1) (fun t c => ∃ c0, c.1 = nI c0 ∧ 1 ≤ t ∧ CU m RB g0 j0 t ex gp rp sl cf c.2.1 c.2.2 ∧ CC RB t c.2.2 c0)
    (by
      rintro n t ⟨c, cf1, sl1⟩ ht ⟨c0, hc0, h1t, hcu, hcc⟩
      obtain rfl : c = nI c0 := hc0
      have hcu : CU m RB g0 j0 t ex gp rp sl cf cf1 sl1 := hcu
      have hcc : CC RB t sl1 c0 := hcc
      have hF : m_Ways_closestUnreached_L12 (nI m) (nI RB) (nI g0) ex gp rp (nI j0) (n + 1) (nI c0) (nI t) cf1 sl1 = m_Ways_closestUnreached_L12 (nI m) (nI RB) (nI g0) ex gp rp (nI j0) (n + 1) (nI c0) (nI t) cf1 sl1 := rfl
      by_cases q : RB.testBit t = true
      · refine ⟨(nI c0, cf1, sl1), ⟨c0, rfl, by omega, ?_, ?_⟩, ?_⟩
        · intro j
          obtain ⟨k1, k2⟩ := hcu j
          refine ⟨fun h => ?_, fun h => ?_⟩
          · by_cases z : j = t
            · subst z; rw [q] at h; exact absurd h.2.2 (by decide)
            · exact k1 ⟨h.1, by omega, h.2.2⟩
          · refine k2 (fun z => h ⟨z.1, by omega, z.2.2⟩)
        · rcases hcc with ⟨z1, z2⟩ | ⟨z1, z2, z3, z4⟩
          · refine Or.inl ⟨z1, fun j h1 h2 => ?_⟩
            by_cases z : j = t
            · subst z; exact q
            · exact z2 j h1 (by omega)
          · refine Or.inr ⟨z1, by omega, z3, fun j h1 h2 h3 => ?_⟩
            by_cases z : j = t
            · subst z; rw [q] at h3; cases h3
            · exact z4 j h1 (by omega) h3
        · show m_Ways_closestUnreached_L12 (nI m) (nI RB) (nI g0) ex gp rp (nI j0) (n + 1) (nI c0) (nI t) cf1 sl1 = m_Ways_closestUnreached_L12 (nI m) (nI RB) (nI g0) ex gp rp (nI j0) n (nI c0) (nI (t + 1)) cf1 sl1
          rw [m_Ways_closestUnreached_L12, ilt (by omega) (by omega), if_neg (by omega), reached_s (by omega), bd1_s, if_pos q, if_neg (by decide), bd3_s, lt_eq, nI_1]
      · have qf : RB.testBit t = false := Bool.eq_false_iff.mpr q
        have hst := (hcu t).2 (fun h => absurd h.2.1 (by omega))
        obtain ⟨cf2, sl2, hb, k1, k2, k3⟩ : ∃ cf2 sl2 : Nat → Int32, (∀ K : (Nat → Int32) → (Nat → Int32) → Option (Int32 × (Nat → Int32) × (Nat → Int32)), bd2 (if sl1 t ≤ gpx ex gp rp g0 t then some (cf1, sl1) else ck (nI t) 13 (lt (upd sl1 t (gpx ex gp rp g0 t)) (fun s5 => ck (nI t) 13 (lt (upd cf1 t (nI j0)) (fun c5 => some (c5, s5)))))) K = K cf2 sl2) ∧ sl2 t = (if sl t ≤ gpx ex gp rp g0 t then sl t else gpx ex gp rp g0 t) ∧ cf2 t = (if sl t ≤ gpx ex gp rp g0 t then cf t else nI j0) ∧ ∀ j, ¬ j = t → sl2 j = sl1 j ∧ cf2 j = cf1 j := by
          rw [hst.1]
          by_cases z : sl t ≤ gpx ex gp rp g0 t
          · refine ⟨cf1, sl1, fun K => ?_, ?_, ?_, fun j hj => ⟨rfl, rfl⟩⟩
            · rw [if_pos z, bd2_s]
            · rw [if_pos z]; exact hst.1
            · rw [if_pos z]; exact hst.2
          · refine ⟨upd cf1 t (nI j0), upd sl1 t (gpx ex gp rp g0 t), fun K => ?_, ?_, ?_, fun j hj => ⟨pk_un hj, pk_un hj⟩⟩
            · rw [if_neg z, ck_s (by omega) (by omega), lt_eq, ck_s (by omega) (by omega), lt_eq, bd2_s]
            · rw [if_neg z]; exact pk_us
            · rw [if_neg z]; exact pk_us
        have hcu2 : CU m RB g0 j0 (t + 1) ex gp rp sl cf cf2 sl2 := by
          intro j
          obtain ⟨y1, y2⟩ := hcu j
          by_cases z : j = t
          · subst z
            exact ⟨fun _ => ⟨k1, k2⟩, fun h => absurd ⟨h1t, by omega, qf⟩ h⟩
          · rw [(k3 j z).1, (k3 j z).2]
            exact ⟨fun h => y1 ⟨h.1, by omega, h.2.2⟩, fun h => y2 (fun h2 => h ⟨h2.1, by omega, h2.2.2⟩)⟩
        have hstep : ∀ c1, (if c0 = 0 then c1 = t else if sl2 c0 ≤ sl2 t then c1 = c0 else c1 = t) → m_Ways_closestUnreached_L12 (nI m) (nI RB) (nI g0) ex gp rp (nI j0) (n + 1) (nI c0) (nI t) cf1 sl1 = m_Ways_closestUnreached_L12 (nI m) (nI RB) (nI g0) ex gp rp (nI j0) n (nI c1) (nI (t + 1)) cf2 sl2 := by
          intro c1 hc1
          have hc12 : c0 ≤ 12 := by rcases hcc with ⟨z, _⟩ | ⟨_, z, _⟩ <;> omega
          have hG : (ex (g0 * 13 + t) - gp g0) - rp t = gpx ex gp rp g0 t := rfl
          rw [m_Ways_closestUnreached_L12, ilt (by omega) (by omega), if_neg (by omega), reached_s (by omega), bd1_s, if_neg q, if_pos rfl, show (13 : Int32) = nI 13 from rfl, pk_mul, nI_add, ck_s (by omega) (by omega), ck_s (by omega) (by omega), ck_s (by omega) (by omega), lt_eq, ck_s (by omega) (by omega), cl_s (by omega), cl_s (by omega), cl_s (by omega), hG, hb]
          by_cases z0 : c0 = 0
          · rw [if_pos z0] at hc1
            subst z0; subst hc1
            rw [if_pos (show nI 0 = 0 from rfl), lt_eq, bd3_s, lt_eq, nI_1]
          · rw [if_neg z0] at hc1
            rw [if_neg (nI_ne0 (by omega) (by omega)), ck_s (by omega) (by omega), ck_s (by omega) (by omega), cl_s (by omega)]
            by_cases z1 : sl2 c0 ≤ sl2 t
            · rw [if_pos z1] at hc1
              rw [if_pos z1, bd3_s, lt_eq, nI_1, hc1]
            · rw [if_neg z1] at hc1
              rw [if_neg z1, lt_eq, bd3_s, lt_eq, nI_1, hc1]
        rcases hcc with ⟨z1, z2⟩ | ⟨z1, z2, z3, z4⟩
        · refine ⟨(nI t, cf2, sl2), ⟨t, rfl, by omega, hcu2, Or.inr ⟨h1t, by omega, qf, fun j h1 h2 h3 => ?_⟩⟩, hstep t (by rw [if_pos z1])⟩
          by_cases z : j = t
          · subst z; rw [fa_le]; omega
          · have := z2 j h1 (by omega)
            rw [this] at h3; cases h3
        · by_cases z5 : sl2 c0 ≤ sl2 t
          · refine ⟨(nI c0, cf2, sl2), ⟨c0, rfl, by omega, hcu2, Or.inr ⟨z1, by omega, z3, fun j h1 h2 h3 => ?_⟩⟩, hstep c0 (by rw [if_neg (by omega), if_pos z5])⟩
            by_cases z : j = t
            · subst z; exact z5
            · show sl2 c0 ≤ sl2 j
              rw [(k3 c0 (by omega)).1, (k3 j z).1]
              exact z4 j h1 (by omega) h3
          · refine ⟨(nI t, cf2, sl2), ⟨t, rfl, by omega, hcu2, Or.inr ⟨h1t, by omega, qf, fun j h1 h2 h3 => ?_⟩⟩, hstep t (by rw [if_neg (by omega), if_neg z5])⟩
            by_cases z : j = t
            · subst z; rw [fa_le]; omega
            · show sl2 t ≤ sl2 j
              refine le_t (le_n z5) ?_
              rw [(k3 c0 (by omega)).1, (k3 j z).1]
              exact z4 j h1 (by omega) h3)
    m fu 1 (0, cf, sl) (by omega) (by omega) ⟨0, rfl, by omega, fun j => ⟨fun h => absurd h (by omega), fun _ => ⟨rfl, rfl⟩⟩, Or.inl ⟨rfl, fun j h1 h2 => absurd h2 (by omega)⟩⟩
  have e : m_Ways_closestUnreached_L12 (nI m) (nI RB) (nI g0) ex gp rp (nI j0) fu 0 1 cf sl = m_Ways_closestUnreached_L12 (nI m) (nI RB) (nI g0) ex gp rp (nI j0) (n' + 1) c (nI (m + 1)) cf1 sl1 := e
  obtain rfl : c = nI c0 := hc0
  have hcc : CC RB (m + 1) sl1 c0 := hcc
  obtain ⟨f, f1, f2, f3⟩ := hf
  rcases hcc with ⟨z1, z2⟩ | ⟨z1, z2, z3, z4⟩
  · have := z2 f f1 (by omega)
    rw [this] at f3; cases f3
  · refine ⟨c0, cf1, sl1, ?_, z1, by omega, z3, fun j h1 h2 h3 => z4 j h1 (by omega) h3, hcu⟩
    rw [e, m_Ways_closestUnreached_L12, ilt (by omega) (by omega), if_pos (by omega), bd3_s]
/-! the shift -/
def hit (RB t g : Nat) (P : Nat → Nat) : Prop := ∃ r, r < t ∧ RB.testBit r = true ∧ P r = g
/-- the prices as they are when the goers below t have been looked at -/
def SH (m RB t : Nat) (d : Int32) (P : Nat → Nat) (gp rp sl gp' rp' sl' : Nat → Int32) : Prop := (∀ g, (hit RB t g P → gp' g = gp g + d) ∧ (¬ hit RB t g P → gp' g = gp g)) ∧ (∀ j, ((j < t ∧ RB.testBit j = true) → rp' j = rp j - d) ∧ (¬ (j < t ∧ RB.testBit j = true) → rp' j = rp j)) ∧ ∀ j, ((j < t ∧ RB.testBit j = false) → sl' j = sl j - d) ∧ (¬ (j < t ∧ RB.testBit j = false) → sl' j = sl j)
theorem shift_s {m RB fu : Nat} {d : Int32} {gp rp sl p : Nat → Int32} {P : Nat → Nat} (hm : m ≤ 12) (hfu : 20 < fu) (hp : ∀ j, j ≤ m → p j = nI (P j)) (hR : ∀ r, RB.testBit r = true → r ≤ m ∧ P r ≤ 12) (hi : ∀ j k, RB.testBit j = true → RB.testBit k = true → P j = P k → j = k) : ∃ gp' rp' sl', m_Ways_shiftPrices fu p gp rp (nI m) (nI RB) sl d = some (gp', rp', sl') ∧ SH m RB (m + 1) d P gp rp sl gp' rp' sl' := by
  unfold m_Ways_shiftPrices
  rw [lt_eq]
  obtain ⟨⟨gp1, rp1, sl1⟩, n', hI, e⟩ := up_go (F := fun n t (c : (Nat → Int32) × (Nat → Int32) × (Nat → Int32)) => m_Ways_shiftPrices_L2 (nI m) (nI RB) d p n (nI t) c.1 c.2.1 c.2.2) (m + 1) (fun t c => SH m RB t d P gp rp sl c.1 c.2.1 c.2.2)
    (by
      rintro n t ⟨gp1, rp1, sl1⟩ ht ⟨h1, h2, h3⟩
      have h1 : ∀ g, (hit RB t g P → gp1 g = gp g + d) ∧ (¬ hit RB t g P → gp1 g = gp g) := h1
      have h2 : ∀ j, ((j < t ∧ RB.testBit j = true) → rp1 j = rp j - d) ∧ (¬ (j < t ∧ RB.testBit j = true) → rp1 j = rp j) := h2
      have h3 : ∀ j, ((j < t ∧ RB.testBit j = false) → sl1 j = sl j - d) ∧ (¬ (j < t ∧ RB.testBit j = false) → sl1 j = sl j) := h3
      have r0 := (h2 t).2 (fun h => absurd h.1 (by omega))
      have s0 := (h3 t).2 (fun h => absurd h.1 (by omega))
      by_cases q : RB.testBit t = true
      · have hPt := (hR t q).2
        have nh : ¬ hit RB t (P t) P := fun ⟨r, z1, z2, z3⟩ => by
          have := hi r t z2 q z3
          omega
        have g0 := (h1 (P t)).2 nh
        refine ⟨(upd gp1 (P t) (gp1 (P t) + d), upd rp1 t (rp1 t - d), sl1), ⟨?_, ?_, ?_⟩, ?_⟩
        · intro g
          show (hit RB (t + 1) g P → upd gp1 (P t) (gp1 (P t) + d) g = _) ∧ (¬ hit RB (t + 1) g P → upd gp1 (P t) (gp1 (P t) + d) g = _)
          by_cases z : g = P t
          · subst z
            rw [pk_us, g0]
            exact ⟨fun _ => rfl, fun h => absurd ⟨t, by omega, q, rfl⟩ h⟩
          · rw [pk_un z]
            refine ⟨fun ⟨r, y1, y2, y3⟩ => (h1 g).1 ⟨r, ?_, y2, y3⟩, fun h => (h1 g).2 (fun ⟨r, y1, y2, y3⟩ => h ⟨r, by omega, y2, y3⟩)⟩
            rcases Nat.lt_or_ge r t with x | x
            · exact x
            · obtain rfl : r = t := by omega
              exact absurd y3.symm z
        · intro j
          show ((j < t + 1 ∧ RB.testBit j = true) → upd rp1 t (rp1 t - d) j = _) ∧ (¬ (j < t + 1 ∧ RB.testBit j = true) → upd rp1 t (rp1 t - d) j = _)
          by_cases z : j = t
          · subst z
            rw [pk_us, r0]
            exact ⟨fun _ => rfl, fun h => absurd ⟨by omega, q⟩ h⟩
          · rw [pk_un z]
            exact ⟨fun h => (h2 j).1 ⟨by omega, h.2⟩, fun h => (h2 j).2 (fun y => h ⟨by omega, y.2⟩)⟩
        · intro j
          show ((j < t + 1 ∧ RB.testBit j = false) → sl1 j = _) ∧ (¬ (j < t + 1 ∧ RB.testBit j = false) → sl1 j = _)
          refine ⟨fun h => ?_, fun h => (h3 j).2 (fun y => h ⟨by omega, y.2⟩)⟩
          by_cases z : j = t
          · subst z; rw [q] at h; exact absurd h.2 (by decide)
          · exact (h3 j).1 ⟨by omega, h.2⟩
        · show m_Ways_shiftPrices_L2 (nI m) (nI RB) d p (n + 1) (nI t) gp1 rp1 sl1 = _
          rw [m_Ways_shiftPrices_L2, ilt (by omega) (by omega), if_neg (by omega), reached_s (by omega), bd1_s, if_pos q, if_neg (by decide), ck_s (by omega) (by omega), cl_s (by omega), hp t (by omega), ck_s (by omega) (by omega), ck_s (by omega) (by omega), lt_eq, ck_s (by omega) (by omega), ck_s (by omega) (by omega), lt_eq, bd3_s, lt_eq, nI_1, cl_s (by omega)]
      · have qf : RB.testBit t = false := Bool.eq_false_iff.mpr q
        refine ⟨(gp1, rp1, upd sl1 t (sl1 t - d)), ⟨?_, ?_, ?_⟩, ?_⟩
        · intro g
          refine ⟨fun ⟨r, y1, y2, y3⟩ => (h1 g).1 ⟨r, ?_, y2, y3⟩, fun h => (h1 g).2 (fun ⟨r, y1, y2, y3⟩ => h ⟨r, by omega, y2, y3⟩)⟩
          rcases Nat.lt_or_ge r t with x | x
          · exact x
          · obtain rfl : r = t := by omega
            exact absurd y2 q
        · intro j
          refine ⟨fun h => ?_, fun h => (h2 j).2 (fun y => h ⟨by omega, y.2⟩)⟩
          by_cases z : j = t
          · subst z; exact absurd h.2 q
          · exact (h2 j).1 ⟨by omega, h.2⟩
        · intro j
          show ((j < t + 1 ∧ RB.testBit j = false) → upd sl1 t (sl1 t - d) j = _) ∧ (¬ (j < t + 1 ∧ RB.testBit j = false) → upd sl1 t (sl1 t - d) j = _)
          by_cases z : j = t
          · subst z
            rw [pk_us, s0]
            exact ⟨fun _ => rfl, fun h => absurd ⟨by omega, qf⟩ h⟩
          · rw [pk_un z]
            exact ⟨fun h => (h3 j).1 ⟨by omega, h.2⟩, fun h => (h3 j).2 (fun y => h ⟨by omega, y.2⟩)⟩
        · show m_Ways_shiftPrices_L2 (nI m) (nI RB) d p (n + 1) (nI t) gp1 rp1 sl1 = _
          rw [m_Ways_shiftPrices_L2, ilt (by omega) (by omega), if_neg (by omega), reached_s (by omega), bd1_s, if_neg q, if_pos rfl, ck_s (by omega) (by omega), ck_s (by omega) (by omega), lt_eq, bd3_s, lt_eq, nI_1, cl_s (by omega)])
    (m + 1) fu 0 (gp, rp, sl) (by omega) (by omega) ⟨fun g => ⟨fun ⟨r, z, _⟩ => absurd z (Nat.not_lt_zero r), fun _ => rfl⟩, fun j => ⟨fun h => absurd h.1 (Nat.not_lt_zero j), fun _ => rfl⟩, fun j => ⟨fun h => absurd h.1 (Nat.not_lt_zero j), fun _ => rfl⟩⟩
  have e : m_Ways_shiftPrices_L2 (nI m) (nI RB) d p fu 0 gp rp sl = m_Ways_shiftPrices_L2 (nI m) (nI RB) d p (n' + 1) (nI (m + 1)) gp1 rp1 sl1 := e
  refine ⟨gp1, rp1, sl1, ?_, hI⟩
  rw [e, m_Ways_shiftPrices_L2, ilt (by omega) (by omega), if_pos (by omega), bd3_s]
