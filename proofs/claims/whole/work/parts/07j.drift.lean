/-! sets by draws -/
theorem drift_L {M t fu : Nat} (ht : t ≤ 8) (hfu : 5000 < fu) : ∀ (m i kx ky n : Nat) (s : Nat → Nat) (k r sd : Nat) (cells sets w : Nat → Int32) (la : Int32), i + m = t → m < kx → m < ky → Sh M n s → (∀ p, p < n → sets p = nI (s p)) → RW w 0 M n s → k ≤ 16 → r < 16 → IPast k r cells w → sd < 2147483648 → ∃ k' r' cells' sd' n' sets' la' w' s', m_Tn_drift_L16 fu (nI t) (nI M) (nI 16) kx (nI i) (nI k) (nI r) cells (nI sd) (nI n) sets = some (nI k', nI r', cells', nI sd', nI n', sets') ∧ m_Md_drift_L17 fu (nI t) ky (nI i) (nI k) la (nI sd) w = some (nI k', la', nI sd', w') ∧ Sh M n' s' ∧ (∀ p, p < n' → sets' p = nI (s' p)) ∧ RW w' 0 M n' s' ∧ sd' < 2147483648 ∧ k' ≤ 16 ∧ r' < 16 ∧ IPast k' r' cells' w' ∧ ∀ i, 170 ≤ i → w' i = w i := by
  intro m
  induction m with
  | zero =>
    intro i kx ky n s k r sd cells sets w la ei hx hy hS hsets hW hk hr hP hsd
    obtain ⟨kx, rfl⟩ : ∃ z, kx = z + 1 := ⟨kx - 1, by omega⟩
    obtain ⟨ky, rfl⟩ : ∃ z, ky = z + 1 := ⟨ky - 1, by omega⟩
    refine ⟨k, r, cells, sd, n, sets, la, w, s, ?_, ?_, hS, hsets, hW, hsd, hk, hr, hP, fun _ _ => rfl⟩
    · rw [m_Tn_drift_L16, ile (by omega) (by omega), if_pos (by omega)]
    · rw [m_Md_drift_L17, ile (by omega) (by omega), if_pos (by omega)]
  | succ m ih =>
    intro i kx ky n s k r sd cells sets w la ei hx hy hS hsets hW hk hr hP hsd
    obtain ⟨kx, rfl⟩ : ∃ z, kx = z + 1 := ⟨kx - 1, by omega⟩
    obtain ⟨ky, rfl⟩ : ∃ z, ky = z + 1 := ⟨ky - 1, by omega⟩
    have hn := hS.2.1
    have hp2 := p2_le hS.1.2
    have W1 : w (1 : Int32).toNatClampNeg = nI n := hW.2.1
    by_cases c : n < 8
    · obtain ⟨sd', x, x1, x2, x3, x4⟩ := draw_both (sd := sd) hS.1 hsd
      obtain ⟨cc, w1, s', eX, eY, hi, g1, g2, g3, g4, g5⟩ := add_both (fu := fu) (x := x) (drawn := nI sd) hS hsets hW hk hr hP c x2 (by omega)
      obtain ⟨k2, r2, c2, sd2, n2, se2, la2, w2, s2, e1, e2, j1, j2, j3, j4, j5, j6, j7, j8⟩ := ih (i + 1) kx ky (n + 1) s' (inc16 k) ((r + 1) % 16) sd' cc (upd sets n (nI x)) w1 (nI n) (by omega) (by omega) (by omega) g1 g2 g3 hi (by omega) g5 x1
      refine ⟨k2, r2, c2, sd2, n2, se2, la2, w2, s2, ?_, ?_, j1, j2, j3, j4, j5, j6, j7, fun i h => by rw [j8 i h]; exact g4 i h⟩
      · have hroom : m_Shelf_hasRoom (nI n) = some 1 := by
          unfold m_Shelf_hasRoom
          rw [show (8 : Int32) = nI 8 from rfl, ile (by omega) (by omega), if_neg (by omega)]
        rw [m_Tn_drift_L16, ile (by omega) (by omega), if_neg (by omega), hroom, bd1_s, if_neg (by decide), eX, bd3_s, x3, bd2_s, append_s c, bd2_s, lt_eq, nI_1]
        exact e1
      · rw [m_Md_drift_L17, ile (by omega) (by omega), if_neg (by omega), C1, W1, show (8 : Int32) = nI 8 from rfl, ile (by omega) (by omega), if_neg (by omega), md_m hW.1, bd1_s, p2_s hS.1.2, x4, bd2_s, eY, bd3_s, lt_eq, lt_eq, nI_1]
        exact e2
    · refine ⟨k, r, cells, sd, n, sets, la, w, s, ?_, ?_, hS, hsets, hW, hsd, hk, hr, hP, fun _ _ => rfl⟩
      · have hroom : m_Shelf_hasRoom (nI n) = some 0 := by
          unfold m_Shelf_hasRoom
          rw [show (8 : Int32) = nI 8 from rfl, ile (by omega) (by omega), if_pos (by omega)]
        rw [m_Tn_drift_L16, ile (by omega) (by omega), if_neg (by omega), hroom, bd1_s, if_pos rfl]
      · rw [m_Md_drift_L17, ile (by omega) (by omega), if_neg (by omega), C1, W1, show (8 : Int32) = nI 8 from rfl, ile (by omega) (by omega), if_pos (by omega)]
theorem s_drift {fu : Nat} (hfu : 5000000000 < fu) : St_drift fu Inv := by
  unfold St_drift
  intro f_x_book_entries f_x_formList_builtSize f_x_formList_all f_x_images_count f_x_past_deeds f_x_past_nextRow f_x_past_rows_count f_x_shelf_size f_x_shelf_places f_x_shelf_drawn f_y_known f_y_kept f_y_seed f_y_written f_y_formRing f_y_formMany f_y_latest f_x_book_goals f_x_book_lengths f_x_formList_rising f_x_formList_rows f_x_formList_sorted f_x_formList_starts f_x_images_cells f_x_past_rows_cells f_x_shelf_sets f_y_bookIs f_y_bookOf f_y_forms f_y_imageSeed f_y_w hI a1
  have hI0 := hI
  obtain ⟨⟨M, n, s, hS, rfl, rfl, hsets, hW⟩, ⟨sd, hsd, rfl, rfl⟩, ⟨k, r, hk, hr, rfl, rfl, rfl, rfl, hP⟩, ⟨rfl, hImg⟩, ⟨e, he, rfl, rfl, hB⟩, hFx, hFm⟩ := hI
  have ⟨i1, i2, i3, i4, i5, i6, i7⟩ := hI0
  have hM := hS.1
  have hn := hS.2.1
  have hs := hS.2.2
  have hp2 := p2_le hM.2
  have hM5 := hM.1
  have hM12 := hM.2
  have hw0 : f_y_w 0 = nI M := hW.1
  have hw1 : f_y_w 1 = nI n := hW.2.1
  have n10 : ¬ (1 : Int32) = 0 := by decide
  by_cases c1 : rg 1 8 a1
  · have h1 : (1 : Int) ≤ a1.toInt := c1.1
    have h2 : a1.toInt ≤ 8 := c1.2
    obtain ⟨t, t0, rfl, t5⟩ := rg_nat (x := a1) (by omega)
    obtain ⟨k', r', cells', sd', n', sets', la', w', s', eX, eY, g1, g2, g3, g4, g5, g6, g7, g8⟩ := drift_L (fu := fu) (t := t) (by omega) (by omega) t 0 fu fu n s k r sd f_x_past_rows_cells f_x_shelf_sets f_y_w f_y_latest (by omega) (by omega) (by omega) hS hsets hW hk hr hP hsd
    have eX : m_Tn_drift_L16 fu (nI t) (nI M) (nI 16) fu 0 (nI k) (nI r) f_x_past_rows_cells (nI sd) (nI n) f_x_shelf_sets = some (nI k', nI r', cells', nI sd', nI n', sets') := eX
    have eY : m_Md_drift_L17 fu (nI t) fu 0 (nI k) f_y_latest (nI sd) f_y_w = some (nI k', la', nI sd', w') := eY
    have W1 : w' (1 : Int32).toNatClampNeg = nI n' := g3.2.1
    refine ⟨(nI n'), (nI k'), (nI r'), cells', (nI sd'), (nI n'), sets', (nI k'), la', (nI sd'), w', ?_, ?_, ⟨⟨M, n', s', g1, rfl, rfl, g2, g3⟩, ⟨sd', g4, rfl, rfl⟩, ⟨k', r', g5, g6, rfl, rfl, rfl, rfl, g7⟩, ⟨rfl, IImg_w hImg g8⟩, i5, i6, i7⟩⟩
    · unfold m_Tn_drift
      rw [two2, if_pos c1, lt_eq, eX, bd6_s]
    · unfold m_Md_drift
      rw [in_s 1 8 (by decide) (by decide), bd1_s, if_pos c1, if_neg n10, lt_eq, eY, bd4_s, C1, W1]
  · refine ⟨(-1000000002), (nI k), (nI r), f_x_past_rows_cells, (nI sd), (nI n), f_x_shelf_sets, (nI k), f_y_latest, (nI sd), f_y_w, ?_, ?_, hI0⟩
    · unfold m_Tn_drift
      rw [two2, if_neg c1]
    · unfold m_Md_drift
      rw [in_s 1 8 (by decide) (by decide), bd1_s, if_neg c1, if_pos rfl]
