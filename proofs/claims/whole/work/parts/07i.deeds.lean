/-! the deeds, the rest -/
theorem s_undo {fu : Nat} (hfu : 5000000000 < fu) : St_undo fu Inv := by
  unfold St_undo
  intro f_x_book_entries f_x_formList_builtSize f_x_formList_all f_x_images_count f_x_past_deeds f_x_past_nextRow f_x_past_rows_count f_x_shelf_size f_x_shelf_places f_x_shelf_drawn f_y_known f_y_kept f_y_seed f_y_written f_y_formRing f_y_formMany f_x_book_goals f_x_book_lengths f_x_formList_rising f_x_formList_rows f_x_formList_sorted f_x_formList_starts f_x_images_cells f_x_past_rows_cells f_x_shelf_sets f_y_bookIs f_y_bookOf f_y_forms f_y_imageSeed f_y_w hI a1
  have hI0 := hI
  obtain ⟨⟨M, n, s, hS, rfl, rfl, hsets, hW⟩, ⟨sd, hsd, rfl, rfl⟩, ⟨k, r, hk, hr, rfl, rfl, rfl, rfl, hP⟩, ⟨rfl, hImg⟩, ⟨e, he, rfl, rfl, hB⟩, hFx, hFm⟩ := hI
  have ⟨i1, i2, i3, i4, i5, i6, i7⟩ := hI0
  have hM := hS.1
  have hn := hS.2.1
  have hs := hS.2.2
  have hp2 := p2_le hM.2
  have hM5 := hM.1
  have hM12 := hM.2
  have hw0 : f_y_w 0 = nI M := hW.1
  have hw1 : f_y_w 1 = nI n := hW.2.1
  have n10 : ¬ (1 : Int32) = 0 := by decide
  by_cases c1 : rg 1 16 a1
  · have h1 : (1 : Int) ≤ a1.toInt := c1.1
    have h2 : a1.toInt ≤ 16 := c1.2
    obtain ⟨t, t0, rfl, t5⟩ := rg_nat (x := a1) (by omega)
    by_cases c2 : t ≤ k
    · obtain ⟨M', n', s', sets', w', g1, eX, eY, g2, g3, g4, g5⟩ := undo_both (fu := fu) (sets := f_x_shelf_sets) (places := nI n) (size := nI M) (by omega) c2 hk hr hP (by omega)
      have W1 : w' (1 : Int32).toNatClampNeg = nI n' := g3.2.1
      refine ⟨(nI n'), (nI (k - t)), (nI ((r + 16 - t) % 16)), (nI n'), sets', (nI M'), (nI (k - t)), w', ?_, ?_, ⟨⟨M', n', s', g1, rfl, rfl, g2, g3⟩, i2, ⟨k - t, (r + 16 - t) % 16, by omega, by omega, rfl, rfl, rfl, rfl, g5⟩, ⟨rfl, IImg_w hImg g4⟩, i5, i6, i7⟩⟩
      · unfold m_Tn_undo
        rw [two2, if_pos c1, ile (by omega) (by omega), if_pos c2, eX, bd5_s]
      · unfold m_Md_undo
        rw [in_s 1 16 (by decide) (by decide), bd1_s, if_pos c1, if_neg n10, ile (by omega) (by omega), if_pos c2, lt_eq, eY, bd1_s, pk_sub c2, lt_eq, C1, W1]
    · refine ⟨(-1000000003), (nI k), (nI r), (nI n), f_x_shelf_sets, (nI M), (nI k), f_y_w, ?_, ?_, hI0⟩
      · unfold m_Tn_undo
        rw [two2, if_pos c1, ile (by omega) (by omega), if_neg c2]
      · unfold m_Md_undo
        rw [in_s 1 16 (by decide) (by decide), bd1_s, if_pos c1, if_neg n10, ile (by omega) (by omega), if_neg c2]
  · refine ⟨(-1000000002), (nI k), (nI r), (nI n), f_x_shelf_sets, (nI M), (nI k), f_y_w, ?_, ?_, hI0⟩
    · unfold m_Tn_undo
      rw [two2, if_neg c1]
    · unfold m_Md_undo
      rw [in_s 1 16 (by decide) (by decide), bd1_s, if_neg c1, if_pos rfl]
theorem s_write {fu : Nat} (hfu : 5000000000 < fu) : St_write fu Inv := by
  unfold St_write
  intro f_x_book_entries f_x_formList_builtSize f_x_formList_all f_x_images_count f_x_past_deeds f_x_past_nextRow f_x_past_rows_count f_x_shelf_size f_x_shelf_places f_x_shelf_drawn f_y_known f_y_kept f_y_seed f_y_written f_y_formRing f_y_formMany f_x_book_goals f_x_book_lengths f_x_formList_rising f_x_formList_rows f_x_formList_sorted f_x_formList_starts f_x_images_cells f_x_past_rows_cells f_x_shelf_sets f_y_bookIs f_y_bookOf f_y_forms f_y_imageSeed f_y_w hI a1 a2
  have hI0 := hI
  obtain ⟨⟨M, n, s, hS, rfl, rfl, hsets, hW⟩, ⟨sd, hsd, rfl, rfl⟩, ⟨k, r, hk, hr, rfl, rfl, rfl, rfl, hP⟩, ⟨rfl, hImg⟩, ⟨e, he, rfl, rfl, hB⟩, hFx, hFm⟩ := hI
  have ⟨i1, i2, i3, i4, i5, i6, i7⟩ := hI0
  have hM := hS.1
  have hn := hS.2.1
  have hs := hS.2.2
  have hp2 := p2_le hM.2
  have hM5 := hM.1
  have hM12 := hM.2
  have hw0 : f_y_w 0 = nI M := hW.1
  have hw1 : f_y_w 1 = nI n := hW.2.1
  have n10 : ¬ (1 : Int32) = 0 := by decide
  by_cases c1 : pl n a1
  · obtain ⟨p, hp, rfl⟩ := pl_ex (by omega) c1
    have hxp := has_t hn hp
    have hyp : m_Md_isPlace f_y_w (nI p) = some 1 := by rw [isPlace_s hn hw1, if_pos c1]
    have sxp : m_Shelf_setAt (nI n) f_x_shelf_sets (nI p) = some (nI (s p)) := by rw [setAt_s hn hp, hsets p hp]
    have kp : ∀ (β : Type) (z : Option β), ck (2 + nI p) 190 z = z := fun β z => ck2 (by omega) z
    have wyp : f_y_w (2 + nI p).toNatClampNeg = nI (s p) := by rw [cl2 (by omega)]; exact w2s hW hp
    have bsp := hs p hp
    by_cases c2 : e < 20
    · have hB2 : ∀ i, i < e + 1 → upd f_x_book_goals e (nI p) i = upd f_y_bookOf e (nI p) i ∧ upd f_x_book_lengths e a2 i = upd f_y_bookIs e a2 i := by
        intro i hi
        by_cases z : i = e
        · rw [z, pk_us, pk_us, pk_us, pk_us]; exact ⟨rfl, rfl⟩
        · rw [pk_un z, pk_un z, pk_un z, pk_un z]; exact hB i (by omega)
      have hroom : m_Book_hasRoom (nI e) = some 1 := by
        unfold m_Book_hasRoom
        rw [show (20 : Int32) = nI 20 from rfl, ile (by omega) (by omega), if_neg (by omega)]
      refine ⟨(nI (e + 1)), (nI (e + 1)), (upd f_x_book_goals e (nI p)), (upd f_x_book_lengths e a2), (upd f_y_bookIs e a2), (upd f_y_bookOf e (nI p)), (nI (e + 1)), ?_, ?_, ⟨i1, i2, i3, i4, ⟨e + 1, by omega, rfl, rfl, hB2⟩, i6, i7⟩⟩
      · unfold m_Tn_write m_Book_append
        rw [hxp, bd1_s, if_neg n10, hroom, bd1_s, if_neg n10, bd1_s, if_neg n10, ck_s (by omega) (by omega), cl_s (by omega), lt_eq, ck_s (by omega) (by omega), lt_eq, lt_eq, bd3_s, nI_1]
      · unfold m_Md_write
        rw [hyp, bd1_s, if_neg n10, show (20 : Int32) = nI 20 from rfl, ieq (by omega) (by omega), if_neg (by omega), ck_s (by omega) (by omega), cl_s (by omega), lt_eq, ck_s (by omega) (by omega), lt_eq, lt_eq, nI_1]
    · have hroom : m_Book_hasRoom (nI e) = some 0 := by
        unfold m_Book_hasRoom
        rw [show (20 : Int32) = nI 20 from rfl, ile (by omega) (by omega), if_pos (by omega)]
      refine ⟨(-1000000004), (nI e), f_x_book_goals, f_x_book_lengths, f_y_bookIs, f_y_bookOf, (nI e), ?_, ?_, hI0⟩
      · unfold m_Tn_write
        rw [hxp, bd1_s, if_neg n10, hroom, bd1_s, if_pos rfl]
      · unfold m_Md_write
        rw [hyp, bd1_s, if_neg n10, show (20 : Int32) = nI 20 from rfl, ieq (by omega) (by omega), if_pos (by omega)]
  · refine ⟨(-1000000001), (nI e), f_x_book_goals, f_x_book_lengths, f_y_bookIs, f_y_bookOf, (nI e), ?_, ?_, hI0⟩
    · unfold m_Tn_write
      rw [hasP hn, if_neg c1, bd1_s, if_pos rfl]
    · unfold m_Md_write
      rw [isPlace_s hn hw1, if_neg c1, bd1_s, if_pos rfl]
theorem s_tear {fu : Nat} (hfu : 5000000000 < fu) : St_tear fu Inv := by
  unfold St_tear
  intro f_x_book_entries f_x_formList_builtSize f_x_formList_all f_x_images_count f_x_past_deeds f_x_past_nextRow f_x_past_rows_count f_x_shelf_size f_x_shelf_places f_x_shelf_drawn f_y_known f_y_kept f_y_seed f_y_written f_y_formRing f_y_formMany f_x_book_goals f_x_book_lengths f_x_formList_rising f_x_formList_rows f_x_formList_sorted f_x_formList_starts f_x_images_cells f_x_past_rows_cells f_x_shelf_sets f_y_bookIs f_y_bookOf f_y_forms f_y_imageSeed f_y_w hI a0_
  have hI0 := hI
  obtain ⟨⟨M, n, s, hS, rfl, rfl, hsets, hW⟩, ⟨sd, hsd, rfl, rfl⟩, ⟨k, r, hk, hr, rfl, rfl, rfl, rfl, hP⟩, ⟨rfl, hImg⟩, ⟨e, he, rfl, rfl, hB⟩, hFx, hFm⟩ := hI
  have ⟨i1, i2, i3, i4, i5, i6, i7⟩ := hI0
  have hM := hS.1
  have hn := hS.2.1
  have hs := hS.2.2
  have hp2 := p2_le hM.2
  have hM5 := hM.1
  have hM12 := hM.2
  have hw0 : f_y_w 0 = nI M := hW.1
  have hw1 : f_y_w 1 = nI n := hW.2.1
  have n10 : ¬ (1 : Int32) = 0 := by decide
  refine ⟨(nI e), (nI 0), (nI 0), ?_, ?_, ⟨i1, i2, i3, i4, ⟨0, by omega, rfl, rfl, fun i h => absurd h (Nat.not_lt_zero i)⟩, i6, i7⟩⟩
  · rfl
  · rfl
theorem s_seed {fu : Nat} (hfu : 5000000000 < fu) : St_seed fu Inv := by
  unfold St_seed
  intro f_x_book_entries f_x_formList_builtSize f_x_formList_all f_x_images_count f_x_past_deeds f_x_past_nextRow f_x_past_rows_count f_x_shelf_size f_x_shelf_places f_x_shelf_drawn f_y_known f_y_kept f_y_seed f_y_written f_y_formRing f_y_formMany f_x_book_goals f_x_book_lengths f_x_formList_rising f_x_formList_rows f_x_formList_sorted f_x_formList_starts f_x_images_cells f_x_past_rows_cells f_x_shelf_sets f_y_bookIs f_y_bookOf f_y_forms f_y_imageSeed f_y_w hI a1
  have hI0 := hI
  obtain ⟨⟨M, n, s, hS, rfl, rfl, hsets, hW⟩, ⟨sd, hsd, rfl, rfl⟩, ⟨k, r, hk, hr, rfl, rfl, rfl, rfl, hP⟩, ⟨rfl, hImg⟩, ⟨e, he, rfl, rfl, hB⟩, hFx, hFm⟩ := hI
  have ⟨i1, i2, i3, i4, i5, i6, i7⟩ := hI0
  have hM := hS.1
  have hn := hS.2.1
  have hs := hS.2.2
  have hp2 := p2_le hM.2
  have hM5 := hM.1
  have hM12 := hM.2
  have hw0 : f_y_w 0 = nI M := hW.1
  have hw1 : f_y_w 1 = nI n := hW.2.1
  have n10 : ¬ (1 : Int32) = 0 := by decide
  by_cases c1 : 0 ≤ a1
  · have h1 : (0 : Int) ≤ a1.toInt := (fa_le _ _).mp c1
    obtain ⟨x, x0, rfl, x5⟩ := rg_nat (x := a1) h1
    refine ⟨(nI sd), (nI x), (nI x), ?_, ?_, ⟨i1, ⟨x, x0, rfl, rfl⟩, i3, i4, i5, i6, i7⟩⟩
    · unfold m_Tn_seed
      rw [if_pos c1, lt_eq, lt_eq]
    · unfold m_Md_seed
      rw [if_pos c1, lt_eq, lt_eq]
  · refine ⟨(-1000000002), (nI sd), (nI sd), ?_, ?_, hI0⟩
    · unfold m_Tn_seed
      rw [if_neg c1]
    · unfold m_Md_seed
      rw [if_neg c1]
theorem s_keep {fu : Nat} (hfu : 5000000000 < fu) : St_keep fu Inv := by
  unfold St_keep
  intro f_x_book_entries f_x_formList_builtSize f_x_formList_all f_x_images_count f_x_past_deeds f_x_past_nextRow f_x_past_rows_count f_x_shelf_size f_x_shelf_places f_x_shelf_drawn f_y_known f_y_kept f_y_seed f_y_written f_y_formRing f_y_formMany f_x_book_goals f_x_book_lengths f_x_formList_rising f_x_formList_rows f_x_formList_sorted f_x_formList_starts f_x_images_cells f_x_past_rows_cells f_x_shelf_sets f_y_bookIs f_y_bookOf f_y_forms f_y_imageSeed f_y_w hI a1
  have hI0 := hI
  obtain ⟨⟨M, n, s, hS, rfl, rfl, hsets, hW⟩, ⟨sd, hsd, rfl, rfl⟩, ⟨k, r, hk, hr, rfl, rfl, rfl, rfl, hP⟩, ⟨rfl, hImg⟩, ⟨e, he, rfl, rfl, hB⟩, hFx, hFm⟩ := hI
  have ⟨i1, i2, i3, i4, i5, i6, i7⟩ := hI0
  have hM := hS.1
  have hn := hS.2.1
  have hs := hS.2.2
  have hp2 := p2_le hM.2
  have hM5 := hM.1
  have hM12 := hM.2
  have hw0 : f_y_w 0 = nI M := hW.1
  have hw1 : f_y_w 1 = nI n := hW.2.1
  have n10 : ¬ (1 : Int32) = 0 := by decide
  by_cases c1 : pl 2 a1
  · obtain ⟨i, hi, rfl⟩ := pl_ex (by omega) c1
    obtain ⟨kb, rfl, hkb, hj⟩ := hImg
    obtain ⟨cc, e1, d1, d2, d3, d4, d5⟩ := store_s (C := 22) (cnt := 2) (r := i) (fu := fu) (M := M) (n := n) (drawn := nI sd) (sets := f_x_shelf_sets) (cells := f_x_images_cells) hi (by omega) rfl hn (by omega)
    obtain ⟨w', e2, b1, b2⟩ := copy_s (w := f_y_w) (fu := fu) (a := 0) (b := 170 + 10 * i) (by omega) (by omega) (Or.inl (by omega)) (by omega)
    have ei : (170 : Int32) + (10 * nI i) = nI (170 + 10 * i) := by rw [show (10 : Int32) = nI 10 from rfl, show (170 : Int32) = nI 170 from rfl, pk_mul, nI_add]
    have e2 : m_Md_copyRow fu f_y_w 0 (nI (170 + 10 * i)) = some w' := e2
    have hnew : IImg cc w' (nI (kb ||| 2 ^ i)) (upd f_y_imageSeed i (nI sd)) := by
      refine ⟨kb ||| 2 ^ i, rfl, Nat.or_lt_two_pow (n := 2) hkb (Nat.pow_lt_pow_right (by omega) hi), fun j hj2 => ?_⟩
      rw [fb_bit_set]
      by_cases z : j = i
      · subst z
        exact Or.inl ⟨by simp, M, n, s, sd, hS, ⟨d1, d2, fun p hp => by rw [d4 p hp]; exact hsets p hp⟩, RW_to hn hW b1, hsd, d3, pk_us⟩
      · rw [decide_eq_false z, Bool.or_false, pk_un z]
        rcases hj j hj2 with ⟨g0, M', n', s', sd', g1, g2, g3, g4, g5, g6⟩ | ⟨g0, g1⟩
        · exact Or.inl ⟨g0, M', n', s', sd', g1, RC_to g1.2.1 g2 (fun t ht => d5 _ (by omega)), RW_to g1.2.1 g3 (fun t ht => b2 _ (by omega)), g4, by rw [d5 _ (by omega)]; exact g5, g6⟩
        · exact Or.inr ⟨g0, by rw [d5 _ (by omega)]; exact g1⟩
    refine ⟨1, cc, (nI 0), (upd f_y_imageSeed i (nI sd)), (nI (kb ||| 2 ^ i)), (nI 0), w', ?_, ?_, ⟨⟨M, n, s, hS, rfl, rfl, hsets, RW_to hn hW (fun j hj => b2 _ (by omega))⟩, i2, ⟨0, r, by omega, hr, rfl, rfl, rfl, rfl, fun j h1 h2 => absurd h2 (by omega)⟩, ⟨rfl, hnew⟩, i5, i6, i7⟩⟩
    · unfold m_Tn_keep
      rw [show (2 : Int32) = nI 2 from rfl, two3, if_pos c1, e1, bd1_s, lt_eq]
      rfl
    · unfold m_Md_keep
      rw [in_s 0 (nI 2 - 1) (by decide) (by decide), bd1_s, if_pos ((rg_pl (by omega)).mpr c1), if_neg n10, ei, e2, bd1_s, ck_s (by omega) (by omega), cl_s (by omega), lt_eq, p2_s (by omega), fa_or, lt_eq, lt_eq]
      rfl
  · refine ⟨(-1000000001), f_x_images_cells, (nI k), f_y_imageSeed, f_y_kept, (nI k), f_y_w, ?_, ?_, hI0⟩
    · unfold m_Tn_keep
      rw [show (2 : Int32) = nI 2 from rfl, two3, if_neg c1]
    · unfold m_Md_keep
      rw [in_s 0 (nI 2 - 1) (by decide) (by decide), bd1_s, if_neg (fun z => c1 ((rg_pl (by omega)).mp z)), if_pos rfl]
theorem s_goBack {fu : Nat} (hfu : 5000000000 < fu) : St_goBack fu Inv := by
  unfold St_goBack
  intro f_x_book_entries f_x_formList_builtSize f_x_formList_all f_x_images_count f_x_past_deeds f_x_past_nextRow f_x_past_rows_count f_x_shelf_size f_x_shelf_places f_x_shelf_drawn f_y_known f_y_kept f_y_seed f_y_written f_y_formRing f_y_formMany f_x_book_goals f_x_book_lengths f_x_formList_rising f_x_formList_rows f_x_formList_sorted f_x_formList_starts f_x_images_cells f_x_past_rows_cells f_x_shelf_sets f_y_bookIs f_y_bookOf f_y_forms f_y_imageSeed f_y_w hI a1
  have hI0 := hI
  obtain ⟨⟨M, n, s, hS, rfl, rfl, hsets, hW⟩, ⟨sd, hsd, rfl, rfl⟩, ⟨k, r, hk, hr, rfl, rfl, rfl, rfl, hP⟩, ⟨rfl, hImg⟩, ⟨e, he, rfl, rfl, hB⟩, hFx, hFm⟩ := hI
  have ⟨i1, i2, i3, i4, i5, i6, i7⟩ := hI0
  have hM := hS.1
  have hn := hS.2.1
  have hs := hS.2.2
  have hp2 := p2_le hM.2
  have hM5 := hM.1
  have hM12 := hM.2
  have hw0 : f_y_w 0 = nI M := hW.1
  have hw1 : f_y_w 1 = nI n := hW.2.1
  have n10 : ¬ (1 : Int32) = 0 := by decide
  by_cases c1 : pl 2 a1
  · obtain ⟨i, hi, rfl⟩ := pl_ex (by omega) c1
    have hImg2 := hImg
    obtain ⟨kb, rfl, hkb, hj⟩ := hImg2
    have hst := stored_s (C := 22) (cnt := 2) (r := i) (cells := f_x_images_cells) hi (by omega) rfl
    rcases hj i hi with ⟨g0, M', n', s', sd', g1, g2, g3, g4, g5, g6⟩ | ⟨g0, g1⟩
    · have hne : ¬ nI M' = 0 := nI_ne0 (by have := g1.1.1; omega) (by have := g1.1.2; omega)
      rw [g2.1, if_neg hne] at hst
      obtain ⟨sets', e1, b3⟩ := load_s (C := 22) (cnt := 2) (r := i) (fu := fu) (places := nI n) (size := nI M) (sets := f_x_shelf_sets) hi (by omega) rfl g1 g2 (by omega)
      obtain ⟨w', e2, b1, b2⟩ := copy_s (w := f_y_w) (fu := fu) (a := 170 + 10 * i) (b := 0) (by omega) (by omega) (Or.inr (by omega)) (by omega)
      have ei : (170 : Int32) + (10 * nI i) = nI (170 + 10 * i) := by rw [show (10 : Int32) = nI 10 from rfl, show (170 : Int32) = nI 170 from rfl, pk_mul, nI_add]
      have e2 : m_Md_copyRow fu f_y_w (nI (170 + 10 * i)) 0 = some w' := e2
      have e3 : m_Rows_drawnOf 22 f_x_images_cells (nI 2) (nI i) = some (nI sd') := by
        unfold m_Rows_drawnOf
        rw [hst, bd1_s, if_neg n10, show (11 : Int32) = nI 11 from rfl, pk_mul, show (2 : Int32) = nI 2 from rfl, nI_add, ck_s (by omega) (by omega), cl_s (by omega), g5]
      refine ⟨1, (nI 0), (nI sd'), (nI n'), sets', (nI M'), (nI 0), (nI sd'), w', ?_, ?_, ⟨⟨M', n', s', g1, rfl, rfl, b3, RW_to g1.2.1 g3 b1⟩, ⟨sd', g4, rfl, rfl⟩, ⟨0, r, by omega, hr, rfl, rfl, rfl, rfl, fun j h1 h2 => absurd h2 (by omega)⟩, ⟨rfl, IImg_w hImg (fun t ht => b2 _ (by omega))⟩, i5, i6, i7⟩⟩
      · unfold m_Tn_goBack
        have h2 : (if nI i < 0 then some ((-1000000001 : Int32), nI k, nI sd, nI n, f_x_shelf_sets, nI M) else if nI i < nI 2 then bd1 (m_Rows_isStored 22 f_x_images_cells (nI 2) (nI i)) (fun r_1 => if r_1 = 0 then some ((-1000000003 : Int32), nI k, nI sd, nI n, f_x_shelf_sets, nI M) else bd3 (m_Rows_load fu 22 (nI n) f_x_shelf_sets (nI M) f_x_images_cells (nI 2) (nI i)) (fun a b c => bd1 (m_Rows_drawnOf 22 f_x_images_cells (nI 2) (nI i)) (fun r_2 => some ((1 : Int32), nI 0, r_2, a, b, c)))) else some ((-1000000001 : Int32), nI k, nI sd, nI n, f_x_shelf_sets, nI M)) = some (1, nI 0, nI sd', nI n', sets', nI M') := by
          rw [two3, if_pos c1, hst, bd1_s, if_neg n10, e1, bd3_s, e3, bd1_s]
        exact h2
      · unfold m_Md_goBack
        rw [in_s 0 (nI 2 - 1) (by decide) (by decide), bd1_s, if_pos ((rg_pl (by omega)).mpr c1), if_neg n10, md_has (by omega) (by omega), bd1_s, if_pos g0, if_neg n10, ei, e2, bd1_s, ck_s (by omega) (by omega), cl_s (by omega), g6, lt_eq, lt_eq]
        rfl
    · rw [if_pos g1] at hst
      refine ⟨(-1000000003), (nI k), (nI sd), (nI n), f_x_shelf_sets, (nI M), (nI k), (nI sd), f_y_w, ?_, ?_, hI0⟩
      · unfold m_Tn_goBack
        rw [show (2 : Int32) = nI 2 from rfl, two3, if_pos c1, hst, bd1_s, if_pos rfl]
      · unfold m_Md_goBack
        rw [in_s 0 (nI 2 - 1) (by decide) (by decide), bd1_s, if_pos ((rg_pl (by omega)).mpr c1), if_neg n10, md_has (by omega) (by omega), bd1_s, if_pos (by rw [g0]; decide)]
  · refine ⟨(-1000000001), (nI k), (nI sd), (nI n), f_x_shelf_sets, (nI M), (nI k), (nI sd), f_y_w, ?_, ?_, hI0⟩
    · unfold m_Tn_goBack
      rw [show (2 : Int32) = nI 2 from rfl, two3, if_neg c1]
    · unfold m_Md_goBack
      rw [in_s 0 (nI 2 - 1) (by decide) (by decide), bd1_s, if_neg (fun z => c1 ((rg_pl (by omega)).mp z)), if_pos rfl]
