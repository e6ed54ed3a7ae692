/-! the calls that ask, the rest -/
theorem s_interval {fu : Nat} (hfu : 5000000000 < fu) : St_interval fu Inv := by
  unfold St_interval
  intro f_x_book_entries f_x_formList_builtSize f_x_formList_all f_x_images_count f_x_past_deeds f_x_past_nextRow f_x_past_rows_count f_x_shelf_size f_x_shelf_places f_x_shelf_drawn f_y_known f_y_kept f_y_seed f_y_written f_y_formRing f_y_formMany f_x_book_goals f_x_book_lengths f_x_formList_rising f_x_formList_rows f_x_formList_sorted f_x_formList_starts f_x_images_cells f_x_past_rows_cells f_x_shelf_sets f_y_bookIs f_y_bookOf f_y_forms f_y_imageSeed f_y_w hI a1 a2
  have hI0 := hI
  obtain ⟨⟨M, n, s, hS, rfl, rfl, hsets, hW⟩, ⟨sd, hsd, rfl, rfl⟩, ⟨k, r, hk, hr, rfl, rfl, rfl, rfl, hP⟩, ⟨rfl, hImg⟩, ⟨e, he, rfl, rfl, hB⟩, hFx, hFm⟩ := hI
  have ⟨i1, i2, i3, i4, i5, i6, i7⟩ := hI0
  have hM := hS.1
  have hn := hS.2.1
  have hs := hS.2.2
  have hp2 := p2_le hM.2
  have hM5 := hM.1
  have hM12 := hM.2
  have hw0 : f_y_w 0 = nI M := hW.1
  have hw1 : f_y_w 1 = nI n := hW.2.1
  have n10 : ¬ (1 : Int32) = 0 := by decide
  by_cases c1 : pl n a1
  · obtain ⟨p, hp, rfl⟩ := pl_ex (by omega) c1
    have hxp := has_t hn hp
    have hyp : m_Md_isPlace f_y_w (nI p) = some 1 := by rw [isPlace_s hn hw1, if_pos c1]
    have sxp : m_Shelf_setAt (nI n) f_x_shelf_sets (nI p) = some (nI (s p)) := by rw [setAt_s hn hp, hsets p hp]
    have kp : ∀ (β : Type) (z : Option β), ck (2 + nI p) 190 z = z := fun β z => ck2 (by omega) z
    have wyp : f_y_w (2 + nI p).toNatClampNeg = nI (s p) := by rw [cl2 (by omega)]; exact w2s hW hp
    have bsp := hs p hp
    have hd2 : nI M / 2 = nI (M / 2) := by rw [show (2 : Int32) = nI 2 from rfl, pk_div (by omega) (by omega) (by omega)]
    by_cases c2 : rg 1 (nI (M / 2)) a2
    · have h1 : (1 : Int) ≤ a2.toInt := c2.1
      have h2 : a2.toInt ≤ (nI (M / 2)).toInt := c2.2
      rw [nI_toInt (by omega)] at h2
      obtain ⟨d, d1, rfl, d3⟩ := rg_nat (x := a2) (by omega)
      refine ⟨(nI (prs M (s p) d)), ?_, ?_, hI0⟩
      · unfold m_Tn_interval
        rw [hxp, bd1_s, if_neg n10, hd2, two2, if_pos c2, sxp, bd1_s, pairs_s hM bsp (by omega) (by omega), bd1_s]
      · unfold m_Md_interval
        rw [hyp, bd1_s, if_neg n10, md_m hw0, bd1_s, hd2, in_s 1 (nI (M / 2)) (by decide) (by rw [Int32.toInt_toInt64]), bd1_s, if_pos c2, if_neg n10, kp, wyp, md_pairs_s hM hw0 bsp (by omega) (by omega), bd1_s]
    · refine ⟨(-1000000002), ?_, ?_, hI0⟩
      · unfold m_Tn_interval
        rw [hxp, bd1_s, if_neg n10, hd2, two2, if_neg c2]
      · unfold m_Md_interval
        rw [hyp, bd1_s, if_neg n10, md_m hw0, bd1_s, hd2, in_s 1 (nI (M / 2)) (by decide) (by rw [Int32.toInt_toInt64]), bd1_s, if_neg c2, if_pos rfl]
  · refine ⟨(-1000000001), ?_, ?_, hI0⟩
    · unfold m_Tn_interval
      rw [hasP hn, if_neg c1, bd1_s, if_pos rfl]
    · unfold m_Md_interval
      rw [isPlace_s hn hw1, if_neg c1, bd1_s, if_pos rfl]
theorem s_forms {fu : Nat} (hfu : 5000000000 < fu) : St_forms fu Inv := by
  unfold St_forms
  intro f_x_book_entries f_x_formList_builtSize f_x_formList_all f_x_images_count f_x_past_deeds f_x_past_nextRow f_x_past_rows_count f_x_shelf_size f_x_shelf_places f_x_shelf_drawn f_y_known f_y_kept f_y_seed f_y_written f_y_formRing f_y_formMany f_x_book_goals f_x_book_lengths f_x_formList_rising f_x_formList_rows f_x_formList_seen_bits f_x_formList_sorted f_x_formList_starts f_x_images_cells f_x_past_rows_cells f_x_shelf_sets f_y_bookIs f_y_bookOf f_y_forms f_y_imageSeed f_y_w hI a1
  have hI0 := hI
  obtain ⟨⟨M, n, s, hS, rfl, rfl, hsets, hW⟩, ⟨sd, hsd, rfl, rfl⟩, ⟨k, r, hk, hr, rfl, rfl, rfl, rfl, hP⟩, ⟨rfl, hImg⟩, ⟨e, he, rfl, rfl, hB⟩, hFx, hFm⟩ := hI
  have ⟨i1, i2, i3, i4, i5, i6, i7⟩ := hI0
  have hM := hS.1
  have hn := hS.2.1
  have hs := hS.2.2
  have hp2 := p2_le hM.2
  have hM5 := hM.1
  have hM12 := hM.2
  have hw0 : f_y_w 0 = nI M := hW.1
  have hw1 : f_y_w 1 = nI n := hW.2.1
  have n10 : ¬ (1 : Int32) = 0 := by decide
  by_cases c1 : rg 0 (nI M) a1
  · have h1 : (0 : Int) ≤ a1.toInt := c1.1
    have h2 : a1.toInt ≤ (nI M).toInt := c1.2
    rw [nI_toInt (by omega)] at h2
    obtain ⟨q, q1, rfl, q3⟩ := rg_nat (x := a1) (by omega)
    obtain ⟨ri', ro', bi', so', st', eX, hSA⟩ := count_s (ri := f_x_formList_rising) (bi := f_x_formList_seen_bits) (fu := fu) (k := q) hM (by omega) hFx (by omega)
    obtain ⟨fo', eY, hFA⟩ := md_formsOf_s (fu := fu) (k := q) hM hw0 (by omega) (by omega) hFm
    refine ⟨(nI (nkT M q)), (nI (nfT M)), (nI M), ri', ro', bi', so', st', (nI (nfT M)), (nI M), fo', ?_, ?_, ⟨i1, i2, i3, i4, i5, Or.inr ⟨M, hM, rfl, rfl, hSA⟩, Or.inr ⟨M, hM, rfl, rfl, hFA⟩⟩⟩
    · unfold m_Tn_forms
      rw [two2, if_pos c1, eX, bd8_s]
    · unfold m_Md_forms
      rw [md_m hw0, bd1_s, in_s 0 (nI M) (by decide) (by rw [Int32.toInt_toInt64]), bd1_s, if_pos c1, if_neg n10, eY, bd4_s]
  · refine ⟨(-1000000002), f_x_formList_all, f_x_formList_builtSize, f_x_formList_rising, f_x_formList_rows, f_x_formList_seen_bits, f_x_formList_sorted, f_x_formList_starts, f_y_formMany, f_y_formRing, f_y_forms, ?_, ?_, hI0⟩
    · unfold m_Tn_forms
      rw [two2, if_neg c1]
    · unfold m_Md_forms
      rw [md_m hw0, bd1_s, in_s 0 (nI M) (by decide) (by rw [Int32.toInt_toInt64]), bd1_s, if_neg c1, if_pos rfl]
theorem s_formAt {fu : Nat} (hfu : 5000000000 < fu) : St_formAt fu Inv := by
  unfold St_formAt
  intro f_x_book_entries f_x_formList_builtSize f_x_formList_all f_x_images_count f_x_past_deeds f_x_past_nextRow f_x_past_rows_count f_x_shelf_size f_x_shelf_places f_x_shelf_drawn f_y_known f_y_kept f_y_seed f_y_written f_y_formRing f_y_formMany f_x_book_goals f_x_book_lengths f_x_formList_rising f_x_formList_rows f_x_formList_seen_bits f_x_formList_sorted f_x_formList_starts f_x_images_cells f_x_past_rows_cells f_x_shelf_sets f_y_bookIs f_y_bookOf f_y_forms f_y_imageSeed f_y_w hI a1 a2
  have hI0 := hI
  obtain ⟨⟨M, n, s, hS, rfl, rfl, hsets, hW⟩, ⟨sd, hsd, rfl, rfl⟩, ⟨k, r, hk, hr, rfl, rfl, rfl, rfl, hP⟩, ⟨rfl, hImg⟩, ⟨e, he, rfl, rfl, hB⟩, hFx, hFm⟩ := hI
  have ⟨i1, i2, i3, i4, i5, i6, i7⟩ := hI0
  have hM := hS.1
  have hn := hS.2.1
  have hs := hS.2.2
  have hp2 := p2_le hM.2
  have hM5 := hM.1
  have hM12 := hM.2
  have hw0 : f_y_w 0 = nI M := hW.1
  have hw1 : f_y_w 1 = nI n := hW.2.1
  have n10 : ¬ (1 : Int32) = 0 := by decide
  by_cases c1 : rg 0 (nI M) a1
  · have h1 : (0 : Int) ≤ a1.toInt := c1.1
    have h2 : a1.toInt ≤ (nI M).toInt := c1.2
    rw [nI_toInt (by omega)] at h2
    obtain ⟨q, q1, rfl, q3⟩ := rg_nat (x := a1) (by omega)
    have hkT : nkT M q ≤ 4096 := Nat.le_trans (fb_ct_le _ _) hp2
    obtain ⟨ri', ro', bi', so', st', eX, hSA⟩ := count_s (ri := f_x_formList_rising) (bi := f_x_formList_seen_bits) (fu := fu) (k := q) hM (by omega) hFx (by omega)
    obtain ⟨fo', eY, hFA⟩ := md_formsOf_s (fu := fu) (k := q) hM hw0 (by omega) (by omega) hFm
    have hx1 : ∀ {α : Type} (A B : α), (if nI q < 0 then A else if nI q ≤ nI M then B else A) = B := fun A B => by rw [two2, if_pos c1]
    by_cases c2 : pl (nkT M q) a2
    · obtain ⟨i, hi, rfl⟩ := pl_ex (by omega) c2
      obtain ⟨f, f1, f2, f3⟩ := fb_ct_kth hi
      have f2a : isF M f = true ∧ pop M f = q := by
        unfold isK at f2
        rw [Bool.and_eq_true, decide_eq_true_iff] at f2
        exact f2
      have f3 : nk M q f = i := f3
      obtain ⟨ri2', ro2', bi2', so2', st2', eX2, hSA2⟩ := cform_s (ri := ri') (bi := bi') (fu := fu) (f := f) hM (by omega) (Or.inr ⟨M, hM, rfl, rfl, hSA⟩) f1 f2a.1
      obtain ⟨fo2', eY2, hFA2⟩ := md_formAtOf_s (fu := fu) (k := q) (f := f) hM hw0 (by omega) (Or.inr ⟨M, hM, rfl, rfl, hFA⟩) f1 f2
      rw [f2a.2, f3] at eX2
      rw [f3] at eY2
      refine ⟨(nI f), (nI (nfT M)), (nI M), ri2', ro2', bi2', so2', st2', (nI (nfT M)), (nI M), fo2', ?_, ?_, ⟨i1, i2, i3, i4, i5, Or.inr ⟨M, hM, rfl, rfl, hSA2⟩, Or.inr ⟨M, hM, rfl, rfl, hFA2⟩⟩⟩
      · unfold m_Tn_formAt
        rw [hx1, if_neg (nI_pos (by omega)), eX, bd8_s, ilt (by omega) (by omega), if_pos hi, eX2, bd8_s]
      · unfold m_Md_formAt
        rw [md_m hw0, bd1_s, in_s 0 (nI M) (by decide) (by rw [Int32.toInt_toInt64]), bd1_s, if_pos c1, if_neg n10, eY, bd4_s, in_s 0 (nI (nkT M q) - 1) (by decide) (by rw [Int32.toInt_toInt64]), bd1_s, if_pos ((rg_pl (by omega)).mpr c2), if_neg n10, eY2, bd4_s]
    · by_cases c3 : a2 < 0
      · refine ⟨(-1000000001), f_x_formList_all, f_x_formList_builtSize, f_x_formList_rising, f_x_formList_rows, f_x_formList_seen_bits, f_x_formList_sorted, f_x_formList_starts, (nI (nfT M)), (nI M), fo', ?_, ?_, ⟨i1, i2, i3, i4, i5, hFx, Or.inr ⟨M, hM, rfl, rfl, hFA⟩⟩⟩
        · unfold m_Tn_formAt
          rw [hx1, if_pos c3]
        · unfold m_Md_formAt
          rw [md_m hw0, bd1_s, in_s 0 (nI M) (by decide) (by rw [Int32.toInt_toInt64]), bd1_s, if_pos c1, if_neg n10, eY, bd4_s, in_s 0 (nI (nkT M q) - 1) (by decide) (by rw [Int32.toInt_toInt64]), bd1_s, if_neg (fun z => c2 ((rg_pl (by omega)).mp z)), if_pos rfl]
      · refine ⟨(-1000000001), (nI (nfT M)), (nI M), ri', ro', bi', so', st', (nI (nfT M)), (nI M), fo', ?_, ?_, ⟨i1, i2, i3, i4, i5, Or.inr ⟨M, hM, rfl, rfl, hSA⟩, Or.inr ⟨M, hM, rfl, rfl, hFA⟩⟩⟩
        · unfold m_Tn_formAt
          rw [hx1, if_neg c3, eX, bd8_s, if_neg (fun z => c2 ⟨by rw [fa_lt] at c3; rw [fa_le]; omega, z⟩)]
        · unfold m_Md_formAt
          rw [md_m hw0, bd1_s, in_s 0 (nI M) (by decide) (by rw [Int32.toInt_toInt64]), bd1_s, if_pos c1, if_neg n10, eY, bd4_s, in_s 0 (nI (nkT M q) - 1) (by decide) (by rw [Int32.toInt_toInt64]), bd1_s, if_neg (fun z => c2 ((rg_pl (by omega)).mp z)), if_pos rfl]
  · refine ⟨(-1000000002), f_x_formList_all, f_x_formList_builtSize, f_x_formList_rising, f_x_formList_rows, f_x_formList_seen_bits, f_x_formList_sorted, f_x_formList_starts, f_y_formMany, f_y_formRing, f_y_forms, ?_, ?_, hI0⟩
    · unfold m_Tn_formAt
      rw [two2, if_neg c1]
    · unfold m_Md_formAt
      rw [md_m hw0, bd1_s, in_s 0 (nI M) (by decide) (by rw [Int32.toInt_toInt64]), bd1_s, if_neg c1, if_pos rfl]
theorem s_inside {fu : Nat} (hfu : 5000000000 < fu) : St_inside fu Inv := by
  unfold St_inside
  intro f_x_book_entries f_x_formList_builtSize f_x_formList_all f_x_images_count f_x_past_deeds f_x_past_nextRow f_x_past_rows_count f_x_shelf_size f_x_shelf_places f_x_shelf_drawn f_y_known f_y_kept f_y_seed f_y_written f_y_formRing f_y_formMany f_x_book_goals f_x_book_lengths f_x_formList_rising f_x_formList_rows f_x_formList_sorted f_x_formList_starts f_x_images_cells f_x_past_rows_cells f_x_shelf_sets f_y_bookIs f_y_bookOf f_y_forms f_y_imageSeed f_y_w hI a1 a2
  have hI0 := hI
  obtain ⟨⟨M, n, s, hS, rfl, rfl, hsets, hW⟩, ⟨sd, hsd, rfl, rfl⟩, ⟨k, r, hk, hr, rfl, rfl, rfl, rfl, hP⟩, ⟨rfl, hImg⟩, ⟨e, he, rfl, rfl, hB⟩, hFx, hFm⟩ := hI
  have ⟨i1, i2, i3, i4, i5, i6, i7⟩ := hI0
  have hM := hS.1
  have hn := hS.2.1
  have hs := hS.2.2
  have hp2 := p2_le hM.2
  have hM5 := hM.1
  have hM12 := hM.2
  have hw0 : f_y_w 0 = nI M := hW.1
  have hw1 : f_y_w 1 = nI n := hW.2.1
  have n10 : ¬ (1 : Int32) = 0 := by decide
  by_cases c1 : pl n a1
  · obtain ⟨p, hp, rfl⟩ := pl_ex (by omega) c1
    have hxp := has_t hn hp
    have hyp : m_Md_isPlace f_y_w (nI p) = some 1 := by rw [isPlace_s hn hw1, if_pos c1]
    have sxp : m_Shelf_setAt (nI n) f_x_shelf_sets (nI p) = some (nI (s p)) := by rw [setAt_s hn hp, hsets p hp]
    have kp : ∀ (β : Type) (z : Option β), ck (2 + nI p) 190 z = z := fun β z => ck2 (by omega) z
    have wyp : f_y_w (2 + nI p).toNatClampNeg = nI (s p) := by rw [cl2 (by omega)]; exact w2s hW hp
    have bsp := hs p hp
    by_cases c2 : pl n a2
    · obtain ⟨q, hq, rfl⟩ := pl_ex (by omega) c2
      have hxq := has_t hn hq
      have hyq : m_Md_isPlace f_y_w (nI q) = some 1 := by rw [isPlace_s hn hw1, if_pos c2]
      have sxq : m_Shelf_setAt (nI n) f_x_shelf_sets (nI q) = some (nI (s q)) := by rw [setAt_s hn hq, hsets q hq]
      have kq : ∀ (β : Type) (z : Option β), ck (2 + nI q) 190 z = z := fun β z => ck2 (by omega) z
      have wyq : f_y_w (2 + nI q).toNatClampNeg = nI (s q) := by rw [cl2 (by omega)]; exact w2s hW hq
      have bsq := hs q hq
      refine ⟨(nI (insN M (s p) (s q))), ?_, ?_, hI0⟩
      · unfold m_Tn_inside
        rw [hxp, bd1_s, if_neg n10, hxq, bd1_s, if_neg n10, sxp, bd1_s, sxq, bd1_s, parts_s hM bsp bsq (by omega), bd1_s]
      · unfold m_Md_inside
        rw [hyp, bd1_s, if_neg n10, hyq, bd1_s, if_neg n10, kq, wyq, md_form_s hM hw0 bsq (by omega), bd1_s, lt_eq, lt_eq, lt_eq, md_ins38 hM hw0 (by omega) (w2s hW hp) bsp bsq (by omega), bd1_s]
    · refine ⟨(-1000000001), ?_, ?_, hI0⟩
      · unfold m_Tn_inside
        rw [hxp, bd1_s, if_neg n10, hasP hn, if_neg c2, bd1_s, if_pos rfl]
      · unfold m_Md_inside
        rw [hyp, bd1_s, if_neg n10, isPlace_s hn hw1, if_neg c2, bd1_s, if_pos rfl]
  · refine ⟨(-1000000001), ?_, ?_, hI0⟩
    · unfold m_Tn_inside
      rw [hasP hn, if_neg c1, bd1_s, if_pos rfl]
    · unfold m_Md_inside
      rw [isPlace_s hn hw1, if_neg c1, bd1_s, if_pos rfl]
theorem s_way {fu : Nat} (hfu : 5000000000 < fu) : St_way fu Inv := by
  unfold St_way
  intro f_x_book_entries f_x_formList_builtSize f_x_formList_all f_x_images_count f_x_past_deeds f_x_past_nextRow f_x_past_rows_count f_x_shelf_size f_x_shelf_places f_x_shelf_drawn f_x_ways_goals f_x_ways_goers f_x_ways_reached f_y_known f_y_kept f_y_seed f_y_written f_y_formRing f_y_formMany f_x_book_goals f_x_book_lengths f_x_formList_rising f_x_formList_rows f_x_formList_sorted f_x_formList_starts f_x_images_cells f_x_past_rows_cells f_x_shelf_sets f_x_ways_cameFrom f_x_ways_extra f_x_ways_goalOfGoer f_x_ways_goalPrices f_x_ways_goalTones f_x_ways_goerPrices f_x_ways_goerTones f_x_ways_slack f_y_best f_y_bookIs f_y_bookOf f_y_forms f_y_imageSeed f_y_next f_y_w hI a1 a2
  have hI0 := hI
  obtain ⟨⟨M, n, s, hS, rfl, rfl, hsets, hW⟩, ⟨sd, hsd, rfl, rfl⟩, ⟨k, r, hk, hr, rfl, rfl, rfl, rfl, hP⟩, ⟨rfl, hImg⟩, ⟨e, he, rfl, rfl, hB⟩, hFx, hFm⟩ := hI
  have ⟨i1, i2, i3, i4, i5, i6, i7⟩ := hI0
  have hM := hS.1
  have hn := hS.2.1
  have hs := hS.2.2
  have hp2 := p2_le hM.2
  have hM5 := hM.1
  have hM12 := hM.2
  have hw0 : f_y_w 0 = nI M := hW.1
  have hw1 : f_y_w 1 = nI n := hW.2.1
  have n10 : ¬ (1 : Int32) = 0 := by decide
  by_cases c1 : pl n a1
  · obtain ⟨p, hp, rfl⟩ := pl_ex (by omega) c1
    have hxp := has_t hn hp
    have hyp : m_Md_isPlace f_y_w (nI p) = some 1 := by rw [isPlace_s hn hw1, if_pos c1]
    have sxp : m_Shelf_setAt (nI n) f_x_shelf_sets (nI p) = some (nI (s p)) := by rw [setAt_s hn hp, hsets p hp]
    have kp : ∀ (β : Type) (z : Option β), ck (2 + nI p) 190 z = z := fun β z => ck2 (by omega) z
    have wyp : f_y_w (2 + nI p).toNatClampNeg = nI (s p) := by rw [cl2 (by omega)]; exact w2s hW hp
    have bsp := hs p hp
    by_cases c2 : pl n a2
    · obtain ⟨q, hq, rfl⟩ := pl_ex (by omega) c2
      have hxq := has_t hn hq
      have hyq : m_Md_isPlace f_y_w (nI q) = some 1 := by rw [isPlace_s hn hw1, if_pos c2]
      have sxq : m_Shelf_setAt (nI n) f_x_shelf_sets (nI q) = some (nI (s q)) := by rw [setAt_s hn hq, hsets q hq]
      have kq : ∀ (β : Type) (z : Option β), ck (2 + nI q) 190 z = z := fun β z => ck2 (by omega) z
      have wyq : f_y_w (2 + nI q).toNatClampNeg = nI (s q) := by rw [cl2 (by omega)]; exact w2s hW hq
      have bsq := hs q hq
      by_cases z1 : s p = 0
      · refine ⟨(-1000000003), f_x_ways_cameFrom, f_x_ways_extra, f_x_ways_goalOfGoer, f_x_ways_goalPrices, f_x_ways_goalTones, f_x_ways_goals, f_x_ways_goerPrices, f_x_ways_goerTones, f_x_ways_goers, f_x_ways_reached, f_x_ways_slack, f_y_best, f_y_next, ?_, ?_, hI0⟩
        · unfold m_Tn_way
          rw [hxp, bd1_s, if_neg n10, hxq, bd1_s, if_neg n10, sxp, bd1_s, z1, if_pos (show nI 0 = 0 from rfl)]
        · unfold m_Md_way m_Md_areWays
          rw [hyp, bd1_s, if_neg n10, hyq, bd1_s, if_neg n10, kp, wyp, z1, if_pos (show nI 0 = 0 from rfl), bd1_s, if_pos rfl]
      · have y1 := nz (by omega) z1
        by_cases z2 : s q = 0
        · refine ⟨(-1000000003), f_x_ways_cameFrom, f_x_ways_extra, f_x_ways_goalOfGoer, f_x_ways_goalPrices, f_x_ways_goalTones, f_x_ways_goals, f_x_ways_goerPrices, f_x_ways_goerTones, f_x_ways_goers, f_x_ways_reached, f_x_ways_slack, f_y_best, f_y_next, ?_, ?_, hI0⟩
          · unfold m_Tn_way
            rw [hxp, bd1_s, if_neg n10, hxq, bd1_s, if_neg n10, sxp, bd1_s, if_neg y1, sxq, bd1_s, z2, if_pos (show nI 0 = 0 from rfl)]
          · unfold m_Md_way m_Md_areWays
            rw [hyp, bd1_s, if_neg n10, hyq, bd1_s, if_neg n10, kp, wyp, if_neg y1, kq, wyq, z2, if_pos (show nI 0 = 0 from rfl), bd1_s, if_pos rfl]
        · have y2 := nz (by omega) z2
          obtain ⟨v, hv, hv2, cf', ex', p', gp', TB', g1', rp', TA', g2', re', sl', eX⟩ := least_s (fu := fu) (cf := f_x_ways_cameFrom) (ex := f_x_ways_extra) (p := f_x_ways_goalOfGoer) (gp := f_x_ways_goalPrices) (TB := f_x_ways_goalTones) (goals := f_x_ways_goals) (rp := f_x_ways_goerPrices) (TA := f_x_ways_goerTones) (goers := f_x_ways_goers) (reached := f_x_ways_reached) (sl := f_x_ways_slack) hM bsp bsq z1 z2 (by omega)
          obtain ⟨best', next', eY⟩ := md_way_s (best := f_y_best) (next := f_y_next) (fu := fu) hM hw0 bsp bsq (by omega) hv
          refine ⟨(nI v), cf', ex', p', gp', TB', g1', rp', TA', g2', re', sl', best', next', ?_, ?_, hI0⟩
          · unfold m_Tn_way
            rw [hxp, bd1_s, if_neg n10, hxq, bd1_s, if_neg n10, sxp, bd1_s, if_neg y1, sxq, bd1_s, if_neg y2, bd1_s, bd1_s, eX, bd12_s]
          · unfold m_Md_way m_Md_areWays
            rw [hyp, bd1_s, if_neg n10, hyq, bd1_s, if_neg n10, kp, wyp, if_neg y1, kq, wyq, if_neg y2, bd1_s, if_neg n10, kp, kq, eY, bd3_s]
    · refine ⟨(-1000000001), f_x_ways_cameFrom, f_x_ways_extra, f_x_ways_goalOfGoer, f_x_ways_goalPrices, f_x_ways_goalTones, f_x_ways_goals, f_x_ways_goerPrices, f_x_ways_goerTones, f_x_ways_goers, f_x_ways_reached, f_x_ways_slack, f_y_best, f_y_next, ?_, ?_, hI0⟩
      · unfold m_Tn_way
        rw [hxp, bd1_s, if_neg n10, hasP hn, if_neg c2, bd1_s, if_pos rfl]
      · unfold m_Md_way
        rw [hyp, bd1_s, if_neg n10, isPlace_s hn hw1, if_neg c2, bd1_s, if_pos rfl]
  · refine ⟨(-1000000001), f_x_ways_cameFrom, f_x_ways_extra, f_x_ways_goalOfGoer, f_x_ways_goalPrices, f_x_ways_goalTones, f_x_ways_goals, f_x_ways_goerPrices, f_x_ways_goerTones, f_x_ways_goers, f_x_ways_reached, f_x_ways_slack, f_y_best, f_y_next, ?_, ?_, hI0⟩
    · unfold m_Tn_way
      rw [hasP hn, if_neg c1, bd1_s, if_pos rfl]
    · unfold m_Md_way
      rw [isPlace_s hn hw1, if_neg c1, bd1_s, if_pos rfl]
theorem s_nearest {fu : Nat} (hfu : 5000000000 < fu) : St_nearest fu Inv := by
  unfold St_nearest
  intro f_x_book_entries f_x_formList_builtSize f_x_formList_all f_x_images_count f_x_past_deeds f_x_past_nextRow f_x_past_rows_count f_x_shelf_size f_x_shelf_places f_x_shelf_drawn f_x_ways_nearestNumber f_x_ways_nearestLength f_x_ways_goals f_x_ways_goers f_x_ways_reached f_y_known f_y_kept f_y_seed f_y_written f_y_formRing f_y_formMany f_x_book_goals f_x_book_lengths f_x_formList_rising f_x_formList_rows f_x_formList_sorted f_x_formList_starts f_x_images_cells f_x_past_rows_cells f_x_shelf_sets f_x_ways_cameFrom f_x_ways_extra f_x_ways_goalOfGoer f_x_ways_goalPrices f_x_ways_goalTones f_x_ways_goerPrices f_x_ways_goerTones f_x_ways_slack f_y_best f_y_bookIs f_y_bookOf f_y_forms f_y_imageSeed f_y_next f_y_w hI a1 a2 a3
  have hI0 := hI
  obtain ⟨⟨M, n, s, hS, rfl, rfl, hsets, hW⟩, ⟨sd, hsd, rfl, rfl⟩, ⟨k, r, hk, hr, rfl, rfl, rfl, rfl, hP⟩, ⟨rfl, hImg⟩, ⟨e, he, rfl, rfl, hB⟩, hFx, hFm⟩ := hI
  have ⟨i1, i2, i3, i4, i5, i6, i7⟩ := hI0
  have hM := hS.1
  have hn := hS.2.1
  have hs := hS.2.2
  have hp2 := p2_le hM.2
  have hM5 := hM.1
  have hM12 := hM.2
  have hw0 : f_y_w 0 = nI M := hW.1
  have hw1 : f_y_w 1 = nI n := hW.2.1
  have n10 : ¬ (1 : Int32) = 0 := by decide
  by_cases c1 : pl n a1
  · obtain ⟨p, hp, rfl⟩ := pl_ex (by omega) c1
    have hxp := has_t hn hp
    have hyp : m_Md_isPlace f_y_w (nI p) = some 1 := by rw [isPlace_s hn hw1, if_pos c1]
    have sxp : m_Shelf_setAt (nI n) f_x_shelf_sets (nI p) = some (nI (s p)) := by rw [setAt_s hn hp, hsets p hp]
    have kp : ∀ (β : Type) (z : Option β), ck (2 + nI p) 190 z = z := fun β z => ck2 (by omega) z
    have wyp : f_y_w (2 + nI p).toNatClampNeg = nI (s p) := by rw [cl2 (by omega)]; exact w2s hW hp
    have bsp := hs p hp
    by_cases c2 : pl n a2
    · obtain ⟨q, hq, rfl⟩ := pl_ex (by omega) c2
      have hxq := has_t hn hq
      have hyq : m_Md_isPlace f_y_w (nI q) = some 1 := by rw [isPlace_s hn hw1, if_pos c2]
      have sxq : m_Shelf_setAt (nI n) f_x_shelf_sets (nI q) = some (nI (s q)) := by rw [setAt_s hn hq, hsets q hq]
      have kq : ∀ (β : Type) (z : Option β), ck (2 + nI q) 190 z = z := fun β z => ck2 (by omega) z
      have wyq : f_y_w (2 + nI q).toNatClampNeg = nI (s q) := by rw [cl2 (by omega)]; exact w2s hW hq
      have bsq := hs q hq
      by_cases c3 : rg 0 1 a3
      · by_cases z1 : s p = 0
        · refine ⟨(-1000000003), f_x_ways_cameFrom, f_x_ways_extra, f_x_ways_goalOfGoer, f_x_ways_goalPrices, f_x_ways_goalTones, f_x_ways_goals, f_x_ways_goerPrices, f_x_ways_goerTones, f_x_ways_goers, f_x_ways_nearestLength, f_x_ways_nearestNumber, f_x_ways_reached, f_x_ways_slack, f_y_best, f_y_next, ?_, ?_, hI0⟩
          · unfold m_Tn_nearest
            rw [hxp, bd1_s, if_neg n10, hxq, bd1_s, if_neg n10, two2, if_pos c3, sxp, bd1_s, z1, if_pos (show nI 0 = 0 from rfl)]
          · unfold m_Md_nearest m_Md_areWays
            rw [hyp, bd1_s, if_neg n10, hyq, bd1_s, if_neg n10, in_s 0 1 (by decide) (by decide), bd1_s, if_pos c3, if_neg n10, kp, wyp, z1, if_pos (show nI 0 = 0 from rfl), bd1_s, if_pos rfl]
        · have y1 := nz (by omega) z1
          by_cases z2 : s q = 0
          · refine ⟨(-1000000003), f_x_ways_cameFrom, f_x_ways_extra, f_x_ways_goalOfGoer, f_x_ways_goalPrices, f_x_ways_goalTones, f_x_ways_goals, f_x_ways_goerPrices, f_x_ways_goerTones, f_x_ways_goers, f_x_ways_nearestLength, f_x_ways_nearestNumber, f_x_ways_reached, f_x_ways_slack, f_y_best, f_y_next, ?_, ?_, hI0⟩
            · unfold m_Tn_nearest
              rw [hxp, bd1_s, if_neg n10, hxq, bd1_s, if_neg n10, two2, if_pos c3, sxp, bd1_s, if_neg y1, sxq, bd1_s, z2, if_pos (show nI 0 = 0 from rfl)]
            · unfold m_Md_nearest m_Md_areWays
              rw [hyp, bd1_s, if_neg n10, hyq, bd1_s, if_neg n10, in_s 0 1 (by decide) (by decide), bd1_s, if_pos c3, if_neg n10, kp, wyp, if_neg y1, kq, wyq, z2, if_pos (show nI 0 = 0 from rfl), bd1_s, if_pos rfl]
          · have y2 := nz (by omega) z2
            obtain ⟨f, hf1, hf2⟩ := wayF hM bsp bsq z1 z2
            obtain ⟨cf', ex', p', gp', TB', g1', rp', TA', g2', re', sl', eX⟩ := nearest_s (fu := fu) hM bsp bsq z1 z2 (by omega) hf1 hf2 f_x_ways_cameFrom f_x_ways_extra f_x_ways_goalOfGoer f_x_ways_goalPrices f_x_ways_goalTones f_x_ways_goals f_x_ways_goerPrices f_x_ways_goerTones f_x_ways_goers f_x_ways_nearestLength f_x_ways_nearestNumber f_x_ways_reached f_x_ways_slack
            obtain ⟨best', next', eY⟩ := md_nearest_s (best := f_y_best) (next := f_y_next) (fu := fu) hM hw0 bsp bsq (by omega) hf1 hf2
            obtain ⟨m1, m2⟩ := ns_at hf1 (2 * M) (by omega)
            by_cases c4 : a3 = 0
            · refine ⟨(nI (nsN f (2 * M))), cf', ex', p', gp', TB', g1', rp', TA', g2', (nI (nsL f (2 * M))), (nI (nsN f (2 * M))), re', sl', best', next', ?_, ?_, hI0⟩
              · unfold m_Tn_nearest
                rw [hxp, bd1_s, if_neg n10, hxq, bd1_s, if_neg n10, two2, if_pos c3, sxp, bd1_s, if_neg y1, sxq, bd1_s, if_neg y2, bd1_s, bd1_s, eX, bd13_s, if_pos c4]
              · unfold m_Md_nearest m_Md_areWays
                rw [hyp, bd1_s, if_neg n10, hyq, bd1_s, if_neg n10, in_s 0 1 (by decide) (by decide), bd1_s, if_pos c3, if_neg n10, kp, wyp, if_neg y1, kq, wyq, if_neg y2, bd1_s, if_neg n10, kp, kq, eY, bd3_s, lt_eq, if_pos c4]
            · obtain ⟨best2', next2', eY2⟩ := md_way_s (best := best') (next := next') (fu := fu) hM hw0 bsp (img_lt (by omega)) (by omega) (hf2 _ m1)
              rw [m2] at eY2
              refine ⟨(nI (nsL f (2 * M))), cf', ex', p', gp', TB', g1', rp', TA', g2', (nI (nsL f (2 * M))), (nI (nsN f (2 * M))), re', sl', best2', next2', ?_, ?_, hI0⟩
              · unfold m_Tn_nearest
                rw [hxp, bd1_s, if_neg n10, hxq, bd1_s, if_neg n10, two2, if_pos c3, sxp, bd1_s, if_neg y1, sxq, bd1_s, if_neg y2, bd1_s, bd1_s, eX, bd13_s, if_neg c4]
              · unfold m_Md_nearest m_Md_areWays
                rw [hyp, bd1_s, if_neg n10, hyq, bd1_s, if_neg n10, in_s 0 1 (by decide) (by decide), bd1_s, if_pos c3, if_neg n10, kp, wyp, if_neg y1, kq, wyq, if_neg y2, bd1_s, if_neg n10, kp, kq, eY, bd3_s, lt_eq, if_neg c4, kp, kq, md_image_s hM hw0 bsq (by omega) m1, bd1_s, eY2, bd3_s]
      · refine ⟨(-1000000002), f_x_ways_cameFrom, f_x_ways_extra, f_x_ways_goalOfGoer, f_x_ways_goalPrices, f_x_ways_goalTones, f_x_ways_goals, f_x_ways_goerPrices, f_x_ways_goerTones, f_x_ways_goers, f_x_ways_nearestLength, f_x_ways_nearestNumber, f_x_ways_reached, f_x_ways_slack, f_y_best, f_y_next, ?_, ?_, hI0⟩
        · unfold m_Tn_nearest
          rw [hxp, bd1_s, if_neg n10, hxq, bd1_s, if_neg n10, two2, if_neg c3]
        · unfold m_Md_nearest
          rw [hyp, bd1_s, if_neg n10, hyq, bd1_s, if_neg n10, in_s 0 1 (by decide) (by decide), bd1_s, if_neg c3, if_pos rfl]
    · refine ⟨(-1000000001), f_x_ways_cameFrom, f_x_ways_extra, f_x_ways_goalOfGoer, f_x_ways_goalPrices, f_x_ways_goalTones, f_x_ways_goals, f_x_ways_goerPrices, f_x_ways_goerTones, f_x_ways_goers, f_x_ways_nearestLength, f_x_ways_nearestNumber, f_x_ways_reached, f_x_ways_slack, f_y_best, f_y_next, ?_, ?_, hI0⟩
      · unfold m_Tn_nearest
        rw [hxp, bd1_s, if_neg n10, hasP hn, if_neg c2, bd1_s, if_pos rfl]
      · unfold m_Md_nearest
        rw [hyp, bd1_s, if_neg n10, isPlace_s hn hw1, if_neg c2, bd1_s, if_pos rfl]
  · refine ⟨(-1000000001), f_x_ways_cameFrom, f_x_ways_extra, f_x_ways_goalOfGoer, f_x_ways_goalPrices, f_x_ways_goalTones, f_x_ways_goals, f_x_ways_goerPrices, f_x_ways_goerTones, f_x_ways_goers, f_x_ways_nearestLength, f_x_ways_nearestNumber, f_x_ways_reached, f_x_ways_slack, f_y_best, f_y_next, ?_, ?_, hI0⟩
    · unfold m_Tn_nearest
      rw [hasP hn, if_neg c1, bd1_s, if_pos rfl]
    · unfold m_Md_nearest
      rw [isPlace_s hn hw1, if_neg c1, bd1_s, if_pos rfl]
theorem s_easy {fu : Nat} (hfu : 5000000000 < fu) : St_easy fu Inv := by
  unfold St_easy
  intro f_x_book_entries f_x_formList_builtSize f_x_formList_all f_x_images_count f_x_past_deeds f_x_past_nextRow f_x_past_rows_count f_x_shelf_size f_x_shelf_places f_x_shelf_drawn f_x_smooth_cost f_x_smooth_next f_x_smooth_met f_y_known f_y_kept f_y_seed f_y_written f_y_formRing f_y_formMany f_x_book_goals f_x_book_lengths f_x_formList_rising f_x_formList_rows f_x_formList_sorted f_x_formList_starts f_x_images_cells f_x_past_rows_cells f_x_shelf_sets f_x_smooth_heads f_x_smooth_links f_x_smooth_seen_bits f_x_smooth_sets f_y_best f_y_bookIs f_y_bookOf f_y_forms f_y_imageSeed f_y_roughs f_y_w hI a1 a2 a3
  have hI0 := hI
  obtain ⟨⟨M, n, s, hS, rfl, rfl, hsets, hW⟩, ⟨sd, hsd, rfl, rfl⟩, ⟨k, r, hk, hr, rfl, rfl, rfl, rfl, hP⟩, ⟨rfl, hImg⟩, ⟨e, he, rfl, rfl, hB⟩, hFx, hFm⟩ := hI
  have ⟨i1, i2, i3, i4, i5, i6, i7⟩ := hI0
  have hM := hS.1
  have hn := hS.2.1
  have hs := hS.2.2
  have hp2 := p2_le hM.2
  have hM5 := hM.1
  have hM12 := hM.2
  have hw0 : f_y_w 0 = nI M := hW.1
  have hw1 : f_y_w 1 = nI n := hW.2.1
  have n10 : ¬ (1 : Int32) = 0 := by decide
  by_cases c1 : pl n a1
  · obtain ⟨p, hp, rfl⟩ := pl_ex (by omega) c1
    have hxp := has_t hn hp
    have hyp : m_Md_isPlace f_y_w (nI p) = some 1 := by rw [isPlace_s hn hw1, if_pos c1]
    have sxp : m_Shelf_setAt (nI n) f_x_shelf_sets (nI p) = some (nI (s p)) := by rw [setAt_s hn hp, hsets p hp]
    have kp : ∀ (β : Type) (z : Option β), ck (2 + nI p) 190 z = z := fun β z => ck2 (by omega) z
    have wyp : f_y_w (2 + nI p).toNatClampNeg = nI (s p) := by rw [cl2 (by omega)]; exact w2s hW hp
    have bsp := hs p hp
    by_cases c2 : pl n a2
    · obtain ⟨q, hq, rfl⟩ := pl_ex (by omega) c2
      have hxq := has_t hn hq
      have hyq : m_Md_isPlace f_y_w (nI q) = some 1 := by rw [isPlace_s hn hw1, if_pos c2]
      have sxq : m_Shelf_setAt (nI n) f_x_shelf_sets (nI q) = some (nI (s q)) := by rw [setAt_s hn hq, hsets q hq]
      have kq : ∀ (β : Type) (z : Option β), ck (2 + nI q) 190 z = z := fun β z => ck2 (by omega) z
      have wyq : f_y_w (2 + nI q).toNatClampNeg = nI (s q) := by rw [cl2 (by omega)]; exact w2s hW hq
      have bsq := hs q hq
      by_cases c3 : rg 0 1 a3
      · by_cases z : pop M (s p) = pop M (s q)
        · obtain ⟨d, hd⟩ := dist_ex hM bsq
          obtain ⟨he', li', me', nx', se', ss', eX, g1, g2⟩ := smooth_s (fu := fu) (cost := f_x_smooth_cost) (me := f_x_smooth_met) (nx := f_x_smooth_next) (he := f_x_smooth_heads) (li := f_x_smooth_links) (se := f_x_smooth_seen_bits) (ss := f_x_smooth_sets) hM hd bsq bsp z (by omega)
          obtain ⟨best', ro', eY, b1, b2⟩ := md_layEasy_s (fu := fu) (best := f_y_best) (ro := f_y_roughs) hM hw0 bsq hd hfu
          have cs : ∀ (β : Type) (z : Option β), ck (nI (s p)) 4096 z = z := fun β z => ck_s (by omega) (by omega)
          by_cases c4 : a3 = 0
          · refine ⟨(nI (d (s p))), (nI (d (s p))), he', li', me', nx', se', ss', best', ro', ?_, ?_, hI0⟩
            · unfold m_Tn_easy
              rw [hxp, bd1_s, if_neg n10, hxq, bd1_s, if_neg n10, two2, if_pos c3, sxp, bd1_s, bc_s hM12 bsp, bd1_s, sxq, bd1_s, bc_s hM12 bsq, bd1_s, ieq (by have := pop_le M (s p); omega) (by have := pop_le M (s q); omega), if_pos z, bd1_s, bd1_s, eX, bd7_s, if_pos c4]
            · unfold m_Md_easy
              rw [hyp, bd1_s, if_neg n10, hyq, bd1_s, if_neg n10, in_s 0 1 (by decide) (by decide), bd1_s, if_pos c3, if_neg n10, kp, wyp, md_ones_s hM12 bsp (by omega), bd1_s, kq, wyq, md_ones_s hM12 bsq (by omega), bd1_s, ieq (by have := pop_le M (s p); omega) (by have := pop_le M (s q); omega), if_pos z, kq, eY, bd2_s, if_pos c4, kp, cs, cl_s (by omega), b1 _ bsp z]
          · by_cases z5 : s p = s q
            · rw [g1 z5] at eX
              refine ⟨(-1), (nI (d (s p))), he', li', me', (-1), se', ss', best', ro', ?_, ?_, hI0⟩
              · unfold m_Tn_easy
                rw [hxp, bd1_s, if_neg n10, hxq, bd1_s, if_neg n10, two2, if_pos c3, sxp, bd1_s, bc_s hM12 bsp, bd1_s, sxq, bd1_s, bc_s hM12 bsq, bd1_s, ieq (by have := pop_le M (s p); omega) (by have := pop_le M (s q); omega), if_pos z, bd1_s, bd1_s, eX, bd7_s, if_neg c4]
              · unfold m_Md_easy m_Md_easyNext
                rw [hyp, bd1_s, if_neg n10, hyq, bd1_s, if_neg n10, in_s 0 1 (by decide) (by decide), bd1_s, if_pos c3, if_neg n10, kp, wyp, md_ones_s hM12 bsp (by omega), bd1_s, kq, wyq, md_ones_s hM12 bsq (by omega), bd1_s, ieq (by have := pop_le M (s p); omega) (by have := pop_le M (s q); omega), if_pos z, kq, eY, bd2_s, if_neg c4, kp, kq, if_pos (by rw [z5]), bd1_s]
            · obtain ⟨v, rfl, hv⟩ := g2 z5
              obtain ⟨v2, eN, hv2⟩ := md_easyNext_s (fu := fu) hM hw0 bsp bsq z z5 hd b1 b2 (by omega)
              rw [isNx_one hv2 hv] at eN
              refine ⟨(nI v), (nI (d (s p))), he', li', me', (nI v), se', ss', best', ro', ?_, ?_, hI0⟩
              · unfold m_Tn_easy
                rw [hxp, bd1_s, if_neg n10, hxq, bd1_s, if_neg n10, two2, if_pos c3, sxp, bd1_s, bc_s hM12 bsp, bd1_s, sxq, bd1_s, bc_s hM12 bsq, bd1_s, ieq (by have := pop_le M (s p); omega) (by have := pop_le M (s q); omega), if_pos z, bd1_s, bd1_s, eX, bd7_s, if_neg c4]
              · unfold m_Md_easy
                rw [hyp, bd1_s, if_neg n10, hyq, bd1_s, if_neg n10, in_s 0 1 (by decide) (by decide), bd1_s, if_pos c3, if_neg n10, kp, wyp, md_ones_s hM12 bsp (by omega), bd1_s, kq, wyq, md_ones_s hM12 bsq (by omega), bd1_s, ieq (by have := pop_le M (s p); omega) (by have := pop_le M (s q); omega), if_pos z, kq, eY, bd2_s, if_neg c4, kp, kq, eN, bd1_s]
        · refine ⟨(-1000000003), f_x_smooth_cost, f_x_smooth_heads, f_x_smooth_links, f_x_smooth_met, f_x_smooth_next, f_x_smooth_seen_bits, f_x_smooth_sets, f_y_best, f_y_roughs, ?_, ?_, hI0⟩
          · unfold m_Tn_easy
            rw [hxp, bd1_s, if_neg n10, hxq, bd1_s, if_neg n10, two2, if_pos c3, sxp, bd1_s, bc_s hM12 bsp, bd1_s, sxq, bd1_s, bc_s hM12 bsq, bd1_s, ieq (by have := pop_le M (s p); omega) (by have := pop_le M (s q); omega), if_neg z]
          · unfold m_Md_easy
            rw [hyp, bd1_s, if_neg n10, hyq, bd1_s, if_neg n10, in_s 0 1 (by decide) (by decide), bd1_s, if_pos c3, if_neg n10, kp, wyp, md_ones_s hM12 bsp (by omega), bd1_s, kq, wyq, md_ones_s hM12 bsq (by omega), bd1_s, ieq (by have := pop_le M (s p); omega) (by have := pop_le M (s q); omega), if_neg z]
      · refine ⟨(-1000000002), f_x_smooth_cost, f_x_smooth_heads, f_x_smooth_links, f_x_smooth_met, f_x_smooth_next, f_x_smooth_seen_bits, f_x_smooth_sets, f_y_best, f_y_roughs, ?_, ?_, hI0⟩
        · unfold m_Tn_easy
          rw [hxp, bd1_s, if_neg n10, hxq, bd1_s, if_neg n10, two2, if_neg c3]
        · unfold m_Md_easy
          rw [hyp, bd1_s, if_neg n10, hyq, bd1_s, if_neg n10, in_s 0 1 (by decide) (by decide), bd1_s, if_neg c3, if_pos rfl]
    · refine ⟨(-1000000001), f_x_smooth_cost, f_x_smooth_heads, f_x_smooth_links, f_x_smooth_met, f_x_smooth_next, f_x_smooth_seen_bits, f_x_smooth_sets, f_y_best, f_y_roughs, ?_, ?_, hI0⟩
      · unfold m_Tn_easy
        rw [hxp, bd1_s, if_neg n10, hasP hn, if_neg c2, bd1_s, if_pos rfl]
      · unfold m_Md_easy
        rw [hyp, bd1_s, if_neg n10, isPlace_s hn hw1, if_neg c2, bd1_s, if_pos rfl]
  · refine ⟨(-1000000001), f_x_smooth_cost, f_x_smooth_heads, f_x_smooth_links, f_x_smooth_met, f_x_smooth_next, f_x_smooth_seen_bits, f_x_smooth_sets, f_y_best, f_y_roughs, ?_, ?_, hI0⟩
    · unfold m_Tn_easy
      rw [hasP hn, if_neg c1, bd1_s, if_pos rfl]
    · unfold m_Md_easy
      rw [isPlace_s hn hw1, if_neg c1, bd1_s, if_pos rfl]
