/-! the deeds -/
theorem s_ring {fu : Nat} (hfu : 5000000000 < fu) : St_ring fu Inv := by
  unfold St_ring
  intro f_x_book_entries f_x_formList_builtSize f_x_formList_all f_x_images_count f_x_past_deeds f_x_past_nextRow f_x_past_rows_count f_x_shelf_size f_x_shelf_places f_x_shelf_drawn f_y_known f_y_kept f_y_seed f_y_written f_y_formRing f_y_formMany f_x_book_goals f_x_book_lengths f_x_formList_rising f_x_formList_rows f_x_formList_sorted f_x_formList_starts f_x_images_cells f_x_past_rows_cells f_x_shelf_sets f_y_bookIs f_y_bookOf f_y_forms f_y_imageSeed f_y_w hI a1
  have hI0 := hI
  obtain ⟨⟨M, n, s, hS, rfl, rfl, hsets, hW⟩, ⟨sd, hsd, rfl, rfl⟩, ⟨k, r, hk, hr, rfl, rfl, rfl, rfl, hP⟩, ⟨rfl, hImg⟩, ⟨e, he, rfl, rfl, hB⟩, hFx, hFm⟩ := hI
  have ⟨i1, i2, i3, i4, i5, i6, i7⟩ := hI0
  have hM := hS.1
  have hn := hS.2.1
  have hs := hS.2.2
  have hp2 := p2_le hM.2
  have hM5 := hM.1
  have hM12 := hM.2
  have hw0 : f_y_w 0 = nI M := hW.1
  have hw1 : f_y_w 1 = nI n := hW.2.1
  have n10 : ¬ (1 : Int32) = 0 := by decide
  by_cases c1 : rg 5 12 a1
  · have h1 : (5 : Int) ≤ a1.toInt := c1.1
    have h2 : a1.toInt ≤ 12 := c1.2
    obtain ⟨q, q0, rfl, q5⟩ := rg_nat (x := a1) (by omega)
    obtain ⟨cc, w1, eX, eY, hi, q1, q2, q3⟩ := rem_both (fu := fu) (drawn := nI sd) hS hsets hW hk hr hP (by omega)
    have m1 : m_Md_m w1 = some (nI M) := md_m (by rw [q1 0 (by omega)]; exact hw0)
    have K0 : ∀ (β : Type) (z : Option β), ck (0 : Int32) 190 z = z := fun β z => ck_s (i := 0) (by decide) (by decide)
    refine ⟨(nI M), (nI (inc16 k)), (nI ((r + 1) % 16)), cc, (nI 0), (nI q), (nI (inc16 k)), (upd (upd w1 0 (nI q)) 1 (nI 0)), ?_, ?_, ⟨⟨q, 0, s, ⟨⟨by omega, by omega⟩, by omega, fun p h => absurd h (Nat.not_lt_zero p)⟩, rfl, rfl, fun p h => absurd h (Nat.not_lt_zero p), ⟨by rw [pk_un (by omega), pk_us], pk_us, fun p h => absurd h (Nat.not_lt_zero p)⟩⟩, i2, ⟨inc16 k, (r + 1) % 16, hi, by omega, rfl, rfl, rfl, rfl, IPast_w hi q3 (fun i h1 h2 => by rw [pk_un (by omega), pk_un (by omega)])⟩, ⟨rfl, IImg_w hImg (fun i h => by rw [pk_un (by omega), pk_un (by omega)]; exact q2 i h)⟩, i5, i6, i7⟩⟩
    · unfold m_Tn_ring
      rw [two2, if_pos c1, eX, bd3_s, lt_eq, lt_eq, lt_eq]
      rfl
    · unfold m_Md_ring
      rw [in_s 5 12 (by decide) (by decide), bd1_s, if_pos c1, if_neg n10, eY, bd2_s, m1, bd1_s, lt_eq, K0, lt_eq, C1, lt_eq]
      rfl
  · refine ⟨(-1000000002), (nI k), (nI r), f_x_past_rows_cells, (nI n), (nI M), (nI k), f_y_w, ?_, ?_, hI0⟩
    · unfold m_Tn_ring
      rw [two2, if_neg c1]
    · unfold m_Md_ring
      rw [in_s 5 12 (by decide) (by decide), bd1_s, if_neg c1, if_pos rfl]
theorem s_put {fu : Nat} (hfu : 5000000000 < fu) : St_put fu Inv := by
  unfold St_put
  intro f_x_book_entries f_x_formList_builtSize f_x_formList_all f_x_images_count f_x_past_deeds f_x_past_nextRow f_x_past_rows_count f_x_shelf_size f_x_shelf_places f_x_shelf_drawn f_y_known f_y_kept f_y_seed f_y_written f_y_formRing f_y_formMany f_x_book_goals f_x_book_lengths f_x_formList_rising f_x_formList_rows f_x_formList_sorted f_x_formList_starts f_x_images_cells f_x_past_rows_cells f_x_shelf_sets f_y_bookIs f_y_bookOf f_y_forms f_y_imageSeed f_y_w hI a1
  have hI0 := hI
  obtain ⟨⟨M, n, s, hS, rfl, rfl, hsets, hW⟩, ⟨sd, hsd, rfl, rfl⟩, ⟨k, r, hk, hr, rfl, rfl, rfl, rfl, hP⟩, ⟨rfl, hImg⟩, ⟨e, he, rfl, rfl, hB⟩, hFx, hFm⟩ := hI
  have ⟨i1, i2, i3, i4, i5, i6, i7⟩ := hI0
  have hM := hS.1
  have hn := hS.2.1
  have hs := hS.2.2
  have hp2 := p2_le hM.2
  have hM5 := hM.1
  have hM12 := hM.2
  have hw0 : f_y_w 0 = nI M := hW.1
  have hw1 : f_y_w 1 = nI n := hW.2.1
  have n10 : ¬ (1 : Int32) = 0 := by decide
  have hp0 : 0 < 2 ^ M := Nat.two_pow_pos M
  have hsub : nI (2 ^ M) - 1 = nI (2 ^ M - 1) := by rw [show (1 : Int32) = nI 1 from rfl, pk_sub (by omega)]
  have W1 : f_y_w (1 : Int32).toNatClampNeg = nI n := hw1
  by_cases c1 : rg 0 (nI (2 ^ M - 1)) a1
  · have h1 : (0 : Int) ≤ a1.toInt := c1.1
    have h2 : a1.toInt ≤ (nI (2 ^ M - 1)).toInt := c1.2
    rw [nI_toInt (by omega)] at h2
    obtain ⟨x, x0, rfl, x5⟩ := rg_nat (x := a1) (by omega)
    by_cases c2 : n < 8
    · obtain ⟨cc, w1, s', eX, eY, hi, g1, g2, g3, g4, g5⟩ := add_both (fu := fu) (x := x) (drawn := nI sd) hS hsets hW hk hr hP c2 (by omega) (by omega)
      refine ⟨(nI n), (nI (inc16 k)), (nI ((r + 1) % 16)), cc, (nI (n + 1)), (upd f_x_shelf_sets n (nI x)), (nI (inc16 k)), w1, ?_, ?_, ⟨⟨M, n + 1, s', g1, rfl, rfl, g2, g3⟩, i2, ⟨inc16 k, (r + 1) % 16, hi, by omega, rfl, rfl, rfl, rfl, g5⟩, ⟨rfl, IImg_w hImg g4⟩, i5, i6, i7⟩⟩
      · unfold m_Tn_put m_Shelf_hasRoom
        rw [all_s hM12, bd1_s, two2, if_pos c1, show (8 : Int32) = nI 8 from rfl, ile (by omega) (by omega), if_neg (by omega), bd1_s, if_neg n10, eX, bd3_s, append_s c2, bd2_s, show (1 : Int32) = nI 1 from rfl, pk_sub (by omega), Nat.add_sub_cancel]
      · unfold m_Md_put
        rw [md_m hw0, bd1_s, p2_s hM12, hsub, in_s 0 (nI (2 ^ M - 1)) (by decide) (by rw [Int32.toInt_toInt64]), bd1_s, if_pos c1, if_neg n10, C1, W1, show (8 : Int32) = nI 8 from rfl, ieq (by omega) (by omega), if_neg (by omega), eY, bd3_s]
    · refine ⟨(-1000000004), (nI k), (nI r), f_x_past_rows_cells, (nI n), f_x_shelf_sets, (nI k), f_y_w, ?_, ?_, hI0⟩
      · unfold m_Tn_put m_Shelf_hasRoom
        rw [all_s hM12, bd1_s, two2, if_pos c1, show (8 : Int32) = nI 8 from rfl, ile (by omega) (by omega), if_pos (by omega), bd1_s, if_pos rfl]
      · unfold m_Md_put
        rw [md_m hw0, bd1_s, p2_s hM12, hsub, in_s 0 (nI (2 ^ M - 1)) (by decide) (by rw [Int32.toInt_toInt64]), bd1_s, if_pos c1, if_neg n10, C1, W1, show (8 : Int32) = nI 8 from rfl, ieq (by omega) (by omega), if_pos (by omega)]
  · refine ⟨(-1000000002), (nI k), (nI r), f_x_past_rows_cells, (nI n), f_x_shelf_sets, (nI k), f_y_w, ?_, ?_, hI0⟩
    · unfold m_Tn_put
      rw [all_s hM12, bd1_s, two2, if_neg c1]
    · unfold m_Md_put
      rw [md_m hw0, bd1_s, p2_s hM12, hsub, in_s 0 (nI (2 ^ M - 1)) (by decide) (by rw [Int32.toInt_toInt64]), bd1_s, if_neg c1, if_pos rfl]
theorem s_change {fu : Nat} (hfu : 5000000000 < fu) : St_change fu Inv := by
  unfold St_change
  intro f_x_book_entries f_x_formList_builtSize f_x_formList_all f_x_images_count f_x_past_deeds f_x_past_nextRow f_x_past_rows_count f_x_shelf_size f_x_shelf_places f_x_shelf_drawn f_y_known f_y_kept f_y_seed f_y_written f_y_formRing f_y_formMany f_x_book_goals f_x_book_lengths f_x_formList_rising f_x_formList_rows f_x_formList_sorted f_x_formList_starts f_x_images_cells f_x_past_rows_cells f_x_shelf_sets f_y_bookIs f_y_bookOf f_y_forms f_y_imageSeed f_y_w hI a1 a2 a3
  have hI0 := hI
  obtain ⟨⟨M, n, s, hS, rfl, rfl, hsets, hW⟩, ⟨sd, hsd, rfl, rfl⟩, ⟨k, r, hk, hr, rfl, rfl, rfl, rfl, hP⟩, ⟨rfl, hImg⟩, ⟨e, he, rfl, rfl, hB⟩, hFx, hFm⟩ := hI
  have ⟨i1, i2, i3, i4, i5, i6, i7⟩ := hI0
  have hM := hS.1
  have hn := hS.2.1
  have hs := hS.2.2
  have hp2 := p2_le hM.2
  have hM5 := hM.1
  have hM12 := hM.2
  have hw0 : f_y_w 0 = nI M := hW.1
  have hw1 : f_y_w 1 = nI n := hW.2.1
  have n10 : ¬ (1 : Int32) = 0 := by decide
  by_cases c1 : pl n a1
  · obtain ⟨p, hp, rfl⟩ := pl_ex (by omega) c1
    have hxp := has_t hn hp
    have hyp : m_Md_isPlace f_y_w (nI p) = some 1 := by rw [isPlace_s hn hw1, if_pos c1]
    have sxp : m_Shelf_setAt (nI n) f_x_shelf_sets (nI p) = some (nI (s p)) := by rw [setAt_s hn hp, hsets p hp]
    have kp : ∀ (β : Type) (z : Option β), ck (2 + nI p) 190 z = z := fun β z => ck2 (by omega) z
    have wyp : f_y_w (2 + nI p).toNatClampNeg = nI (s p) := by rw [cl2 (by omega)]; exact w2s hW hp
    have bsp := hs p hp
    rcases change_s (fu := fu) hM hw0 bsp a2 a3 (by omega) with ⟨c, hc, e1, e2, e3, e4⟩ | ⟨e1, e2⟩ | ⟨rfl, e1, e2, e3⟩
    · obtain ⟨cc, w1, eX, eY, hi, q1, q2, q3⟩ := rem_both (fu := fu) (drawn := nI sd) hS hsets hW hk hr hP (by omega)
      obtain ⟨g1, g2, g3⟩ := rep_row hS hsets hW q1 hp hc
      have m0 : w1 0 = nI M := by rw [q1 0 (by omega)]; exact hw0
      have wp1 : w1 (2 + nI p).toNatClampNeg = nI (s p) := by rw [cl2 (by omega), q1 _ (by omega)]; exact w2s hW hp
      have cl := cl2 (p := p) (by omega)
      have e5 := e4 w1 m0
      refine ⟨(nI c), (nI (inc16 k)), (nI ((r + 1) % 16)), cc, (upd f_x_shelf_sets p (nI c)), (nI (inc16 k)), (upd w1 (2 + p) (nI c)), ?_, ?_, ⟨⟨M, n, sup s p c, g1, rfl, rfl, g2, g3⟩, i2, ⟨inc16 k, (r + 1) % 16, hi, by omega, rfl, rfl, rfl, rfl, IPast_w hi q3 (fun i h1 h2 => by rw [pk_un (by omega)])⟩, ⟨rfl, IImg_w hImg (fun i h => by rw [pk_un (by omega)]; exact q2 i h)⟩, i5, i6, i7⟩⟩
      · unfold m_Tn_change
        rw [hxp, bd1_s, if_neg n10, sxp, bd1_s, e1, bd1_s, lt_eq, if_pos (nI_pos' (by omega)), eX, bd3_s, replace_s hn hp, bd1_s]
      · unfold m_Md_change
        by_cases k2 : a2 = 2
        · rw [hyp, bd1_s, if_neg n10, e2, bd1_s, if_neg n10, if_pos k2, e3 k2, bd1_s, if_pos rfl, eY, bd2_s, kp, wp1, e5, bd1_s, kp, cl, lt_eq, kp, pk_us]
        · rw [hyp, bd1_s, if_neg n10, e2, bd1_s, if_neg n10, if_neg k2, eY, bd2_s, kp, wp1, e5, bd1_s, kp, cl, lt_eq, kp, pk_us]
    · refine ⟨(-1000000002), (nI k), (nI r), f_x_past_rows_cells, f_x_shelf_sets, (nI k), f_y_w, ?_, ?_, hI0⟩
      · unfold m_Tn_change
        rw [hxp, bd1_s, if_neg n10, sxp, bd1_s, e1, bd1_s, lt_eq, if_neg (by decide)]
      · unfold m_Md_change
        rw [hyp, bd1_s, if_neg n10, e2, bd1_s, if_pos rfl]
    · refine ⟨(-1000000003), (nI k), (nI r), f_x_past_rows_cells, f_x_shelf_sets, (nI k), f_y_w, ?_, ?_, hI0⟩
      · unfold m_Tn_change
        rw [hxp, bd1_s, if_neg n10, sxp, bd1_s, e1, bd1_s, lt_eq, if_neg (by decide)]
      · unfold m_Md_change
        rw [hyp, bd1_s, if_neg n10, e2, bd1_s, if_neg n10, if_pos rfl, e3, bd1_s, if_neg n10]
  · refine ⟨(-1000000001), (nI k), (nI r), f_x_past_rows_cells, f_x_shelf_sets, (nI k), f_y_w, ?_, ?_, hI0⟩
    · unfold m_Tn_change
      rw [hasP hn, if_neg c1, bd1_s, if_pos rfl]
    · unfold m_Md_change
      rw [isPlace_s hn hw1, if_neg c1, bd1_s, if_pos rfl]
theorem s_join {fu : Nat} (hfu : 5000000000 < fu) : St_join fu Inv := by
  unfold St_join
  intro f_x_book_entries f_x_formList_builtSize f_x_formList_all f_x_images_count f_x_past_deeds f_x_past_nextRow f_x_past_rows_count f_x_shelf_size f_x_shelf_places f_x_shelf_drawn f_y_known f_y_kept f_y_seed f_y_written f_y_formRing f_y_formMany f_x_book_goals f_x_book_lengths f_x_formList_rising f_x_formList_rows f_x_formList_sorted f_x_formList_starts f_x_images_cells f_x_past_rows_cells f_x_shelf_sets f_y_bookIs f_y_bookOf f_y_forms f_y_imageSeed f_y_w hI a1 a2 a3
  have hI0 := hI
  obtain ⟨⟨M, n, s, hS, rfl, rfl, hsets, hW⟩, ⟨sd, hsd, rfl, rfl⟩, ⟨k, r, hk, hr, rfl, rfl, rfl, rfl, hP⟩, ⟨rfl, hImg⟩, ⟨e, he, rfl, rfl, hB⟩, hFx, hFm⟩ := hI
  have ⟨i1, i2, i3, i4, i5, i6, i7⟩ := hI0
  have hM := hS.1
  have hn := hS.2.1
  have hs := hS.2.2
  have hp2 := p2_le hM.2
  have hM5 := hM.1
  have hM12 := hM.2
  have hw0 : f_y_w 0 = nI M := hW.1
  have hw1 : f_y_w 1 = nI n := hW.2.1
  have n10 : ¬ (1 : Int32) = 0 := by decide
  by_cases c1 : pl n a1
  · obtain ⟨p, hp, rfl⟩ := pl_ex (by omega) c1
    have hxp := has_t hn hp
    have hyp : m_Md_isPlace f_y_w (nI p) = some 1 := by rw [isPlace_s hn hw1, if_pos c1]
    have sxp : m_Shelf_setAt (nI n) f_x_shelf_sets (nI p) = some (nI (s p)) := by rw [setAt_s hn hp, hsets p hp]
    have kp : ∀ (β : Type) (z : Option β), ck (2 + nI p) 190 z = z := fun β z => ck2 (by omega) z
    have wyp : f_y_w (2 + nI p).toNatClampNeg = nI (s p) := by rw [cl2 (by omega)]; exact w2s hW hp
    have bsp := hs p hp
    by_cases c2 : pl n a2
    · obtain ⟨q, hq, rfl⟩ := pl_ex (by omega) c2
      have hxq := has_t hn hq
      have hyq : m_Md_isPlace f_y_w (nI q) = some 1 := by rw [isPlace_s hn hw1, if_pos c2]
      have sxq : m_Shelf_setAt (nI n) f_x_shelf_sets (nI q) = some (nI (s q)) := by rw [setAt_s hn hq, hsets q hq]
      have kq : ∀ (β : Type) (z : Option β), ck (2 + nI q) 190 z = z := fun β z => ck2 (by omega) z
      have wyq : f_y_w (2 + nI q).toNatClampNeg = nI (s q) := by rw [cl2 (by omega)]; exact w2s hW hq
      have bsq := hs q hq
      rcases join_s bsp bsq a3 with ⟨e0, c, hc, e1, e2⟩ | ⟨e0, e1⟩
      · obtain ⟨cc, w1, eX, eY, hi, q1, q2, q3⟩ := rem_both (fu := fu) (drawn := nI sd) hS hsets hW hk hr hP (by omega)
        obtain ⟨g1, g2, g3⟩ := rep_row hS hsets hW q1 hp hc
        have m0 : w1 0 = nI M := by rw [q1 0 (by omega)]; exact hw0
        have wp1 : w1 (2 + nI p).toNatClampNeg = nI (s p) := by rw [cl2 (by omega), q1 _ (by omega)]; exact w2s hW hp
        have cl := cl2 (p := p) (by omega)
        have wq1 : w1 (2 + nI q).toNatClampNeg = nI (s q) := by rw [cl2 (by omega), q1 _ (by omega)]; exact w2s hW hq
        refine ⟨(nI c), (nI (inc16 k)), (nI ((r + 1) % 16)), cc, (upd f_x_shelf_sets p (nI c)), (nI (inc16 k)), (upd w1 (2 + p) (nI c)), ?_, ?_, ⟨⟨M, n, sup s p c, g1, rfl, rfl, g2, g3⟩, i2, ⟨inc16 k, (r + 1) % 16, hi, by omega, rfl, rfl, rfl, rfl, IPast_w hi q3 (fun i h1 h2 => by rw [pk_un (by omega)])⟩, ⟨rfl, IImg_w hImg (fun i h => by rw [pk_un (by omega)]; exact q2 i h)⟩, i5, i6, i7⟩⟩
        · unfold m_Tn_join
          rw [hxp, bd1_s, if_neg n10, hxq, bd1_s, if_neg n10, sxp, bd1_s, sxq, bd1_s, e1, bd1_s, lt_eq, if_pos (nI_pos' (by omega)), eX, bd3_s, replace_s hn hp, bd1_s]
        · unfold m_Md_join
          rw [hyp, bd1_s, if_neg n10, hyq, bd1_s, if_neg n10, in_s 0 3 (by decide) (by decide), bd1_s, if_pos e0, if_neg n10, eY, bd2_s, kp, wp1, lt_eq, kq, wq1, lt_eq, e2, bd1_s, kp, cl, lt_eq, kp, pk_us]
      · refine ⟨(-1000000002), (nI k), (nI r), f_x_past_rows_cells, f_x_shelf_sets, (nI k), f_y_w, ?_, ?_, hI0⟩
        · unfold m_Tn_join
          rw [hxp, bd1_s, if_neg n10, hxq, bd1_s, if_neg n10, sxp, bd1_s, sxq, bd1_s, e1, bd1_s, lt_eq, if_neg (by decide)]
        · unfold m_Md_join
          rw [hyp, bd1_s, if_neg n10, hyq, bd1_s, if_neg n10, in_s 0 3 (by decide) (by decide), bd1_s, if_neg e0, if_pos rfl]
    · refine ⟨(-1000000001), (nI k), (nI r), f_x_past_rows_cells, f_x_shelf_sets, (nI k), f_y_w, ?_, ?_, hI0⟩
      · unfold m_Tn_join
        rw [hxp, bd1_s, if_neg n10, hasP hn, if_neg c2, bd1_s, if_pos rfl]
      · unfold m_Md_join
        rw [hyp, bd1_s, if_neg n10, isPlace_s hn hw1, if_neg c2, bd1_s, if_pos rfl]
  · refine ⟨(-1000000001), (nI k), (nI r), f_x_past_rows_cells, f_x_shelf_sets, (nI k), f_y_w, ?_, ?_, hI0⟩
    · unfold m_Tn_join
      rw [hasP hn, if_neg c1, bd1_s, if_pos rfl]
    · unfold m_Md_join
      rw [isPlace_s hn hw1, if_neg c1, bd1_s, if_pos rfl]
theorem s_swap {fu : Nat} (hfu : 5000000000 < fu) : St_swap fu Inv := by
  unfold St_swap
  intro f_x_book_entries f_x_formList_builtSize f_x_formList_all f_x_images_count f_x_past_deeds f_x_past_nextRow f_x_past_rows_count f_x_shelf_size f_x_shelf_places f_x_shelf_drawn f_y_known f_y_kept f_y_seed f_y_written f_y_formRing f_y_formMany f_x_book_goals f_x_book_lengths f_x_formList_rising f_x_formList_rows f_x_formList_sorted f_x_formList_starts f_x_images_cells f_x_past_rows_cells f_x_shelf_sets f_y_bookIs f_y_bookOf f_y_forms f_y_imageSeed f_y_w hI a1 a2
  have hI0 := hI
  obtain ⟨⟨M, n, s, hS, rfl, rfl, hsets, hW⟩, ⟨sd, hsd, rfl, rfl⟩, ⟨k, r, hk, hr, rfl, rfl, rfl, rfl, hP⟩, ⟨rfl, hImg⟩, ⟨e, he, rfl, rfl, hB⟩, hFx, hFm⟩ := hI
  have ⟨i1, i2, i3, i4, i5, i6, i7⟩ := hI0
  have hM := hS.1
  have hn := hS.2.1
  have hs := hS.2.2
  have hp2 := p2_le hM.2
  have hM5 := hM.1
  have hM12 := hM.2
  have hw0 : f_y_w 0 = nI M := hW.1
  have hw1 : f_y_w 1 = nI n := hW.2.1
  have n10 : ¬ (1 : Int32) = 0 := by decide
  by_cases c1 : pl n a1
  · obtain ⟨p, hp, rfl⟩ := pl_ex (by omega) c1
    have hxp := has_t hn hp
    have hyp : m_Md_isPlace f_y_w (nI p) = some 1 := by rw [isPlace_s hn hw1, if_pos c1]
    have sxp : m_Shelf_setAt (nI n) f_x_shelf_sets (nI p) = some (nI (s p)) := by rw [setAt_s hn hp, hsets p hp]
    have kp : ∀ (β : Type) (z : Option β), ck (2 + nI p) 190 z = z := fun β z => ck2 (by omega) z
    have wyp : f_y_w (2 + nI p).toNatClampNeg = nI (s p) := by rw [cl2 (by omega)]; exact w2s hW hp
    have bsp := hs p hp
    by_cases c2 : pl n a2
    · obtain ⟨q, hq, rfl⟩ := pl_ex (by omega) c2
      have hxq := has_t hn hq
      have hyq : m_Md_isPlace f_y_w (nI q) = some 1 := by rw [isPlace_s hn hw1, if_pos c2]
      have sxq : m_Shelf_setAt (nI n) f_x_shelf_sets (nI q) = some (nI (s q)) := by rw [setAt_s hn hq, hsets q hq]
      have kq : ∀ (β : Type) (z : Option β), ck (2 + nI q) 190 z = z := fun β z => ck2 (by omega) z
      have wyq : f_y_w (2 + nI q).toNatClampNeg = nI (s q) := by rw [cl2 (by omega)]; exact w2s hW hq
      have bsq := hs q hq
      obtain ⟨cc, w1, eX, eY, hi, q1, q2, q3⟩ := rem_both (fu := fu) (drawn := nI sd) hS hsets hW hk hr hP (by omega)
      obtain ⟨g1, g2, g3⟩ := rep_row hS hsets hW q1 hp bsq
      obtain ⟨j1, j2, j3⟩ := rep_row g1 g2 g3 (fun i _ => rfl) hq bsp
      have m0 : w1 0 = nI M := by rw [q1 0 (by omega)]; exact hw0
      have wp1 : w1 (2 + nI p).toNatClampNeg = nI (s p) := by rw [cl2 (by omega), q1 _ (by omega)]; exact w2s hW hp
      have cl := cl2 (p := p) (by omega)
      have wq1 : w1 (2 + nI q).toNatClampNeg = nI (s q) := by rw [cl2 (by omega), q1 _ (by omega)]; exact w2s hW hq
      have clq := cl2 (p := q) (by omega)
      have v1 : upd (upd w1 (2 + p) (nI (s q))) (2 + q) (nI (s p)) (2 + q) = nI (s p) := pk_us
      have v2 : upd (upd w1 (2 + p) (nI (s q))) (2 + q) (nI (s p)) (2 + p) = nI (s q) := by
        by_cases z : p = q
        · subst z; exact pk_us
        · rw [pk_un (by omega), pk_us]
      have m2 : upd (upd w1 (2 + p) (nI (s q))) (2 + q) (nI (s p)) 0 = nI M := j3.1
      have f1 := form_lt hM bsp
      have f2 := form_lt hM bsq
      have ec : (if form M (s p) = form M (s q) then (0 : Int32) else 1) = if form M (s q) = form M (s p) then 0 else 1 := by
        by_cases z : form M (s p) = form M (s q)
        · rw [if_pos z, if_pos z.symm]
        · rw [if_neg z, if_neg (fun y => z y.symm)]
      refine ⟨(if form M (s p) = form M (s q) then 0 else 1), (nI (inc16 k)), (nI ((r + 1) % 16)), cc, (upd (upd f_x_shelf_sets p (nI (s q))) q (nI (s p))), (nI (inc16 k)), (upd (upd w1 (2 + p) (nI (s q))) (2 + q) (nI (s p))), ?_, ?_, ⟨⟨M, n, sup (sup s p (s q)) q (s p), j1, rfl, rfl, j2, j3⟩, i2, ⟨inc16 k, (r + 1) % 16, hi, by omega, rfl, rfl, rfl, rfl, IPast_w hi q3 (fun i h1 h2 => by rw [pk_un (by omega), pk_un (by omega)])⟩, ⟨rfl, IImg_w hImg (fun i h => by rw [pk_un (by omega), pk_un (by omega)]; exact q2 i h)⟩, i5, i6, i7⟩⟩
      · unfold m_Tn_swap
        rw [hxp, bd1_s, if_neg n10, hxq, bd1_s, if_neg n10, eX, bd3_s, sxp, bd1_s, lt_eq, sxq, bd1_s, lt_eq, replace_s hn hp, bd1_s, replace_s hn hq, bd1_s, form_s hM bsp (by omega), bd1_s, form_s hM bsq (by omega), bd1_s, ieq (by omega) (by omega)]
        split <;> rfl
      · unfold m_Md_swap
        rw [hyp, bd1_s, if_neg n10, hyq, bd1_s, if_neg n10, eY, bd2_s, kp, wp1, lt_eq, kq, kp, wq1, cl, lt_eq, kq, clq, lt_eq, kp, v2, md_form_s hM m2 bsq (by omega), bd1_s, kq, v1, md_form_s hM m2 bsp (by omega), bd1_s, ieq (by omega) (by omega), ec]
        split <;> rfl
    · refine ⟨(-1000000001), (nI k), (nI r), f_x_past_rows_cells, f_x_shelf_sets, (nI k), f_y_w, ?_, ?_, hI0⟩
      · unfold m_Tn_swap
        rw [hxp, bd1_s, if_neg n10, hasP hn, if_neg c2, bd1_s, if_pos rfl]
      · unfold m_Md_swap
        rw [hyp, bd1_s, if_neg n10, isPlace_s hn hw1, if_neg c2, bd1_s, if_pos rfl]
  · refine ⟨(-1000000001), (nI k), (nI r), f_x_past_rows_cells, f_x_shelf_sets, (nI k), f_y_w, ?_, ?_, hI0⟩
    · unfold m_Tn_swap
      rw [hasP hn, if_neg c1, bd1_s, if_pos rfl]
    · unfold m_Md_swap
      rw [isPlace_s hn hw1, if_neg c1, bd1_s, if_pos rfl]
theorem s_take {fu : Nat} (hfu : 5000000000 < fu) : St_take fu Inv := by
  unfold St_take
  intro f_x_book_entries f_x_formList_builtSize f_x_formList_all f_x_images_count f_x_past_deeds f_x_past_nextRow f_x_past_rows_count f_x_shelf_size f_x_shelf_places f_x_shelf_drawn f_y_known f_y_kept f_y_seed f_y_written f_y_formRing f_y_formMany f_x_book_goals f_x_book_lengths f_x_formList_rising f_x_formList_rows f_x_formList_sorted f_x_formList_starts f_x_images_cells f_x_past_rows_cells f_x_shelf_sets f_y_bookIs f_y_bookOf f_y_forms f_y_imageSeed f_y_w hI a1
  have hI0 := hI
  obtain ⟨⟨M, n, s, hS, rfl, rfl, hsets, hW⟩, ⟨sd, hsd, rfl, rfl⟩, ⟨k, r, hk, hr, rfl, rfl, rfl, rfl, hP⟩, ⟨rfl, hImg⟩, ⟨e, he, rfl, rfl, hB⟩, hFx, hFm⟩ := hI
  have ⟨i1, i2, i3, i4, i5, i6, i7⟩ := hI0
  have hM := hS.1
  have hn := hS.2.1
  have hs := hS.2.2
  have hp2 := p2_le hM.2
  have hM5 := hM.1
  have hM12 := hM.2
  have hw0 : f_y_w 0 = nI M := hW.1
  have hw1 : f_y_w 1 = nI n := hW.2.1
  have n10 : ¬ (1 : Int32) = 0 := by decide
  by_cases c1 : pl n a1
  · obtain ⟨p, hp, rfl⟩ := pl_ex (by omega) c1
    have hxp := has_t hn hp
    have hyp : m_Md_isPlace f_y_w (nI p) = some 1 := by rw [isPlace_s hn hw1, if_pos c1]
    have sxp : m_Shelf_setAt (nI n) f_x_shelf_sets (nI p) = some (nI (s p)) := by rw [setAt_s hn hp, hsets p hp]
    have kp : ∀ (β : Type) (z : Option β), ck (2 + nI p) 190 z = z := fun β z => ck2 (by omega) z
    have wyp : f_y_w (2 + nI p).toNatClampNeg = nI (s p) := by rw [cl2 (by omega)]; exact w2s hW hp
    have bsp := hs p hp
    obtain ⟨cc, w1, eX, eY, hi, q1, q2, q3⟩ := rem_both (fu := fu) (drawn := nI sd) hS hsets hW hk hr hP (by omega)
    obtain ⟨sets', e1, s1, s2⟩ := remove_s (fu := fu) (sets := f_x_shelf_sets) hn hp (by omega)
    have hw11 : w1 1 = nI n := by rw [q1 1 (by omega)]; exact hw1
    obtain ⟨w2, e2, r1, r2⟩ := take17 (n := n) (p := p) (w := w1) hn (by omega) (n - 1 - p) p fu w1 (by omega) (by omega) (by omega) hw11 (fun q z1 z2 => absurd z2 (by omega)) (fun _ _ => rfl)
    have tk1 : ∀ q, q < n - 1 → sets' q = nI ((fun q => if q < p then s q else s (q + 1)) q) := by
      intro q hq
      dsimp only
      by_cases z : q < p
      · rw [if_pos z, s2 q z]; exact hsets q (by omega)
      · rw [if_neg z, s1 q (by omega) (by omega)]; exact hsets _ (by omega)
    have tk2 : RW (upd w2 1 (nI (n - 1))) 0 M (n - 1) (fun q => if q < p then s q else s (q + 1)) := by
      refine ⟨by rw [pk_un (by omega), r2 0 (by omega), q1 0 (by omega)]; exact hw0, pk_us, fun q hq => ?_⟩
      dsimp only
      rw [Nat.zero_add, pk_un (by omega)]
      by_cases z : q < p
      · rw [if_pos z, r2 _ (by omega), q1 _ (by omega)]; exact w2s hW (by omega)
      · rw [if_neg z, r1 q (by omega) (by omega), q1 _ (by omega)]; exact w2s hW (by omega)
    have u1 : w2 (1 : Int32).toNatClampNeg = nI n := by
      show w2 1 = nI n
      rw [r2 1 (by omega)]; exact hw11
    have T1 : (1 : Int32).toNatClampNeg = 1 := rfl
    refine ⟨(nI (n - 1)), (nI (inc16 k)), (nI ((r + 1) % 16)), cc, (nI (n - 1)), sets', (nI (inc16 k)), (upd w2 1 (nI (n - 1))), ?_, ?_, ⟨⟨M, n - 1, fun q => if q < p then s q else s (q + 1), ⟨hM, by omega, fun q hq => by dsimp only; split <;> exact hs _ (by omega)⟩, rfl, rfl, tk1, tk2⟩, i2, ⟨inc16 k, (r + 1) % 16, hi, by omega, rfl, rfl, rfl, rfl, IPast_w hi q3 (fun i h1 h2 => by rw [pk_un (by omega), r2 _ (by omega)])⟩, ⟨rfl, IImg_w hImg (fun i h => by rw [pk_un (by omega), r2 _ (by omega)]; exact q2 i h)⟩, i5, i6, i7⟩⟩
    · unfold m_Tn_take
      rw [hxp, bd1_s, if_neg n10, eX, bd3_s, e1, bd2_s]
    · unfold m_Md_take
      rw [hyp, bd1_s, if_neg n10, eY, bd2_s, lt_eq, e2, bd1_s, C1, C1, u1, T1, show (1 : Int32) = nI 1 from rfl, pk_sub (by omega), lt_eq, show nI 1 = (1 : Int32) from rfl, C1, pk_us]
  · refine ⟨(-1000000001), (nI k), (nI r), f_x_past_rows_cells, (nI n), f_x_shelf_sets, (nI k), f_y_w, ?_, ?_, hI0⟩
    · unfold m_Tn_take
      rw [hasP hn, if_neg c1, bd1_s, if_pos rfl]
    · unfold m_Md_take
      rw [isPlace_s hn hw1, if_neg c1, bd1_s, if_pos rfl]
