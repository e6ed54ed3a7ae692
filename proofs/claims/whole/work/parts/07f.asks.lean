/-! the calls that ask -/
theorem s_told {fu : Nat} (hfu : 5000000000 < fu) : St_told fu Inv := by
  unfold St_told
  intro f_x_book_entries f_x_formList_builtSize f_x_formList_all f_x_images_count f_x_past_deeds f_x_past_nextRow f_x_past_rows_count f_x_round_stops f_x_shelf_size f_x_shelf_places f_x_shelf_drawn f_x_ways_goals f_x_ways_goers f_x_ways_reached f_y_known f_y_kept f_y_seed f_y_written f_y_formRing f_y_formMany f_x_book_goals f_x_book_lengths f_x_formList_rising f_x_formList_rows f_x_formList_seen_bits f_x_formList_sorted f_x_formList_starts f_x_images_cells f_x_past_rows_cells f_x_round_best f_x_round_lengths f_x_round_stopSets f_x_shelf_sets f_x_ways_cameFrom f_x_ways_extra f_x_ways_goalOfGoer f_x_ways_goalPrices f_x_ways_goalTones f_x_ways_goerPrices f_x_ways_goerTones f_x_ways_slack f_y_best f_y_bookIs f_y_bookOf f_y_forms f_y_imageSeed f_y_next f_y_round f_y_w f_y_ways hI a1
  have hI0 := hI
  obtain ⟨⟨M, n, s, hS, rfl, rfl, hsets, hW⟩, ⟨sd, hsd, rfl, rfl⟩, ⟨k, r, hk, hr, rfl, rfl, rfl, rfl, hP⟩, ⟨rfl, hImg⟩, ⟨e, he, rfl, rfl, hB⟩, hFx, hFm⟩ := hI
  have ⟨i1, i2, i3, i4, i5, i6, i7⟩ := hI0
  have hM := hS.1
  have hn := hS.2.1
  have hs := hS.2.2
  have hp2 := p2_le hM.2
  have hM5 := hM.1
  have hM12 := hM.2
  have hw0 : f_y_w 0 = nI M := hW.1
  have hw1 : f_y_w 1 = nI n := hW.2.1
  have n10 : ¬ (1 : Int32) = 0 := by decide
  have W1 : f_y_w (1 : Int32).toNatClampNeg = nI n := hw1
  by_cases c_0 : a1 = 0
  · refine ⟨(nI M), f_x_formList_all, f_x_formList_builtSize, f_x_formList_rising, f_x_formList_rows, f_x_formList_seen_bits, f_x_formList_sorted, f_x_formList_starts, f_x_round_best, f_x_round_lengths, f_x_round_stopSets, f_x_round_stops, f_x_ways_cameFrom, f_x_ways_extra, f_x_ways_goalOfGoer, f_x_ways_goalPrices, f_x_ways_goalTones, f_x_ways_goals, f_x_ways_goerPrices, f_x_ways_goerTones, f_x_ways_goers, f_x_ways_reached, f_x_ways_slack, f_y_best, f_y_formMany, f_y_formRing, f_y_forms, f_y_next, f_y_round, f_y_ways, ?_, ?_, hI0⟩
    · unfold m_Tn_told
      rw [if_pos c_0]
    · unfold m_Md_told
      rw [if_pos c_0, md_m hw0, bd1_s]
  · by_cases c_1 : a1 = 1
    · refine ⟨(nI n), f_x_formList_all, f_x_formList_builtSize, f_x_formList_rising, f_x_formList_rows, f_x_formList_seen_bits, f_x_formList_sorted, f_x_formList_starts, f_x_round_best, f_x_round_lengths, f_x_round_stopSets, f_x_round_stops, f_x_ways_cameFrom, f_x_ways_extra, f_x_ways_goalOfGoer, f_x_ways_goalPrices, f_x_ways_goalTones, f_x_ways_goals, f_x_ways_goerPrices, f_x_ways_goerTones, f_x_ways_goers, f_x_ways_reached, f_x_ways_slack, f_y_best, f_y_formMany, f_y_formRing, f_y_forms, f_y_next, f_y_round, f_y_ways, ?_, ?_, hI0⟩
      · unfold m_Tn_told
        rw [if_neg c_0, if_pos c_1]
      · unfold m_Md_told
        rw [if_neg c_0, if_pos c_1, C1, W1]
    · by_cases c_2 : a1 = 2
      · obtain ⟨ri', ro', bi', so', st', eX, hSA⟩ := call_s (ri := f_x_formList_rising) (bi := f_x_formList_seen_bits) (fu := fu) hM (by omega) hFx
        obtain ⟨fo', eY, hFA⟩ := md_lay_s (fu := fu) hM hw0 (by omega) hFm
        refine ⟨(nI (nfT M)), (nI (nfT M)), (nI M), ri', ro', bi', so', st', f_x_round_best, f_x_round_lengths, f_x_round_stopSets, f_x_round_stops, f_x_ways_cameFrom, f_x_ways_extra, f_x_ways_goalOfGoer, f_x_ways_goalPrices, f_x_ways_goalTones, f_x_ways_goals, f_x_ways_goerPrices, f_x_ways_goerTones, f_x_ways_goers, f_x_ways_reached, f_x_ways_slack, f_y_best, (nI (nfT M)), (nI M), fo', f_y_next, f_y_round, f_y_ways, ?_, ?_, ⟨i1, i2, i3, i4, i5, Or.inr ⟨M, hM, rfl, rfl, hSA⟩, Or.inr ⟨M, hM, rfl, rfl, hFA⟩⟩⟩
        · unfold m_Tn_told
          rw [if_neg c_0, if_neg c_1, if_pos c_2, eX, bd8_s]
        · unfold m_Md_told
          rw [if_neg c_0, if_neg c_1, if_pos c_2, eY, bd3_s]
      · by_cases c_3 : a1 = 3
        · obtain ⟨ri', ro', bi', so', st', eX, hSA⟩ := ctp_s (ri := f_x_formList_rising) (bi := f_x_formList_seen_bits) (fu := fu) hM (by omega) hFx
          obtain ⟨fo', eY, hFA⟩ := md_twinPairs_s (fu := fu) hM hw0 (by omega) hFm
          refine ⟨(nI (twP M / 2)), (nI (nfT M)), (nI M), ri', ro', bi', so', st', f_x_round_best, f_x_round_lengths, f_x_round_stopSets, f_x_round_stops, f_x_ways_cameFrom, f_x_ways_extra, f_x_ways_goalOfGoer, f_x_ways_goalPrices, f_x_ways_goalTones, f_x_ways_goals, f_x_ways_goerPrices, f_x_ways_goerTones, f_x_ways_goers, f_x_ways_reached, f_x_ways_slack, f_y_best, (nI (nfT M)), (nI M), fo', f_y_next, f_y_round, f_y_ways, ?_, ?_, ⟨i1, i2, i3, i4, i5, Or.inr ⟨M, hM, rfl, rfl, hSA⟩, Or.inr ⟨M, hM, rfl, rfl, hFA⟩⟩⟩
          · unfold m_Tn_told
            rw [if_neg c_0, if_neg c_1, if_neg c_2, if_pos c_3, eX, bd8_s]
          · unfold m_Md_told
            rw [if_neg c_0, if_neg c_1, if_neg c_2, if_pos c_3, eY, bd4_s]
        · by_cases c_4 : a1 = 4
          · obtain ⟨v, ⟨cf', ex', p', gp', TB', g1', rp', TA', g2', re', sl', be', le', st', t', eX⟩, best', next', round', ways', eY⟩ := round_eq (fu := fu) hM hn hs hw0 hw1 hsets (fun p hp => w2s hW hp) (by omega) f_x_ways_cameFrom f_x_ways_extra f_x_ways_goalOfGoer f_x_ways_goalPrices f_x_ways_goalTones f_x_ways_goals f_x_ways_goerPrices f_x_ways_goerTones f_x_ways_goers f_x_ways_reached f_x_ways_slack f_x_round_best f_x_round_lengths f_x_round_stopSets f_x_round_stops f_y_best f_y_next f_y_round f_y_ways
            refine ⟨v, f_x_formList_all, f_x_formList_builtSize, f_x_formList_rising, f_x_formList_rows, f_x_formList_seen_bits, f_x_formList_sorted, f_x_formList_starts, be', le', st', t', cf', ex', p', gp', TB', g1', rp', TA', g2', re', sl', best', f_y_formMany, f_y_formRing, f_y_forms, next', round', ways', ?_, ?_, hI0⟩
            · unfold m_Tn_told
              rw [if_neg c_0, if_neg c_1, if_neg c_2, if_neg c_3, if_pos c_4, eX, bd16_s]
            · unfold m_Md_told
              rw [if_neg c_0, if_neg c_1, if_neg c_2, if_neg c_3, if_pos c_4, eY, bd5_s]
          · by_cases c_5 : a1 = 5
            · refine ⟨(nI (fb_ct (newF M s) n)), f_x_formList_all, f_x_formList_builtSize, f_x_formList_rising, f_x_formList_rows, f_x_formList_seen_bits, f_x_formList_sorted, f_x_formList_starts, f_x_round_best, f_x_round_lengths, f_x_round_stopSets, f_x_round_stops, f_x_ways_cameFrom, f_x_ways_extra, f_x_ways_goalOfGoer, f_x_ways_goalPrices, f_x_ways_goalTones, f_x_ways_goals, f_x_ways_goerPrices, f_x_ways_goerTones, f_x_ways_goers, f_x_ways_reached, f_x_ways_slack, f_y_best, f_y_formMany, f_y_formRing, f_y_forms, f_y_next, f_y_round, f_y_ways, ?_, ?_, hI0⟩
              · unfold m_Tn_told
                rw [if_neg c_0, if_neg c_1, if_neg c_2, if_neg c_3, if_neg c_4, if_pos c_5, unlike_s hM hn hs hsets (by omega), bd1_s]
              · unfold m_Md_told
                rw [if_neg c_0, if_neg c_1, if_neg c_2, if_neg c_3, if_neg c_4, if_pos c_5, md_unlike_s hM hn hw0 hw1 hs (fun p hp => w2s hW hp) (by omega), bd1_s]
            · by_cases c_6 : a1 = 6
              · refine ⟨(nI e), f_x_formList_all, f_x_formList_builtSize, f_x_formList_rising, f_x_formList_rows, f_x_formList_seen_bits, f_x_formList_sorted, f_x_formList_starts, f_x_round_best, f_x_round_lengths, f_x_round_stopSets, f_x_round_stops, f_x_ways_cameFrom, f_x_ways_extra, f_x_ways_goalOfGoer, f_x_ways_goalPrices, f_x_ways_goalTones, f_x_ways_goals, f_x_ways_goerPrices, f_x_ways_goerTones, f_x_ways_goers, f_x_ways_reached, f_x_ways_slack, f_y_best, f_y_formMany, f_y_formRing, f_y_forms, f_y_next, f_y_round, f_y_ways, ?_, ?_, hI0⟩
                · unfold m_Tn_told
                  rw [if_neg c_0, if_neg c_1, if_neg c_2, if_neg c_3, if_neg c_4, if_neg c_5, if_pos c_6]
                · unfold m_Md_told
                  rw [if_neg c_0, if_neg c_1, if_neg c_2, if_neg c_3, if_neg c_4, if_neg c_5, if_pos c_6]
              · by_cases c_7 : a1 = 7
                · obtain ⟨v, cf', ex', p', gp', TB', g1', rp', TA', g2', re', sl', best', next', eX, eY⟩ := wrong_both (fu := fu) (goals := f_x_book_goals) (lengths := f_x_book_lengths) hS hsets hW he hB (by omega) e 0 fu fu f_x_ways_cameFrom f_x_ways_extra f_x_ways_goalOfGoer f_x_ways_goalPrices f_x_ways_goalTones f_x_ways_goals f_x_ways_goerPrices f_x_ways_goerTones f_x_ways_goers f_x_ways_reached f_x_ways_slack f_y_best f_y_next (by omega) (by omega) (by omega)
                  have eX : m_Book_firstWrong fu (nI n) f_x_shelf_sets (nI M) f_x_ways_cameFrom f_x_ways_extra f_x_ways_goalOfGoer f_x_ways_goalPrices f_x_ways_goalTones f_x_ways_goals f_x_ways_goerPrices f_x_ways_goerTones f_x_ways_goers f_x_ways_reached f_x_ways_slack (nI e) f_x_book_goals f_x_book_lengths = some (v, cf', ex', p', gp', TB', g1', rp', TA', g2', re', sl') := eX
                  have eY : m_Md_wrong fu f_y_best f_y_bookIs f_y_bookOf f_y_next f_y_w (nI e) = some (v, best', next') := eY
                  refine ⟨v, f_x_formList_all, f_x_formList_builtSize, f_x_formList_rising, f_x_formList_rows, f_x_formList_seen_bits, f_x_formList_sorted, f_x_formList_starts, f_x_round_best, f_x_round_lengths, f_x_round_stopSets, f_x_round_stops, cf', ex', p', gp', TB', g1', rp', TA', g2', re', sl', best', f_y_formMany, f_y_formRing, f_y_forms, next', f_y_round, f_y_ways, ?_, ?_, hI0⟩
                  · unfold m_Tn_told
                    rw [if_neg c_0, if_neg c_1, if_neg c_2, if_neg c_3, if_neg c_4, if_neg c_5, if_neg c_6, if_pos c_7, eX, bd12_s]
                  · unfold m_Md_told
                    rw [if_neg c_0, if_neg c_1, if_neg c_2, if_neg c_3, if_neg c_4, if_neg c_5, if_neg c_6, if_pos c_7, eY, bd3_s]
                · by_cases c_8 : a1 = 8
                  · refine ⟨(nI k), f_x_formList_all, f_x_formList_builtSize, f_x_formList_rising, f_x_formList_rows, f_x_formList_seen_bits, f_x_formList_sorted, f_x_formList_starts, f_x_round_best, f_x_round_lengths, f_x_round_stopSets, f_x_round_stops, f_x_ways_cameFrom, f_x_ways_extra, f_x_ways_goalOfGoer, f_x_ways_goalPrices, f_x_ways_goalTones, f_x_ways_goals, f_x_ways_goerPrices, f_x_ways_goerTones, f_x_ways_goers, f_x_ways_reached, f_x_ways_slack, f_y_best, f_y_formMany, f_y_formRing, f_y_forms, f_y_next, f_y_round, f_y_ways, ?_, ?_, hI0⟩
                    · unfold m_Tn_told
                      rw [if_neg c_0, if_neg c_1, if_neg c_2, if_neg c_3, if_neg c_4, if_neg c_5, if_neg c_6, if_neg c_7, if_pos c_8]
                    · unfold m_Md_told
                      rw [if_neg c_0, if_neg c_1, if_neg c_2, if_neg c_3, if_neg c_4, if_neg c_5, if_neg c_6, if_neg c_7, if_pos c_8]
                  · by_cases c_9 : a1 = 9
                    · refine ⟨(nI sd), f_x_formList_all, f_x_formList_builtSize, f_x_formList_rising, f_x_formList_rows, f_x_formList_seen_bits, f_x_formList_sorted, f_x_formList_starts, f_x_round_best, f_x_round_lengths, f_x_round_stopSets, f_x_round_stops, f_x_ways_cameFrom, f_x_ways_extra, f_x_ways_goalOfGoer, f_x_ways_goalPrices, f_x_ways_goalTones, f_x_ways_goals, f_x_ways_goerPrices, f_x_ways_goerTones, f_x_ways_goers, f_x_ways_reached, f_x_ways_slack, f_y_best, f_y_formMany, f_y_formRing, f_y_forms, f_y_next, f_y_round, f_y_ways, ?_, ?_, hI0⟩
                      · unfold m_Tn_told
                        rw [if_neg c_0, if_neg c_1, if_neg c_2, if_neg c_3, if_neg c_4, if_neg c_5, if_neg c_6, if_neg c_7, if_neg c_8, if_pos c_9]
                      · unfold m_Md_told
                        rw [if_neg c_0, if_neg c_1, if_neg c_2, if_neg c_3, if_neg c_4, if_neg c_5, if_neg c_6, if_neg c_7, if_neg c_8, if_pos c_9]
                    · refine ⟨(-1000000002), f_x_formList_all, f_x_formList_builtSize, f_x_formList_rising, f_x_formList_rows, f_x_formList_seen_bits, f_x_formList_sorted, f_x_formList_starts, f_x_round_best, f_x_round_lengths, f_x_round_stopSets, f_x_round_stops, f_x_ways_cameFrom, f_x_ways_extra, f_x_ways_goalOfGoer, f_x_ways_goalPrices, f_x_ways_goalTones, f_x_ways_goals, f_x_ways_goerPrices, f_x_ways_goerTones, f_x_ways_goers, f_x_ways_reached, f_x_ways_slack, f_y_best, f_y_formMany, f_y_formRing, f_y_forms, f_y_next, f_y_round, f_y_ways, ?_, ?_, hI0⟩
                      · unfold m_Tn_told
                        rw [if_neg c_0, if_neg c_1, if_neg c_2, if_neg c_3, if_neg c_4, if_neg c_5, if_neg c_6, if_neg c_7, if_neg c_8, if_neg c_9]
                      · unfold m_Md_told
                        rw [if_neg c_0, if_neg c_1, if_neg c_2, if_neg c_3, if_neg c_4, if_neg c_5, if_neg c_6, if_neg c_7, if_neg c_8, if_neg c_9]
theorem s_at {fu : Nat} (hfu : 5000000000 < fu) : St_at fu Inv := by
  unfold St_at
  intro f_x_book_entries f_x_formList_builtSize f_x_formList_all f_x_images_count f_x_past_deeds f_x_past_nextRow f_x_past_rows_count f_x_shelf_size f_x_shelf_places f_x_shelf_drawn f_y_known f_y_kept f_y_seed f_y_written f_y_formRing f_y_formMany f_x_book_goals f_x_book_lengths f_x_formList_rising f_x_formList_rows f_x_formList_seen_bits f_x_formList_sorted f_x_formList_starts f_x_images_cells f_x_past_rows_cells f_x_shelf_sets f_y_bookIs f_y_bookOf f_y_forms f_y_imageSeed f_y_w hI a1 a2
  have hI0 := hI
  obtain ⟨⟨M, n, s, hS, rfl, rfl, hsets, hW⟩, ⟨sd, hsd, rfl, rfl⟩, ⟨k, r, hk, hr, rfl, rfl, rfl, rfl, hP⟩, ⟨rfl, hImg⟩, ⟨e, he, rfl, rfl, hB⟩, hFx, hFm⟩ := hI
  have ⟨i1, i2, i3, i4, i5, i6, i7⟩ := hI0
  have hM := hS.1
  have hn := hS.2.1
  have hs := hS.2.2
  have hp2 := p2_le hM.2
  have hM5 := hM.1
  have hM12 := hM.2
  have hw0 : f_y_w 0 = nI M := hW.1
  have hw1 : f_y_w 1 = nI n := hW.2.1
  have n10 : ¬ (1 : Int32) = 0 := by decide
  by_cases c1 : pl n a1
  · obtain ⟨p, hp, rfl⟩ := pl_ex (by omega) c1
    have hxp := has_t hn hp
    have hyp : m_Md_isPlace f_y_w (nI p) = some 1 := by rw [isPlace_s hn hw1, if_pos c1]
    have sxp : m_Shelf_setAt (nI n) f_x_shelf_sets (nI p) = some (nI (s p)) := by rw [setAt_s hn hp, hsets p hp]
    have kp : ∀ (β : Type) (z : Option β), ck (2 + nI p) 190 z = z := fun β z => ck2 (by omega) z
    have wyp : f_y_w (2 + nI p).toNatClampNeg = nI (s p) := by rw [cl2 (by omega)]; exact w2s hW hp
    have bsp := hs p hp
    by_cases c_0 : a2 = 0
    · refine ⟨(nI (s p)), f_x_formList_all, f_x_formList_builtSize, f_x_formList_rising, f_x_formList_rows, f_x_formList_seen_bits, f_x_formList_sorted, f_x_formList_starts, f_y_formMany, f_y_formRing, f_y_forms, ?_, ?_, hI0⟩
      · unfold m_Tn_at
        rw [hxp, bd1_s, if_neg n10, sxp, bd1_s, lt_eq, lt_eq, if_pos c_0]
      · unfold m_Md_at
        rw [hyp, bd1_s, if_neg n10, kp, wyp, lt_eq, if_pos c_0]
    · by_cases c_1 : a2 = 1
      · refine ⟨(nI (pop M (s p))), f_x_formList_all, f_x_formList_builtSize, f_x_formList_rising, f_x_formList_rows, f_x_formList_seen_bits, f_x_formList_sorted, f_x_formList_starts, f_y_formMany, f_y_formRing, f_y_forms, ?_, ?_, hI0⟩
        · unfold m_Tn_at
          rw [hxp, bd1_s, if_neg n10, sxp, bd1_s, lt_eq, lt_eq, if_neg c_0, if_pos c_1, bc_s hM12 bsp, bd1_s]
        · unfold m_Md_at
          rw [hyp, bd1_s, if_neg n10, kp, wyp, lt_eq, if_neg c_0, if_pos c_1, md_ones_s hM12 bsp (by omega), bd1_s]
      · by_cases c_2 : a2 = 2
        · refine ⟨(nI (form M (s p))), f_x_formList_all, f_x_formList_builtSize, f_x_formList_rising, f_x_formList_rows, f_x_formList_seen_bits, f_x_formList_sorted, f_x_formList_starts, f_y_formMany, f_y_formRing, f_y_forms, ?_, ?_, hI0⟩
          · unfold m_Tn_at
            rw [hxp, bd1_s, if_neg n10, sxp, bd1_s, lt_eq, lt_eq, if_neg c_0, if_neg c_1, if_pos c_2, form_s hM bsp (by omega), bd1_s]
          · unfold m_Md_at
            rw [hyp, bd1_s, if_neg n10, kp, wyp, lt_eq, if_neg c_0, if_neg c_1, if_pos c_2, md_form_s hM hw0 bsp (by omega), bd1_s]
        · by_cases c_3 : a2 = 3
          · refine ⟨(nI (kin M (s p))), f_x_formList_all, f_x_formList_builtSize, f_x_formList_rising, f_x_formList_rows, f_x_formList_seen_bits, f_x_formList_sorted, f_x_formList_starts, f_y_formMany, f_y_formRing, f_y_forms, ?_, ?_, hI0⟩
            · unfold m_Tn_at
              rw [hxp, bd1_s, if_neg n10, sxp, bd1_s, lt_eq, lt_eq, if_neg c_0, if_neg c_1, if_neg c_2, if_pos c_3, kin_s hM bsp (by omega), bd1_s]
            · unfold m_Md_at
              rw [hyp, bd1_s, if_neg n10, kp, wyp, lt_eq, if_neg c_0, if_neg c_1, if_neg c_2, if_pos c_3, md_kin_s hM hw0 bsp (by omega), bd1_s]
          · by_cases c_4 : a2 = 4
            · obtain ⟨j, j1, j2, j3⟩ := first_ex hM bsp
              refine ⟨(nI j), f_x_formList_all, f_x_formList_builtSize, f_x_formList_rising, f_x_formList_rows, f_x_formList_seen_bits, f_x_formList_sorted, f_x_formList_starts, f_y_formMany, f_y_formRing, f_y_forms, ?_, ?_, hI0⟩
              · unfold m_Tn_at
                rw [hxp, bd1_s, if_neg n10, sxp, bd1_s, lt_eq, lt_eq, if_neg c_0, if_neg c_1, if_neg c_2, if_neg c_3, if_pos c_4, first_s hM bsp (by omega) j1 j2 j3, bd1_s]
              · unfold m_Md_at
                rw [hyp, bd1_s, if_neg n10, kp, wyp, lt_eq, if_neg c_0, if_neg c_1, if_neg c_2, if_neg c_3, if_pos c_4, md_form_s hM hw0 bsp (by omega), bd1_s, md_first_s hM hw0 bsp (by omega) j1 j2 j3, bd1_s]
            · by_cases c_5 : a2 = 5
              · obtain ⟨ri', ro', bi', so', st', eX, hSA⟩ := ctwins_s (ri := f_x_formList_rising) (bi := f_x_formList_seen_bits) (fu := fu) hM (by omega) hFx (form_lt hM bsp)
                obtain ⟨fo', eY, hFA⟩ := md_twins_s (fu := fu) hM hw0 (by omega) hFm (form_lt hM bsp)
                refine ⟨(nI (twN M (form M (s p)))), (nI (nfT M)), (nI M), ri', ro', bi', so', st', (nI (nfT M)), (nI M), fo', ?_, ?_, ⟨i1, i2, i3, i4, i5, Or.inr ⟨M, hM, rfl, rfl, hSA⟩, Or.inr ⟨M, hM, rfl, rfl, hFA⟩⟩⟩
                · unfold m_Tn_at
                  rw [hxp, bd1_s, if_neg n10, sxp, bd1_s, lt_eq, lt_eq, if_neg c_0, if_neg c_1, if_neg c_2, if_neg c_3, if_neg c_4, if_pos c_5, form_s hM bsp (by omega), bd1_s, eX, bd8_s]
                · unfold m_Md_at
                  rw [hyp, bd1_s, if_neg n10, kp, wyp, lt_eq, if_neg c_0, if_neg c_1, if_neg c_2, if_neg c_3, if_neg c_4, if_pos c_5, md_form_s hM hw0 bsp (by omega), bd1_s, eY, bd4_s]
              · by_cases c_6 : a2 = 6
                · have hFs : isF M (form M (s p)) = true := decide_eq_true (isF_form hM bsp)
                  obtain ⟨ri', ro', bi', so', st', eX, hSA⟩ := cnumber_s (ri := f_x_formList_rising) (bi := f_x_formList_seen_bits) (fu := fu) hM (by omega) hFx (form_lt hM bsp) hFs
                  obtain ⟨fo', eY, hFA⟩ := md_numberOf_s (fu := fu) hM hw0 (by omega) hFm (form_lt hM bsp) hFs
                  refine ⟨(nI (nk M (pop M (form M (s p))) (form M (s p)))), (nI (nfT M)), (nI M), ri', ro', bi', so', st', (nI (nfT M)), (nI M), fo', ?_, ?_, ⟨i1, i2, i3, i4, i5, Or.inr ⟨M, hM, rfl, rfl, hSA⟩, Or.inr ⟨M, hM, rfl, rfl, hFA⟩⟩⟩
                  · unfold m_Tn_at
                    rw [hxp, bd1_s, if_neg n10, sxp, bd1_s, lt_eq, lt_eq, if_neg c_0, if_neg c_1, if_neg c_2, if_neg c_3, if_neg c_4, if_neg c_5, if_pos c_6, form_s hM bsp (by omega), bd1_s, eX, bd8_s]
                  · unfold m_Md_at
                    rw [hyp, bd1_s, if_neg n10, kp, wyp, lt_eq, if_neg c_0, if_neg c_1, if_neg c_2, if_neg c_3, if_neg c_4, if_neg c_5, if_pos c_6, md_form_s hM hw0 bsp (by omega), bd1_s, eY, bd4_s]
                · refine ⟨(-1000000002), f_x_formList_all, f_x_formList_builtSize, f_x_formList_rising, f_x_formList_rows, f_x_formList_seen_bits, f_x_formList_sorted, f_x_formList_starts, f_y_formMany, f_y_formRing, f_y_forms, ?_, ?_, hI0⟩
                  · unfold m_Tn_at
                    rw [hxp, bd1_s, if_neg n10, sxp, bd1_s, lt_eq, lt_eq, if_neg c_0, if_neg c_1, if_neg c_2, if_neg c_3, if_neg c_4, if_neg c_5, if_neg c_6]
                  · unfold m_Md_at
                    rw [hyp, bd1_s, if_neg n10, kp, wyp, lt_eq, if_neg c_0, if_neg c_1, if_neg c_2, if_neg c_3, if_neg c_4, if_neg c_5, if_neg c_6]
  · refine ⟨(-1000000001), f_x_formList_all, f_x_formList_builtSize, f_x_formList_rising, f_x_formList_rows, f_x_formList_seen_bits, f_x_formList_sorted, f_x_formList_starts, f_y_formMany, f_y_formRing, f_y_forms, ?_, ?_, hI0⟩
    · unfold m_Tn_at
      rw [hasP hn, if_neg c1, bd1_s, if_pos rfl]
    · unfold m_Md_at
      rw [isPlace_s hn hw1, if_neg c1, bd1_s, if_pos rfl]
