abbrev rmX10_write : Room := { frames := 2, cells := 0, slots := 0, locals := 42 }
theorem uX0_X10_write : ∀ w ∈ wsX00, w ∈ wsX10_write := fun _ h => List.mem_cons_of_mem _ (List.mem_append_left _ (List.mem_append_right _ (h)))
theorem uX10_X10_write : ∀ w ∈ wsX100, w ∈ wsX10_write := fun _ h => List.mem_cons_of_mem _ (List.mem_append_left _ (List.mem_append_left _ (List.mem_append_right _ (h))))
set_option maxHeartbeats 40000000 in
set_option maxRecDepth 100000 in
theorem c_Tn_write (l : Launch) (dC : Nat → ClassId) (dI : Nat → Nat → Nat) (cA : ClassId) (h_t h_t_book h_t_shelf h_t_past h_t_images h_t_formList h_t_ways h_t_round h_t_smooth h_t_book_goals h_t_book_lengths h_t_shelf_sets : Nat) (f_t_book_entries : Int32) (f_t_shelf_size : Int32) (f_t_shelf_places : Int32) (f_t_shelf_drawn : Int32) (f_t_book_goals : Nat → Int32) (f_t_book_lengths : Nat → Int32) (a1 : Int32) (a2 : Int32) (r0 : Int32) (f_t_book_entries_z : Int32) (f_t_book_goals_z : Nat → Int32) (f_t_book_lengths_z : Nat → Int32) (hm : m_Tn_write f_t_book_entries f_t_book_goals f_t_book_lengths f_t_shelf_places a1 a2 = some (r0, f_t_book_entries_z, f_t_book_goals_z, f_t_book_lengths_z)) (sz : Nat) : Met l yX10_write wsX10_write rmX10_write (mPre (dC, dI) cA [.ref h_t, .int a1, .int a2] sz [(h_t, .inr (9, [.ref h_t_shelf, .ref h_t_past, .ref h_t_images, .ref h_t_book, .ref h_t_formList, .ref h_t_ways, .ref h_t_round, .ref h_t_smooth])), (h_t_book, .inr (0, [.int f_t_book_entries, .ref h_t_book_goals, .ref h_t_book_lengths])), (h_t_shelf, .inr (6, [.int f_t_shelf_size, .int f_t_shelf_places, .int f_t_shelf_drawn, .ref h_t_shelf_sets])), (h_t_book_goals, .inl (cA, 20, .inl f_t_book_goals)), (h_t_book_lengths, .inl (cA, 20, .inl f_t_book_lengths))]) (mPosI (dC, dI) cA r0 (va_A [(h_t, .inr (9, [.ref h_t_shelf, .ref h_t_past, .ref h_t_images, .ref h_t_book, .ref h_t_formList, .ref h_t_ways, .ref h_t_round, .ref h_t_smooth])), (h_t_book, .inr (0, [.int f_t_book_entries, .ref h_t_book_goals, .ref h_t_book_lengths])), (h_t_shelf, .inr (6, [.int f_t_shelf_size, .int f_t_shelf_places, .int f_t_shelf_drawn, .ref h_t_shelf_sets])), (h_t_book_goals, .inl (cA, 20, .inl f_t_book_goals)), (h_t_book_lengths, .inl (cA, 20, .inl f_t_book_lengths))] sz) [(h_t, .inr (9, [.ref h_t_shelf, .ref h_t_past, .ref h_t_images, .ref h_t_book, .ref h_t_formList, .ref h_t_ways, .ref h_t_round, .ref h_t_smooth])), (h_t_book, .inr (0, [.int f_t_book_entries_z, .ref h_t_book_goals, .ref h_t_book_lengths])), (h_t_shelf, .inr (6, [.int f_t_shelf_size, .int f_t_shelf_places, .int f_t_shelf_drawn, .ref h_t_shelf_sets])), (h_t_book_goals, .inl (cA, 20, .inl f_t_book_goals_z)), (h_t_book_lengths, .inl (cA, 20, .inl f_t_book_lengths_z))]) 0 0 (va_A [(h_t, .inr (9, [.ref h_t_shelf, .ref h_t_past, .ref h_t_images, .ref h_t_book, .ref h_t_formList, .ref h_t_ways, .ref h_t_round, .ref h_t_smooth])), (h_t_book, .inr (0, [.int f_t_book_entries, .ref h_t_book_goals, .ref h_t_book_lengths])), (h_t_shelf, .inr (6, [.int f_t_shelf_size, .int f_t_shelf_places, .int f_t_shelf_drawn, .ref h_t_shelf_sets])), (h_t_book_goals, .inl (cA, 20, .inl f_t_book_goals)), (h_t_book_lengths, .inl (cA, 20, .inl f_t_book_lengths))] sz) := by
  refine Met.ofW (cc := cX10_write) (maxL := 3) (ret := (some .int)) (by decide) rfl ?_
  intro p e s m args below meth c s₁ B hml hv
  obtain ⟨rfl, hsz, hP, hK, hD0⟩ := hv
  refine W_gen (fun Q hQ => ?_)
  have hx := B.exec
  have hb := B.bytes
  have hr := B.returns
  have hts := atoms_spec (ws := wsX10_write) B.pre
  have hown : s.vm.findClass RX10 = some m.cls := findClass_of_methodNamed B.named
  have hlocks := B.notSynchronized
  subst hsz
  have hD := hD0.self (sz := s.heap.size)
  clear hD0
  generalize hAe : va_A [(h_t, .inr (9, [.ref h_t_shelf, .ref h_t_past, .ref h_t_images, .ref h_t_book, .ref h_t_formList, .ref h_t_ways, .ref h_t_round, .ref h_t_smooth])), (h_t_book, .inr (0, [.int f_t_book_entries, .ref h_t_book_goals, .ref h_t_book_lengths])), (h_t_shelf, .inr (6, [.int f_t_shelf_size, .int f_t_shelf_places, .int f_t_shelf_drawn, .ref h_t_shelf_sets])), (h_t_book_goals, .inl (cA, 20, .inl f_t_book_goals)), (h_t_book_lengths, .inl (cA, 20, .inl f_t_book_lengths))] s.heap.size = A at hD hQ
  have hA : ∀ q : Nat, s.heap.size ≤ q → A q := fun q h => by rw [← hAe]; exact Or.inr h
  clear hAe
  have hS : va_S A s.heap s.heap [] := va_S.rf
  have hl := lv_entry ([.ref h_t, .int a1, .int a2]) (n := 3) (Nat.le_of_ble_eq_true rfl)
  rw [lg_entry_eq]
  generalize (lg_sl ([.ref h_t, .int a1, .int a2]) ++ List.replicate (3 - (lg_sl ([.ref h_t, .int a1, .int a2])).length) Slot.unset).toArray = ls at hl ⊢
  have hl : lv_has ls 3 [(0, .ref h_t), (1, .int a1), (2, .int a2)] := hl
  have k1 := hts (.fieldLink RX10 10 "ToneSets" "shelf" "LToneSets$Shelf;") (List.mem_of_getElem? (i := 1) rfl)
  have k3 := hts (.fieldLink RX10 35 "ToneSets" "book" "LToneSets$Book;") (List.mem_of_getElem? (i := 3) rfl)
  have k5 := hts (.fieldLink RX10 89 "ToneSets$Book" "entries" "I") (List.mem_of_getElem? (i := 5) rfl)
  have k4 := hts (.constant RX10 179 (-1000000004)) (List.mem_of_getElem? (i := 4) rfl)
  have k2 := hts (.constant RX10 106 (-1000000001)) (List.mem_of_getElem? (i := 2) rfl)
  have uX10 := uX10_X10_write
  have uX0 := uX0_X10_write
  unfold m_Tn_write at hm
  refine lv_aload_n hx hb dX10_write_0 rfl (lv_at hl 0 rfl) ?_
  refine va_get (D := (dC, dI)) (ci := 9) (v := .ref h_t_shelf) (C := RX10) (T := TX10) (N := 8) hx hb hts uX10 hown hK hP 0 rfl rfl 0 (by decide) k1 (fun _ h9 => h9) rfl dX10_write_1 ?_
  refine lv_iload_n hx hb dX10_write_4 rfl (lv_at hl 1 rfl) ?_
  obtain ⟨r_1, hc5, hm⟩ := bd1_go hm
  refine my_cVi (As := [.int a1]) (rest := []) (WC := [(h_t_shelf, .inr (6, [.int f_t_shelf_size, .int f_t_shelf_places, .int f_t_shelf_drawn, .ref h_t_shelf_sets]))]) (WC' := [(h_t_shelf, .inr (6, [.int f_t_shelf_size, .int f_t_shelf_places, .int f_t_shelf_drawn, .ref h_t_shelf_sets]))]) (WR := [(h_t, .inr (9, [.ref h_t_shelf, .ref h_t_past, .ref h_t_images, .ref h_t_book, .ref h_t_formList, .ref h_t_ways, .ref h_t_round, .ref h_t_smooth])), (h_t_book, .inr (0, [.int f_t_book_entries, .ref h_t_book_goals, .ref h_t_book_lengths])), (h_t_book_goals, .inl (cA, 20, .inl f_t_book_goals)), (h_t_book_lengths, .inl (cA, 20, .inl f_t_book_lengths))]) (W' := [(h_t, .inr (9, [.ref h_t_shelf, .ref h_t_past, .ref h_t_images, .ref h_t_book, .ref h_t_formList, .ref h_t_ways, .ref h_t_round, .ref h_t_smooth])), (h_t_book, .inr (0, [.int f_t_book_entries, .ref h_t_book_goals, .ref h_t_book_lengths])), (h_t_shelf, .inr (6, [.int f_t_shelf_size, .int f_t_shelf_places, .int f_t_shelf_drawn, .ref h_t_shelf_sets])), (h_t_book_goals, .inl (cA, 20, .inl f_t_book_goals)), (h_t_book_lengths, .inl (cA, 20, .inl f_t_book_lengths))]) ⟨hx, hb, hml, hown, hts⟩ hK hP hD hS hA (c_Shelf_has l dC dI cA h_t_shelf h_t_shelf_sets f_t_shelf_size f_t_shelf_places f_t_shelf_drawn a1 r_1 hc5) (cwV 1 hts gX10_write_X7_has rfl rfl rfl (by decide +kernel) ⟨Nat.le_of_ble_eq_true rfl, Nat.le_of_ble_eq_true rfl⟩) [2] [0, 1, 3, 4] [0, 1, 4, 2, 3] rfl rfl rfl rfl (ci := 6) (q0 := 0) rfl rfl rfl rfl hl.1 (Nat.le_of_ble_eq_true rfl) dX10_write_5 ⟨Nat.zero_le _, Nat.zero_le _⟩ (fun H locs hP hD hS => ?_)
  refine lv_if_ne (tgt := 14) hx hb dX10_write_8 (by decide) (fun c8 => ?_) (fun c8 => ?_)
  · replace hm := if_f c8 hm
    refine lv_aload_n hx hb dX10_write_14 rfl (lv_at hl 0 rfl) ?_
    refine va_get (D := (dC, dI)) (ci := 9) (v := .ref h_t_book) (C := RX10) (T := TX10) (N := 8) hx hb hts uX10 hown hK hP 0 rfl rfl 3 (by decide) k3 (fun _ h9 => h9) rfl dX10_write_15 ?_
    obtain ⟨r_2, hc18, hm⟩ := bd1_go hm
    refine my_cVi (As := []) (rest := []) (WC := [(h_t_book, .inr (0, [.int f_t_book_entries, .ref h_t_book_goals, .ref h_t_book_lengths]))]) (WC' := [(h_t_book, .inr (0, [.int f_t_book_entries, .ref h_t_book_goals, .ref h_t_book_lengths]))]) (WR := [(h_t, .inr (9, [.ref h_t_shelf, .ref h_t_past, .ref h_t_images, .ref h_t_book, .ref h_t_formList, .ref h_t_ways, .ref h_t_round, .ref h_t_smooth])), (h_t_shelf, .inr (6, [.int f_t_shelf_size, .int f_t_shelf_places, .int f_t_shelf_drawn, .ref h_t_shelf_sets])), (h_t_book_goals, .inl (cA, 20, .inl f_t_book_goals)), (h_t_book_lengths, .inl (cA, 20, .inl f_t_book_lengths))]) (W' := [(h_t, .inr (9, [.ref h_t_shelf, .ref h_t_past, .ref h_t_images, .ref h_t_book, .ref h_t_formList, .ref h_t_ways, .ref h_t_round, .ref h_t_smooth])), (h_t_book, .inr (0, [.int f_t_book_entries, .ref h_t_book_goals, .ref h_t_book_lengths])), (h_t_shelf, .inr (6, [.int f_t_shelf_size, .int f_t_shelf_places, .int f_t_shelf_drawn, .ref h_t_shelf_sets])), (h_t_book_goals, .inl (cA, 20, .inl f_t_book_goals)), (h_t_book_lengths, .inl (cA, 20, .inl f_t_book_lengths))]) ⟨hx, hb, hml, hown, hts⟩ hK hP hD hS hA (c_Book_hasRoom l dC dI cA h_t_book h_t_book_goals h_t_book_lengths f_t_book_entries r_2 hc18) (cwV 0 hts gX10_write_X0_hasRoom rfl rfl rfl (by decide +kernel) ⟨Nat.le_of_ble_eq_true rfl, Nat.le_of_ble_eq_true rfl⟩) [1] [0, 2, 3, 4] [0, 4, 1, 2, 3] rfl rfl rfl rfl (ci := 0) (q0 := 0) rfl rfl rfl rfl hl.1 (Nat.le_of_ble_eq_true rfl) dX10_write_18 ⟨Nat.zero_le _, Nat.zero_le _⟩ (fun H locs hP hD hS => ?_)
    refine lv_if_ne (tgt := 27) hx hb dX10_write_21 (by decide) (fun c21 => ?_) (fun c21 => ?_)
    · replace hm := if_f c21 hm
      refine lv_aload_n hx hb dX10_write_27 rfl (lv_at hl 0 rfl) ?_
      refine va_get (D := (dC, dI)) (ci := 9) (v := .ref h_t_book) (C := RX10) (T := TX10) (N := 8) hx hb hts uX10 hown hK hP 0 rfl rfl 3 (by decide) k3 (fun _ h9 => h9) rfl dX10_write_28 ?_
      refine lv_iload_n hx hb dX10_write_31 rfl (lv_at hl 1 rfl) ?_
      refine lv_iload_n hx hb dX10_write_32 rfl (lv_at hl 2 rfl) ?_
      obtain ⟨f_t_book_entries_1, f_t_book_goals_1, f_t_book_lengths_1, hc33, hm⟩ := bd3_go hm
      refine my_cVv (As := [.int a1, .int a2]) (rest := []) (WC := [(h_t_book, .inr (0, [.int f_t_book_entries, .ref h_t_book_goals, .ref h_t_book_lengths])), (h_t_book_goals, .inl (cA, 20, .inl f_t_book_goals)), (h_t_book_lengths, .inl (cA, 20, .inl f_t_book_lengths))]) (WC' := [(h_t_book, .inr (0, [.int f_t_book_entries_1, .ref h_t_book_goals, .ref h_t_book_lengths])), (h_t_book_goals, .inl (cA, 20, .inl f_t_book_goals_1)), (h_t_book_lengths, .inl (cA, 20, .inl f_t_book_lengths_1))]) (WR := [(h_t, .inr (9, [.ref h_t_shelf, .ref h_t_past, .ref h_t_images, .ref h_t_book, .ref h_t_formList, .ref h_t_ways, .ref h_t_round, .ref h_t_smooth])), (h_t_shelf, .inr (6, [.int f_t_shelf_size, .int f_t_shelf_places, .int f_t_shelf_drawn, .ref h_t_shelf_sets]))]) (W' := [(h_t, .inr (9, [.ref h_t_shelf, .ref h_t_past, .ref h_t_images, .ref h_t_book, .ref h_t_formList, .ref h_t_ways, .ref h_t_round, .ref h_t_smooth])), (h_t_book, .inr (0, [.int f_t_book_entries_1, .ref h_t_book_goals, .ref h_t_book_lengths])), (h_t_shelf, .inr (6, [.int f_t_shelf_size, .int f_t_shelf_places, .int f_t_shelf_drawn, .ref h_t_shelf_sets])), (h_t_book_goals, .inl (cA, 20, .inl f_t_book_goals_1)), (h_t_book_lengths, .inl (cA, 20, .inl f_t_book_lengths_1))]) ⟨hx, hb, hml, hown, hts⟩ hK hP hD hS hA (c_Book_append l dC dI cA h_t_book h_t_book_goals h_t_book_lengths f_t_book_entries f_t_book_goals f_t_book_lengths a1 a2 f_t_book_entries_1 f_t_book_goals_1 f_t_book_lengths_1 hc33) (cwV 2 hts gX10_write_X0_append rfl rfl rfl (by decide +kernel) ⟨Nat.le_of_ble_eq_true rfl, Nat.le_of_ble_eq_true rfl⟩) [1, 3, 4] [0, 2] [0, 2, 1, 3, 4] rfl rfl rfl rfl (ci := 0) (q0 := 0) rfl rfl rfl rfl hl.1 (Nat.le_of_ble_eq_true rfl) dX10_write_33 ⟨Nat.zero_le _, Nat.zero_le _⟩ (fun H locs hP hD hS => ?_)
      refine lv_aload_n hx hb dX10_write_36 rfl (lv_at hl 0 rfl) ?_
      refine va_get (D := (dC, dI)) (ci := 9) (v := .ref h_t_book) (C := RX10) (T := TX10) (N := 8) hx hb hts uX10 hown hK hP 0 rfl rfl 3 (by decide) k3 (fun _ h9 => h9) rfl dX10_write_37 ?_
      refine va_get (D := (dC, dI)) (ci := 0) (v := .int f_t_book_entries_1) (C := RX0) (T := TX0) (N := 3) hx hb hts uX0 hown hK hP 1 rfl rfl 0 (by decide) k5 (fun _ h9 => h9) rfl dX10_write_40 ?_
      cases hm
      exact W_mono hQ (W.iret hx hb hr (fun t ht hW => ⟨⟨_, (), rfl, rfl, by rw [ht]; exact hP, va_K.moved hW.alike hK, hD⟩, hS.F ht⟩) hS.2.2 dX10_write_43)
    · replace hm := if_t c21 hm
      refine lv_ldc (v := (-1000000004)) hx hb hown k4 dX10_write_24 ?_
      cases hm
      exact W_mono hQ (W.iret hx hb hr (fun t ht hW => ⟨⟨_, (), rfl, rfl, by rw [ht]; exact hP, va_K.moved hW.alike hK, hD⟩, hS.F ht⟩) hS.2.2 dX10_write_26)
  · replace hm := if_t c8 hm
    refine lv_ldc (v := (-1000000001)) hx hb hown k2 dX10_write_11 ?_
    cases hm
    exact W_mono hQ (W.iret hx hb hr (fun t ht hW => ⟨⟨_, (), rfl, rfl, by rw [ht]; exact hP, va_K.moved hW.alike hK, hD⟩, hS.F ht⟩) hS.2.2 dX10_write_13)
abbrev rmX11_copyRow : Room := { frames := 0, cells := 0, slots := 0, locals := 0 }
theorem uX11_X11_copyRow : ∀ w ∈ wsX110, w ∈ wsX11_copyRow := fun _ h => List.mem_cons_of_mem _ (List.mem_append_right _ (h))
set_option maxHeartbeats 40000000 in
set_option maxRecDepth 100000 in
theorem c_Md_copyRow (l : Launch) (dC : Nat → ClassId) (dI : Nat → Nat → Nat) (cA : ClassId) (fu : Nat) (h_t h_t_w h_t_imageSeed h_t_bookOf h_t_bookIs h_t_forms h_t_best h_t_next h_t_ways h_t_round h_t_roughs : Nat) (f_t_known : Int32) (f_t_kept : Int32) (f_t_seed : Int32) (f_t_written : Int32) (f_t_formRing : Int32) (f_t_formMany : Int32) (f_t_latest : Int32) (f_t_w : Nat → Int32) (a1 : Int32) (a2 : Int32) (f_t_w_z : Nat → Int32) (hm : m_Md_copyRow fu f_t_w a1 a2 = some f_t_w_z) (sz : Nat) : Met l yX11_copyRow wsX11_copyRow rmX11_copyRow (mPre (dC, dI) cA [.ref h_t, .int a1, .int a2] sz [(h_t, .inr (10, [.ref h_t_w, .int f_t_known, .int f_t_kept, .int f_t_seed, .ref h_t_imageSeed, .ref h_t_bookOf, .ref h_t_bookIs, .int f_t_written, .ref h_t_forms, .int f_t_formRing, .int f_t_formMany, .ref h_t_best, .ref h_t_next, .ref h_t_ways, .ref h_t_round, .ref h_t_roughs, .int f_t_latest])), (h_t_w, .inl (cA, 190, .inl f_t_w))]) (mPosV (dC, dI) cA (va_A [(h_t, .inr (10, [.ref h_t_w, .int f_t_known, .int f_t_kept, .int f_t_seed, .ref h_t_imageSeed, .ref h_t_bookOf, .ref h_t_bookIs, .int f_t_written, .ref h_t_forms, .int f_t_formRing, .int f_t_formMany, .ref h_t_best, .ref h_t_next, .ref h_t_ways, .ref h_t_round, .ref h_t_roughs, .int f_t_latest])), (h_t_w, .inl (cA, 190, .inl f_t_w))] sz) [(h_t, .inr (10, [.ref h_t_w, .int f_t_known, .int f_t_kept, .int f_t_seed, .ref h_t_imageSeed, .ref h_t_bookOf, .ref h_t_bookIs, .int f_t_written, .ref h_t_forms, .int f_t_formRing, .int f_t_formMany, .ref h_t_best, .ref h_t_next, .ref h_t_ways, .ref h_t_round, .ref h_t_roughs, .int f_t_latest])), (h_t_w, .inl (cA, 190, .inl f_t_w_z))]) 0 0 (va_A [(h_t, .inr (10, [.ref h_t_w, .int f_t_known, .int f_t_kept, .int f_t_seed, .ref h_t_imageSeed, .ref h_t_bookOf, .ref h_t_bookIs, .int f_t_written, .ref h_t_forms, .int f_t_formRing, .int f_t_formMany, .ref h_t_best, .ref h_t_next, .ref h_t_ways, .ref h_t_round, .ref h_t_roughs, .int f_t_latest])), (h_t_w, .inl (cA, 190, .inl f_t_w))] sz) := by
  refine Met.ofW (cc := cX11_copyRow) (maxL := 4) (ret := none) (by decide) rfl ?_
  intro p e s m args below meth c s₁ B hml hv
  obtain ⟨rfl, hsz, hP, hK, hD0⟩ := hv
  refine W_gen (fun Q hQ => ?_)
  have hx := B.exec
  have hb := B.bytes
  have hr := B.returns
  have hts := atoms_spec (ws := wsX11_copyRow) B.pre
  have hown : s.vm.findClass RX11 = some m.cls := findClass_of_methodNamed B.named
  have hlocks := B.notSynchronized
  subst hsz
  have hD := hD0.self (sz := s.heap.size)
  clear hD0
  generalize hAe : va_A [(h_t, .inr (10, [.ref h_t_w, .int f_t_known, .int f_t_kept, .int f_t_seed, .ref h_t_imageSeed, .ref h_t_bookOf, .ref h_t_bookIs, .int f_t_written, .ref h_t_forms, .int f_t_formRing, .int f_t_formMany, .ref h_t_best, .ref h_t_next, .ref h_t_ways, .ref h_t_round, .ref h_t_roughs, .int f_t_latest])), (h_t_w, .inl (cA, 190, .inl f_t_w))] s.heap.size = A at hD hQ
  have hA : ∀ q : Nat, s.heap.size ≤ q → A q := fun q h => by rw [← hAe]; exact Or.inr h
  clear hAe
  have hS : va_S A s.heap s.heap [] := va_S.rf
  have hl := lv_entry ([.ref h_t, .int a1, .int a2]) (n := 4) (Nat.le_of_ble_eq_true rfl)
  rw [lg_entry_eq]
  generalize (lg_sl ([.ref h_t, .int a1, .int a2]) ++ List.replicate (4 - (lg_sl ([.ref h_t, .int a1, .int a2])).length) Slot.unset).toArray = ls at hl ⊢
  have hl : lv_has ls 4 [(0, .ref h_t), (1, .int a1), (2, .int a2)] := hl
  have k1 := hts (.fieldLink RX11 7 "ToneSetsModel" "w" "[I") (List.mem_of_getElem? (i := 1) rfl)
  have uX11 := uX11_X11_copyRow
  unfold m_Md_copyRow at hm
  refine lv_iconst (v := 0) hx hb dX11_copyRow_0 (by decide) ?_
  refine lv_topi (fun v3_1 ev3_1 => ?_)
  replace hm := lt_go ev3_1 hm
  refine lv_istore_n (lv' := [(3, .int v3_1), (0, .ref h_t), (1, .int a1), (2, .int a2)]) hx hb dX11_copyRow_1 rfl hl (by decide) rfl (fun ls hl => ?_)
  have L2 : ∀ (n : Nat) (v3_2 : Int32) (f_t_w_1 : Nat → Int32) (f_t_w_2 : Nat → Int32), m_Md_copyRow_L2 a1 a2 n v3_2 f_t_w_1 = some f_t_w_2 → ∀ (H : Heap) (locs : List Loc), va_P (dC, dI) vwCl [(h_t, .inr (10, [.ref h_t_w, .int f_t_known, .int f_t_kept, .int f_t_seed, .ref h_t_imageSeed, .ref h_t_bookOf, .ref h_t_bookIs, .int f_t_written, .ref h_t_forms, .int f_t_formRing, .int f_t_formMany, .ref h_t_best, .ref h_t_next, .ref h_t_ways, .ref h_t_round, .ref h_t_roughs, .int f_t_latest])), (h_t_w, .inl (cA, 190, .inl f_t_w_1))] H → va_D A [(h_t, .inr (10, [.ref h_t_w, .int f_t_known, .int f_t_kept, .int f_t_seed, .ref h_t_imageSeed, .ref h_t_bookOf, .ref h_t_bookIs, .int f_t_written, .ref h_t_forms, .int f_t_formRing, .int f_t_formMany, .ref h_t_best, .ref h_t_next, .ref h_t_ways, .ref h_t_round, .ref h_t_roughs, .int f_t_latest])), (h_t_w, .inl (cA, 190, .inl f_t_w_1))] → va_S A s.heap H locs → ∀ ls : Array Slot, lv_has ls 4 [(0, .ref h_t), (1, .int a1), (2, .int a2), (3, .int v3_2)] → (∀ (H : Heap) (locs : List Loc), va_P (dC, dI) vwCl [(h_t, .inr (10, [.ref h_t_w, .int f_t_known, .int f_t_kept, .int f_t_seed, .ref h_t_imageSeed, .ref h_t_bookOf, .ref h_t_bookIs, .int f_t_written, .ref h_t_forms, .int f_t_formRing, .int f_t_formMany, .ref h_t_best, .ref h_t_next, .ref h_t_ways, .ref h_t_round, .ref h_t_roughs, .int f_t_latest])), (h_t_w, .inl (cA, 190, .inl f_t_w_2))] H → va_D A [(h_t, .inr (10, [.ref h_t_w, .int f_t_known, .int f_t_kept, .int f_t_seed, .ref h_t_imageSeed, .ref h_t_bookOf, .ref h_t_bookIs, .int f_t_written, .ref h_t_forms, .int f_t_formRing, .int f_t_formMany, .ref h_t_best, .ref h_t_next, .ref h_t_ways, .ref h_t_round, .ref h_t_roughs, .int f_t_latest])), (h_t_w, .inl (cA, 190, .inl f_t_w_2))] → va_S A s.heap H locs → ∀ ls : Array Slot, lv_has ls 4 [] → W p l e (headSpec wsX11_copyRow rmX11_copyRow).room s m (([.ref h_t, .int a1, .int a2] : List Value).toArray) below meth c H locs 0 0 Q (F0 m 30 ls [])) → W p l e (headSpec wsX11_copyRow rmX11_copyRow).room s m (([.ref h_t, .int a1, .int a2] : List Value).toArray) below meth c H locs 0 0 Q (F0 m 2 ls []) := by
    clear hm hP hD hS hl
    intro n
    induction n with
    | zero => intro _ _ _ hm; exact nomatch (show none = some _ from hm)
    | succ n ih =>
      intro v3_2 f_t_w_1 f_t_w_2 hm H locs hP hD hS ls hl KK
      unfold m_Md_copyRow_L2 at hm
      refine lv_iload_n hx hb dX11_copyRow_2 rfl (lv_at hl 3 rfl) ?_
      refine lv_bipush (v := 10) hx hb dX11_copyRow_3 (by decide) ?_
      refine lv_icmp_ge (tgt := 30) hx hb dX11_copyRow_5 (by decide) (fun c5 => ?_) (fun c5 => ?_)
      · replace hm := if_t c5 hm
        cases hm
        exact KK _ _ hP hD hS _ (lv_sub hl [] rfl)
      · replace hm := if_f c5 hm
        refine lv_aload_n hx hb dX11_copyRow_8 rfl (lv_at hl 0 rfl) ?_
        refine va_get (D := (dC, dI)) (ci := 10) (v := .ref h_t_w) (C := RX11) (T := TX11) (N := 17) hx hb hts uX11 hown hK hP 0 rfl rfl 0 (by decide) k1 (fun _ h9 => h9) rfl dX11_copyRow_9 ?_
        refine lv_iload_n hx hb dX11_copyRow_12 rfl (lv_at hl 2 rfl) ?_
        refine lv_iload_n hx hb dX11_copyRow_13 rfl (lv_at hl 3 rfl) ?_
        refine lv_iadd hx hb dX11_copyRow_14 ?_
        refine lv_aload_n hx hb dX11_copyRow_15 rfl (lv_at hl 0 rfl) ?_
        refine va_get (D := (dC, dI)) (ci := 10) (v := .ref h_t_w) (C := RX11) (T := TX11) (N := 17) hx hb hts uX11 hown hK hP 0 rfl rfl 0 (by decide) k1 (fun _ h9 => h9) rfl dX11_copyRow_16 ?_
        refine lv_iload_n hx hb dX11_copyRow_19 rfl (lv_at hl 1 rfl) ?_
        refine lv_iload_n hx hb dX11_copyRow_20 rfl (lv_at hl 3 rfl) ?_
        refine lv_iadd hx hb dX11_copyRow_21 ?_
        obtain ⟨b22, hm⟩ := ck_go hm
        refine va_iald hx hb hK hP 1 0 rfl rfl b22 dX11_copyRow_22 ?_
        obtain ⟨b23, hm⟩ := ck_go hm
        refine my_iast (W' := fun z' => [(h_t, .inr (10, [.ref h_t_w, .int f_t_known, .int f_t_kept, .int f_t_seed, .ref h_t_imageSeed, .ref h_t_bookOf, .ref h_t_bookIs, .int f_t_written, .ref h_t_forms, .int f_t_formRing, .int f_t_formMany, .ref h_t_best, .ref h_t_next, .ref h_t_ways, .ref h_t_round, .ref h_t_roughs, .int f_t_latest])), (h_t_w, .inl (cA, 190, .inl z'))]) hx hb hK hP hD hS 1 0 rfl rfl b23 dX11_copyRow_23 (fun _ => rfl) (fun f_t_w_3 ef_t_w_3 H locs hP hD hS => ?_)
        replace hm := lt_go ef_t_w_3 hm
        obtain ⟨v3_3, ev3_3⟩ : ∃ z : Int32, z = v3_2 + 1 := ⟨_, rfl⟩
        replace hm := lt_go ev3_3 hm
        refine lv_iinc (v := v3_3) (lv' := [(3, .int v3_3), (0, .ref h_t), (1, .int a1), (2, .int a2)]) hx hb dX11_copyRow_24 hl (k := 3) rfl (by rw [ev3_3]; rfl) (by decide) rfl (fun ls hl => ?_)
        refine lv_goto (tgt := 2) hx hb dX11_copyRow_27 (by decide) ?_
        exact ih _ _ _ hm _ _ hP hD hS _ (lv_sub hl [1, 2, 3, 0] rfl) KK
  obtain ⟨f_t_w_4, hl2, hm⟩ := bd1_go hm
  refine L2 _ _ _ _ hl2 _ _ hP hD hS _ (lv_sub hl [1, 2, 3, 0] rfl) (fun H locs hP hD hS ls hl => ?_)
  cases hm
  exact W_mono hQ (W.vret hx hb hr (fun t ht hW => ⟨⟨(), rfl, trivial, by rw [ht]; exact hP, va_K.moved hW.alike hK, hD⟩, hS.F ht⟩) hS.2.2 dX11_copyRow_30)
abbrev rmX11_remember : Room := { frames := 1, cells := 0, slots := 0, locals := 23 }
theorem uX11_X11_remember : ∀ w ∈ wsX110, w ∈ wsX11_remember := fun _ h => List.mem_cons_of_mem _ (List.mem_append_right _ (h))
set_option maxHeartbeats 40000000 in
set_option maxRecDepth 100000 in
theorem c_Md_remember (l : Launch) (dC : Nat → ClassId) (dI : Nat → Nat → Nat) (cA : ClassId) (fu : Nat) (h_t h_t_w h_t_imageSeed h_t_bookOf h_t_bookIs h_t_forms h_t_best h_t_next h_t_ways h_t_round h_t_roughs : Nat) (f_t_known : Int32) (f_t_kept : Int32) (f_t_seed : Int32) (f_t_written : Int32) (f_t_formRing : Int32) (f_t_formMany : Int32) (f_t_latest : Int32) (f_t_w : Nat → Int32) (f_t_known_z : Int32) (f_t_w_z : Nat → Int32) (hm : m_Md_remember fu f_t_known f_t_w = some (f_t_known_z, f_t_w_z)) (sz : Nat) : Met l yX11_remember wsX11_remember rmX11_remember (mPre (dC, dI) cA [.ref h_t] sz [(h_t, .inr (10, [.ref h_t_w, .int f_t_known, .int f_t_kept, .int f_t_seed, .ref h_t_imageSeed, .ref h_t_bookOf, .ref h_t_bookIs, .int f_t_written, .ref h_t_forms, .int f_t_formRing, .int f_t_formMany, .ref h_t_best, .ref h_t_next, .ref h_t_ways, .ref h_t_round, .ref h_t_roughs, .int f_t_latest])), (h_t_w, .inl (cA, 190, .inl f_t_w))]) (mPosV (dC, dI) cA (va_A [(h_t, .inr (10, [.ref h_t_w, .int f_t_known, .int f_t_kept, .int f_t_seed, .ref h_t_imageSeed, .ref h_t_bookOf, .ref h_t_bookIs, .int f_t_written, .ref h_t_forms, .int f_t_formRing, .int f_t_formMany, .ref h_t_best, .ref h_t_next, .ref h_t_ways, .ref h_t_round, .ref h_t_roughs, .int f_t_latest])), (h_t_w, .inl (cA, 190, .inl f_t_w))] sz) [(h_t, .inr (10, [.ref h_t_w, .int f_t_known_z, .int f_t_kept, .int f_t_seed, .ref h_t_imageSeed, .ref h_t_bookOf, .ref h_t_bookIs, .int f_t_written, .ref h_t_forms, .int f_t_formRing, .int f_t_formMany, .ref h_t_best, .ref h_t_next, .ref h_t_ways, .ref h_t_round, .ref h_t_roughs, .int f_t_latest])), (h_t_w, .inl (cA, 190, .inl f_t_w_z))]) 0 0 (va_A [(h_t, .inr (10, [.ref h_t_w, .int f_t_known, .int f_t_kept, .int f_t_seed, .ref h_t_imageSeed, .ref h_t_bookOf, .ref h_t_bookIs, .int f_t_written, .ref h_t_forms, .int f_t_formRing, .int f_t_formMany, .ref h_t_best, .ref h_t_next, .ref h_t_ways, .ref h_t_round, .ref h_t_roughs, .int f_t_latest])), (h_t_w, .inl (cA, 190, .inl f_t_w))] sz) := by
  refine Met.ofW (cc := cX11_remember) (maxL := 2) (ret := none) (by decide) rfl ?_
  intro p e s m args below meth c s₁ B hml hv
  obtain ⟨rfl, hsz, hP, hK, hD0⟩ := hv
  refine W_gen (fun Q hQ => ?_)
  have hx := B.exec
  have hb := B.bytes
  have hr := B.returns
  have hts := atoms_spec (ws := wsX11_remember) B.pre
  have hown : s.vm.findClass RX11 = some m.cls := findClass_of_methodNamed B.named
  have hlocks := B.notSynchronized
  subst hsz
  have hD := hD0.self (sz := s.heap.size)
  clear hD0
  generalize hAe : va_A [(h_t, .inr (10, [.ref h_t_w, .int f_t_known, .int f_t_kept, .int f_t_seed, .ref h_t_imageSeed, .ref h_t_bookOf, .ref h_t_bookIs, .int f_t_written, .ref h_t_forms, .int f_t_formRing, .int f_t_formMany, .ref h_t_best, .ref h_t_next, .ref h_t_ways, .ref h_t_round, .ref h_t_roughs, .int f_t_latest])), (h_t_w, .inl (cA, 190, .inl f_t_w))] s.heap.size = A at hD hQ
  have hA : ∀ q : Nat, s.heap.size ≤ q → A q := fun q h => by rw [← hAe]; exact Or.inr h
  clear hAe
  have hS : va_S A s.heap s.heap [] := va_S.rf
  have hl := lv_entry ([.ref h_t]) (n := 2) (Nat.le_of_ble_eq_true rfl)
  rw [lg_entry_eq]
  generalize (lg_sl ([.ref h_t]) ++ List.replicate (2 - (lg_sl ([.ref h_t])).length) Slot.unset).toArray = ls at hl ⊢
  have hl : lv_has ls 2 [(0, .ref h_t)] := hl
  have k1 := hts (.fieldLink RX11 44 "ToneSetsModel" "known" "I") (List.mem_of_getElem? (i := 1) rfl)
  have uX11 := uX11_X11_remember
  unfold m_Md_remember at hm
  refine lv_bipush (v := 16) hx hb dX11_remember_0 (by decide) ?_
  refine lv_topi (fun v1_1 ev1_1 => ?_)
  replace hm := lt_go ev1_1 hm
  refine lv_istore_n (lv' := [(1, .int v1_1), (0, .ref h_t)]) hx hb dX11_remember_2 rfl hl (by decide) rfl (fun ls hl => ?_)
  have L3 : ∀ (n : Nat) (v1_2 : Int32) (f_t_w_1 : Nat → Int32) (f_t_w_2 : Nat → Int32), m_Md_remember_L3 fu n v1_2 f_t_w_1 = some f_t_w_2 → ∀ (H : Heap) (locs : List Loc), va_P (dC, dI) vwCl [(h_t, .inr (10, [.ref h_t_w, .int f_t_known, .int f_t_kept, .int f_t_seed, .ref h_t_imageSeed, .ref h_t_bookOf, .ref h_t_bookIs, .int f_t_written, .ref h_t_forms, .int f_t_formRing, .int f_t_formMany, .ref h_t_best, .ref h_t_next, .ref h_t_ways, .ref h_t_round, .ref h_t_roughs, .int f_t_latest])), (h_t_w, .inl (cA, 190, .inl f_t_w_1))] H → va_D A [(h_t, .inr (10, [.ref h_t_w, .int f_t_known, .int f_t_kept, .int f_t_seed, .ref h_t_imageSeed, .ref h_t_bookOf, .ref h_t_bookIs, .int f_t_written, .ref h_t_forms, .int f_t_formRing, .int f_t_formMany, .ref h_t_best, .ref h_t_next, .ref h_t_ways, .ref h_t_round, .ref h_t_roughs, .int f_t_latest])), (h_t_w, .inl (cA, 190, .inl f_t_w_1))] → va_S A s.heap H locs → ∀ ls : Array Slot, lv_has ls 2 [(0, .ref h_t), (1, .int v1_2)] → (∀ (H : Heap) (locs : List Loc), va_P (dC, dI) vwCl [(h_t, .inr (10, [.ref h_t_w, .int f_t_known, .int f_t_kept, .int f_t_seed, .ref h_t_imageSeed, .ref h_t_bookOf, .ref h_t_bookIs, .int f_t_written, .ref h_t_forms, .int f_t_formRing, .int f_t_formMany, .ref h_t_best, .ref h_t_next, .ref h_t_ways, .ref h_t_round, .ref h_t_roughs, .int f_t_latest])), (h_t_w, .inl (cA, 190, .inl f_t_w_2))] H → va_D A [(h_t, .inr (10, [.ref h_t_w, .int f_t_known, .int f_t_kept, .int f_t_seed, .ref h_t_imageSeed, .ref h_t_bookOf, .ref h_t_bookIs, .int f_t_written, .ref h_t_forms, .int f_t_formRing, .int f_t_formMany, .ref h_t_best, .ref h_t_next, .ref h_t_ways, .ref h_t_round, .ref h_t_roughs, .int f_t_latest])), (h_t_w, .inl (cA, 190, .inl f_t_w_2))] → va_S A s.heap H locs → ∀ ls : Array Slot, lv_has ls 2 [(0, .ref h_t)] → W p l e (headSpec wsX11_remember rmX11_remember).room s m (([.ref h_t] : List Value).toArray) below meth c H locs 0 0 Q (F0 m 27 ls [])) → W p l e (headSpec wsX11_remember rmX11_remember).room s m (([.ref h_t] : List Value).toArray) below meth c H locs 0 0 Q (F0 m 3 ls []) := by
    clear hm hP hD hS hl
    intro n
    induction n with
    | zero => intro _ _ _ hm; exact nomatch (show none = some _ from hm)
    | succ n ih =>
      intro v1_2 f_t_w_1 f_t_w_2 hm H locs hP hD hS ls hl KK
      unfold m_Md_remember_L3 at hm
      refine lv_iload_n hx hb dX11_remember_3 rfl (lv_at hl 1 rfl) ?_
      refine lv_if_le (tgt := 27) hx hb dX11_remember_4 (by decide) (fun c4 => ?_) (fun c4 => ?_)
      · replace hm := if_t c4 hm
        cases hm
        exact KK _ _ hP hD hS _ (lv_sub hl [0] rfl)
      · replace hm := if_f c4 hm
        refine lv_aload_n hx hb dX11_remember_7 rfl (lv_at hl 0 rfl) ?_
        refine lv_bipush (v := 10) hx hb dX11_remember_8 (by decide) ?_
        refine lv_iload_n hx hb dX11_remember_10 rfl (lv_at hl 1 rfl) ?_
        refine lv_iconst (v := 1) hx hb dX11_remember_11 (by decide) ?_
        refine lv_isub hx hb dX11_remember_12 ?_
        refine lv_imul hx hb dX11_remember_13 ?_
        refine lv_bipush (v := 10) hx hb dX11_remember_14 (by decide) ?_
        refine lv_iload_n hx hb dX11_remember_16 rfl (lv_at hl 1 rfl) ?_
        refine lv_imul hx hb dX11_remember_17 ?_
        obtain ⟨f_t_w_3, hc18, hm⟩ := bd1_go hm
        refine my_cVv (As := [.int (10 * (v1_2 - 1)), .int (10 * v1_2)]) (rest := []) (WC := [(h_t, .inr (10, [.ref h_t_w, .int f_t_known, .int f_t_kept, .int f_t_seed, .ref h_t_imageSeed, .ref h_t_bookOf, .ref h_t_bookIs, .int f_t_written, .ref h_t_forms, .int f_t_formRing, .int f_t_formMany, .ref h_t_best, .ref h_t_next, .ref h_t_ways, .ref h_t_round, .ref h_t_roughs, .int f_t_latest])), (h_t_w, .inl (cA, 190, .inl f_t_w_1))]) (WC' := [(h_t, .inr (10, [.ref h_t_w, .int f_t_known, .int f_t_kept, .int f_t_seed, .ref h_t_imageSeed, .ref h_t_bookOf, .ref h_t_bookIs, .int f_t_written, .ref h_t_forms, .int f_t_formRing, .int f_t_formMany, .ref h_t_best, .ref h_t_next, .ref h_t_ways, .ref h_t_round, .ref h_t_roughs, .int f_t_latest])), (h_t_w, .inl (cA, 190, .inl f_t_w_3))]) (WR := []) (W' := [(h_t, .inr (10, [.ref h_t_w, .int f_t_known, .int f_t_kept, .int f_t_seed, .ref h_t_imageSeed, .ref h_t_bookOf, .ref h_t_bookIs, .int f_t_written, .ref h_t_forms, .int f_t_formRing, .int f_t_formMany, .ref h_t_best, .ref h_t_next, .ref h_t_ways, .ref h_t_round, .ref h_t_roughs, .int f_t_latest])), (h_t_w, .inl (cA, 190, .inl f_t_w_3))]) ⟨hx, hb, hml, hown, hts⟩ hK hP hD hS hA (c_Md_copyRow l dC dI cA fu h_t h_t_w h_t_imageSeed h_t_bookOf h_t_bookIs h_t_forms h_t_best h_t_next h_t_ways h_t_round h_t_roughs f_t_known f_t_kept f_t_seed f_t_written f_t_formRing f_t_formMany f_t_latest f_t_w_1 (10 * (v1_2 - 1)) (10 * v1_2) f_t_w_3 hc18) (cwV 2 hts gX11_remember_X11_copyRow rfl rfl rfl (by decide +kernel) ⟨Nat.le_of_ble_eq_true rfl, Nat.le_of_ble_eq_true rfl⟩) [0, 1] [] [0, 1] rfl rfl rfl rfl (ci := 10) (q0 := 0) rfl rfl rfl rfl hl.1 (Nat.le_of_ble_eq_true rfl) dX11_remember_18 ⟨Nat.zero_le _, Nat.zero_le _⟩ (fun H locs hP hD hS => ?_)
        obtain ⟨v1_3, ev1_3⟩ : ∃ z : Int32, z = v1_2 + (-1) := ⟨_, rfl⟩
        replace hm := lt_go ev1_3 hm
        refine lv_iinc (v := v1_3) (lv' := [(1, .int v1_3), (0, .ref h_t)]) hx hb dX11_remember_21 hl (k := 1) rfl (by rw [ev1_3]; rfl) (by decide) rfl (fun ls hl => ?_)
        refine lv_goto (tgt := 3) hx hb dX11_remember_24 (by decide) ?_
        exact ih _ _ _ hm _ _ hP hD hS _ (lv_sub hl [1, 0] rfl) KK
  obtain ⟨f_t_w_4, hl3, hm⟩ := bd1_go hm
  refine L3 _ _ _ _ hl3 _ _ hP hD hS _ (lv_sub hl [1, 0] rfl) (fun H locs hP hD hS ls hl => ?_)
  refine lv_aload_n hx hb dX11_remember_27 rfl (lv_at hl 0 rfl) ?_
  refine lv_aload_n hx hb dX11_remember_28 rfl (lv_at hl 0 rfl) ?_
  refine va_get (D := (dC, dI)) (ci := 10) (v := .int f_t_known) (C := RX11) (T := TX11) (N := 17) hx hb hts uX11 hown hK hP 0 rfl rfl 1 (by decide) k1 (fun _ h9 => h9) rfl dX11_remember_29 ?_
  refine lv_bipush (v := 16) hx hb dX11_remember_32 (by decide) ?_
  refine lv_icmp_ge (tgt := 46) hx hb dX11_remember_34 (by decide) (fun c34 => ?_) (fun c34 => ?_)
  · replace hm := if_t c34 hm
    refine lv_bipush (v := 16) hx hb dX11_remember_46 (by decide) ?_
    refine lv_topi (fun f_t_known_1 ef_t_known_1 => ?_)
    replace hm := lt_go ef_t_known_1 hm
    refine my_put (W' := [(h_t, .inr (10, [.ref h_t_w, .int f_t_known_1, .int f_t_kept, .int f_t_seed, .ref h_t_imageSeed, .ref h_t_bookOf, .ref h_t_bookIs, .int f_t_written, .ref h_t_forms, .int f_t_formRing, .int f_t_formMany, .ref h_t_best, .ref h_t_next, .ref h_t_ways, .ref h_t_round, .ref h_t_roughs, .int f_t_latest])), (h_t_w, .inl (cA, 190, .inl f_t_w_4))]) (ci := 10) (v := .int f_t_known_1) (ty := .int) (C := RX11) (T := TX11) (N := 17) hx hb hts uX11 tyX11 tyX11_ok nmX11 hown hK hP hD hS 0 rfl rfl 1 (by decide) k1 (fun _ h9 => h9) rfl (by decide +kernel) rfl rfl (Nat.le_of_ble_eq_true rfl) dX11_remember_48 rfl (fun H locs hP hD hS => ?_)
    cases hm
    exact W_mono hQ (W.vret hx hb hr (fun t ht hW => ⟨⟨(), rfl, trivial, by rw [ht]; exact hP, va_K.moved hW.alike hK, hD⟩, hS.F ht⟩) hS.2.2 dX11_remember_51)
  · replace hm := if_f c34 hm
    refine lv_aload_n hx hb dX11_remember_37 rfl (lv_at hl 0 rfl) ?_
    refine va_get (D := (dC, dI)) (ci := 10) (v := .int f_t_known) (C := RX11) (T := TX11) (N := 17) hx hb hts uX11 hown hK hP 0 rfl rfl 1 (by decide) k1 (fun _ h9 => h9) rfl dX11_remember_38 ?_
    refine lv_iconst (v := 1) hx hb dX11_remember_41 (by decide) ?_
    refine lv_iadd hx hb dX11_remember_42 ?_
    refine lv_goto (tgt := 48) hx hb dX11_remember_43 (by decide) ?_
    refine lv_topi (fun f_t_known_2 ef_t_known_2 => ?_)
    replace hm := lt_go ef_t_known_2 hm
    refine my_put (W' := [(h_t, .inr (10, [.ref h_t_w, .int f_t_known_2, .int f_t_kept, .int f_t_seed, .ref h_t_imageSeed, .ref h_t_bookOf, .ref h_t_bookIs, .int f_t_written, .ref h_t_forms, .int f_t_formRing, .int f_t_formMany, .ref h_t_best, .ref h_t_next, .ref h_t_ways, .ref h_t_round, .ref h_t_roughs, .int f_t_latest])), (h_t_w, .inl (cA, 190, .inl f_t_w_4))]) (ci := 10) (v := .int f_t_known_2) (ty := .int) (C := RX11) (T := TX11) (N := 17) hx hb hts uX11 tyX11 tyX11_ok nmX11 hown hK hP hD hS 0 rfl rfl 1 (by decide) k1 (fun _ h9 => h9) rfl (by decide +kernel) rfl rfl (Nat.le_of_ble_eq_true rfl) dX11_remember_48 rfl (fun H locs hP hD hS => ?_)
    cases hm
    exact W_mono hQ (W.vret hx hb hr (fun t ht hW => ⟨⟨(), rfl, trivial, by rw [ht]; exact hP, va_K.moved hW.alike hK, hD⟩, hS.F ht⟩) hS.2.2 dX11_remember_51)
abbrev rmX11_add : Room := { frames := 2, cells := 0, slots := 0, locals := 44 }
theorem uX11_X11_add : ∀ w ∈ wsX110, w ∈ wsX11_add := fun _ h => List.mem_cons_of_mem _ (List.mem_append_right _ (h))
set_option maxHeartbeats 40000000 in
set_option maxRecDepth 100000 in
theorem c_Md_add (l : Launch) (dC : Nat → ClassId) (dI : Nat → Nat → Nat) (cA : ClassId) (fu : Nat) (h_t h_t_w h_t_imageSeed h_t_bookOf h_t_bookIs h_t_forms h_t_best h_t_next h_t_ways h_t_round h_t_roughs : Nat) (f_t_known : Int32) (f_t_kept : Int32) (f_t_seed : Int32) (f_t_written : Int32) (f_t_formRing : Int32) (f_t_formMany : Int32) (f_t_latest : Int32) (f_t_w : Nat → Int32) (a1 : Int32) (r0 : Int32) (f_t_known_z : Int32) (f_t_w_z : Nat → Int32) (hm : m_Md_add fu f_t_known f_t_w a1 = some (r0, f_t_known_z, f_t_w_z)) (sz : Nat) : Met l yX11_add wsX11_add rmX11_add (mPre (dC, dI) cA [.ref h_t, .int a1] sz [(h_t, .inr (10, [.ref h_t_w, .int f_t_known, .int f_t_kept, .int f_t_seed, .ref h_t_imageSeed, .ref h_t_bookOf, .ref h_t_bookIs, .int f_t_written, .ref h_t_forms, .int f_t_formRing, .int f_t_formMany, .ref h_t_best, .ref h_t_next, .ref h_t_ways, .ref h_t_round, .ref h_t_roughs, .int f_t_latest])), (h_t_w, .inl (cA, 190, .inl f_t_w))]) (mPosI (dC, dI) cA r0 (va_A [(h_t, .inr (10, [.ref h_t_w, .int f_t_known, .int f_t_kept, .int f_t_seed, .ref h_t_imageSeed, .ref h_t_bookOf, .ref h_t_bookIs, .int f_t_written, .ref h_t_forms, .int f_t_formRing, .int f_t_formMany, .ref h_t_best, .ref h_t_next, .ref h_t_ways, .ref h_t_round, .ref h_t_roughs, .int f_t_latest])), (h_t_w, .inl (cA, 190, .inl f_t_w))] sz) [(h_t, .inr (10, [.ref h_t_w, .int f_t_known_z, .int f_t_kept, .int f_t_seed, .ref h_t_imageSeed, .ref h_t_bookOf, .ref h_t_bookIs, .int f_t_written, .ref h_t_forms, .int f_t_formRing, .int f_t_formMany, .ref h_t_best, .ref h_t_next, .ref h_t_ways, .ref h_t_round, .ref h_t_roughs, .int f_t_latest])), (h_t_w, .inl (cA, 190, .inl f_t_w_z))]) 0 0 (va_A [(h_t, .inr (10, [.ref h_t_w, .int f_t_known, .int f_t_kept, .int f_t_seed, .ref h_t_imageSeed, .ref h_t_bookOf, .ref h_t_bookIs, .int f_t_written, .ref h_t_forms, .int f_t_formRing, .int f_t_formMany, .ref h_t_best, .ref h_t_next, .ref h_t_ways, .ref h_t_round, .ref h_t_roughs, .int f_t_latest])), (h_t_w, .inl (cA, 190, .inl f_t_w))] sz) := by
  refine Met.ofW (cc := cX11_add) (maxL := 2) (ret := (some .int)) (by decide) rfl ?_
  intro p e s m args below meth c s₁ B hml hv
  obtain ⟨rfl, hsz, hP, hK, hD0⟩ := hv
  refine W_gen (fun Q hQ => ?_)
  have hx := B.exec
  have hb := B.bytes
  have hr := B.returns
  have hts := atoms_spec (ws := wsX11_add) B.pre
  have hown : s.vm.findClass RX11 = some m.cls := findClass_of_methodNamed B.named
  have hlocks := B.notSynchronized
  subst hsz
  have hD := hD0.self (sz := s.heap.size)
  clear hD0
  generalize hAe : va_A [(h_t, .inr (10, [.ref h_t_w, .int f_t_known, .int f_t_kept, .int f_t_seed, .ref h_t_imageSeed, .ref h_t_bookOf, .ref h_t_bookIs, .int f_t_written, .ref h_t_forms, .int f_t_formRing, .int f_t_formMany, .ref h_t_best, .ref h_t_next, .ref h_t_ways, .ref h_t_round, .ref h_t_roughs, .int f_t_latest])), (h_t_w, .inl (cA, 190, .inl f_t_w))] s.heap.size = A at hD hQ
  have hA : ∀ q : Nat, s.heap.size ≤ q → A q := fun q h => by rw [← hAe]; exact Or.inr h
  clear hAe
  have hS : va_S A s.heap s.heap [] := va_S.rf
  have hl := lv_entry ([.ref h_t, .int a1]) (n := 2) (Nat.le_of_ble_eq_true rfl)
  rw [lg_entry_eq]
  generalize (lg_sl ([.ref h_t, .int a1]) ++ List.replicate (2 - (lg_sl ([.ref h_t, .int a1])).length) Slot.unset).toArray = ls at hl ⊢
  have hl : lv_has ls 2 [(0, .ref h_t), (1, .int a1)] := hl
  have k1 := hts (.fieldLink RX11 7 "ToneSetsModel" "w" "[I") (List.mem_of_getElem? (i := 1) rfl)
  have uX11 := uX11_X11_add
  unfold m_Md_add at hm
  refine lv_aload_n hx hb dX11_add_0 rfl (lv_at hl 0 rfl) ?_
  obtain ⟨f_t_known_1, f_t_w_1, hc1, hm⟩ := bd2_go hm
  refine my_cVv (As := []) (rest := []) (WC := [(h_t, .inr (10, [.ref h_t_w, .int f_t_known, .int f_t_kept, .int f_t_seed, .ref h_t_imageSeed, .ref h_t_bookOf, .ref h_t_bookIs, .int f_t_written, .ref h_t_forms, .int f_t_formRing, .int f_t_formMany, .ref h_t_best, .ref h_t_next, .ref h_t_ways, .ref h_t_round, .ref h_t_roughs, .int f_t_latest])), (h_t_w, .inl (cA, 190, .inl f_t_w))]) (WC' := [(h_t, .inr (10, [.ref h_t_w, .int f_t_known_1, .int f_t_kept, .int f_t_seed, .ref h_t_imageSeed, .ref h_t_bookOf, .ref h_t_bookIs, .int f_t_written, .ref h_t_forms, .int f_t_formRing, .int f_t_formMany, .ref h_t_best, .ref h_t_next, .ref h_t_ways, .ref h_t_round, .ref h_t_roughs, .int f_t_latest])), (h_t_w, .inl (cA, 190, .inl f_t_w_1))]) (WR := []) (W' := [(h_t, .inr (10, [.ref h_t_w, .int f_t_known_1, .int f_t_kept, .int f_t_seed, .ref h_t_imageSeed, .ref h_t_bookOf, .ref h_t_bookIs, .int f_t_written, .ref h_t_forms, .int f_t_formRing, .int f_t_formMany, .ref h_t_best, .ref h_t_next, .ref h_t_ways, .ref h_t_round, .ref h_t_roughs, .int f_t_latest])), (h_t_w, .inl (cA, 190, .inl f_t_w_1))]) ⟨hx, hb, hml, hown, hts⟩ hK hP hD hS hA (c_Md_remember l dC dI cA fu h_t h_t_w h_t_imageSeed h_t_bookOf h_t_bookIs h_t_forms h_t_best h_t_next h_t_ways h_t_round h_t_roughs f_t_known f_t_kept f_t_seed f_t_written f_t_formRing f_t_formMany f_t_latest f_t_w f_t_known_1 f_t_w_1 hc1) (cwV 0 hts gX11_add_X11_remember rfl rfl rfl (by decide +kernel) ⟨Nat.le_of_ble_eq_true rfl, Nat.le_of_ble_eq_true rfl⟩) [0, 1] [] [0, 1] rfl rfl rfl rfl (ci := 10) (q0 := 0) rfl rfl rfl rfl hl.1 (Nat.le_of_ble_eq_true rfl) dX11_add_1 ⟨Nat.zero_le _, Nat.zero_le _⟩ (fun H locs hP hD hS => ?_)
  refine lv_aload_n hx hb dX11_add_4 rfl (lv_at hl 0 rfl) ?_
  refine va_get (D := (dC, dI)) (ci := 10) (v := .ref h_t_w) (C := RX11) (T := TX11) (N := 17) hx hb hts uX11 hown hK hP 0 rfl rfl 0 (by decide) k1 (fun _ h9 => h9) rfl dX11_add_5 ?_
  refine lv_iconst (v := 2) hx hb dX11_add_8 (by decide) ?_
  refine lv_aload_n hx hb dX11_add_9 rfl (lv_at hl 0 rfl) ?_
  refine va_get (D := (dC, dI)) (ci := 10) (v := .ref h_t_w) (C := RX11) (T := TX11) (N := 17) hx hb hts uX11 hown hK hP 0 rfl rfl 0 (by decide) k1 (fun _ h9 => h9) rfl dX11_add_10 ?_
  refine lv_iconst (v := 1) hx hb dX11_add_13 (by decide) ?_
  obtain ⟨b14, hm⟩ := ck_go hm
  refine va_iald hx hb hK hP 1 0 rfl rfl b14 dX11_add_14 ?_
  refine lv_iadd hx hb dX11_add_15 ?_
  refine lv_iload_n hx hb dX11_add_16 rfl (lv_at hl 1 rfl) ?_
  obtain ⟨b17, hm⟩ := ck_go hm
  refine my_iast (W' := fun z' => [(h_t, .inr (10, [.ref h_t_w, .int f_t_known_1, .int f_t_kept, .int f_t_seed, .ref h_t_imageSeed, .ref h_t_bookOf, .ref h_t_bookIs, .int f_t_written, .ref h_t_forms, .int f_t_formRing, .int f_t_formMany, .ref h_t_best, .ref h_t_next, .ref h_t_ways, .ref h_t_round, .ref h_t_roughs, .int f_t_latest])), (h_t_w, .inl (cA, 190, .inl z'))]) hx hb hK hP hD hS 1 0 rfl rfl b17 dX11_add_17 (fun _ => rfl) (fun f_t_w_2 ef_t_w_2 H locs hP hD hS => ?_)
  replace hm := lt_go ef_t_w_2 hm
  refine lv_aload_n hx hb dX11_add_18 rfl (lv_at hl 0 rfl) ?_
  refine va_get (D := (dC, dI)) (ci := 10) (v := .ref h_t_w) (C := RX11) (T := TX11) (N := 17) hx hb hts uX11 hown hK hP 0 rfl rfl 0 (by decide) k1 (fun _ h9 => h9) rfl dX11_add_19 ?_
  refine lv_iconst (v := 1) hx hb dX11_add_22 (by decide) ?_
  refine lv_dup2_11 hx hb dX11_add_23 rfl rfl ?_
  obtain ⟨b24, hm⟩ := ck_go hm
  refine va_iald hx hb hK hP 1 0 rfl rfl b24 dX11_add_24 ?_
  refine lv_iconst (v := 1) hx hb dX11_add_25 (by decide) ?_
  refine lv_iadd hx hb dX11_add_26 ?_
  obtain ⟨b27, hm⟩ := ck_go hm
  refine my_iast (W' := fun z' => [(h_t, .inr (10, [.ref h_t_w, .int f_t_known_1, .int f_t_kept, .int f_t_seed, .ref h_t_imageSeed, .ref h_t_bookOf, .ref h_t_bookIs, .int f_t_written, .ref h_t_forms, .int f_t_formRing, .int f_t_formMany, .ref h_t_best, .ref h_t_next, .ref h_t_ways, .ref h_t_round, .ref h_t_roughs, .int f_t_latest])), (h_t_w, .inl (cA, 190, .inl z'))]) hx hb hK hP hD hS 1 0 rfl rfl b27 dX11_add_27 (fun _ => rfl) (fun f_t_w_3 ef_t_w_3 H locs hP hD hS => ?_)
  replace hm := lt_go ef_t_w_3 hm
  refine lv_aload_n hx hb dX11_add_28 rfl (lv_at hl 0 rfl) ?_
  refine va_get (D := (dC, dI)) (ci := 10) (v := .ref h_t_w) (C := RX11) (T := TX11) (N := 17) hx hb hts uX11 hown hK hP 0 rfl rfl 0 (by decide) k1 (fun _ h9 => h9) rfl dX11_add_29 ?_
  refine lv_iconst (v := 1) hx hb dX11_add_32 (by decide) ?_
  obtain ⟨b33, hm⟩ := ck_go hm
  refine va_iald hx hb hK hP 1 0 rfl rfl b33 dX11_add_33 ?_
  refine lv_iconst (v := 1) hx hb dX11_add_34 (by decide) ?_
  refine lv_isub hx hb dX11_add_35 ?_
  cases hm
  exact W_mono hQ (W.iret hx hb hr (fun t ht hW => ⟨⟨_, (), rfl, rfl, by rw [ht]; exact hP, va_K.moved hW.alike hK, hD⟩, hS.F ht⟩) hS.2.2 dX11_add_36)
abbrev rmX11_m : Room := { frames := 0, cells := 0, slots := 0, locals := 0 }
theorem uX11_X11_m : ∀ w ∈ wsX110, w ∈ wsX11_m := fun _ h => List.mem_cons_of_mem _ (List.mem_append_right _ (h))
set_option maxHeartbeats 40000000 in
set_option maxRecDepth 100000 in
theorem c_Md_m (l : Launch) (dC : Nat → ClassId) (dI : Nat → Nat → Nat) (cA : ClassId) (h_t h_t_w h_t_imageSeed h_t_bookOf h_t_bookIs h_t_forms h_t_best h_t_next h_t_ways h_t_round h_t_roughs : Nat) (f_t_known : Int32) (f_t_kept : Int32) (f_t_seed : Int32) (f_t_written : Int32) (f_t_formRing : Int32) (f_t_formMany : Int32) (f_t_latest : Int32) (f_t_w : Nat → Int32) (r0 : Int32) (hm : m_Md_m f_t_w = some r0) (sz : Nat) : Met l yX11_m wsX11_m rmX11_m (mPre (dC, dI) cA [.ref h_t] sz [(h_t, .inr (10, [.ref h_t_w, .int f_t_known, .int f_t_kept, .int f_t_seed, .ref h_t_imageSeed, .ref h_t_bookOf, .ref h_t_bookIs, .int f_t_written, .ref h_t_forms, .int f_t_formRing, .int f_t_formMany, .ref h_t_best, .ref h_t_next, .ref h_t_ways, .ref h_t_round, .ref h_t_roughs, .int f_t_latest])), (h_t_w, .inl (cA, 190, .inl f_t_w))]) (mPosI (dC, dI) cA r0 (va_A [(h_t, .inr (10, [.ref h_t_w, .int f_t_known, .int f_t_kept, .int f_t_seed, .ref h_t_imageSeed, .ref h_t_bookOf, .ref h_t_bookIs, .int f_t_written, .ref h_t_forms, .int f_t_formRing, .int f_t_formMany, .ref h_t_best, .ref h_t_next, .ref h_t_ways, .ref h_t_round, .ref h_t_roughs, .int f_t_latest])), (h_t_w, .inl (cA, 190, .inl f_t_w))] sz) [(h_t, .inr (10, [.ref h_t_w, .int f_t_known, .int f_t_kept, .int f_t_seed, .ref h_t_imageSeed, .ref h_t_bookOf, .ref h_t_bookIs, .int f_t_written, .ref h_t_forms, .int f_t_formRing, .int f_t_formMany, .ref h_t_best, .ref h_t_next, .ref h_t_ways, .ref h_t_round, .ref h_t_roughs, .int f_t_latest])), (h_t_w, .inl (cA, 190, .inl f_t_w))]) 0 0 (va_A [(h_t, .inr (10, [.ref h_t_w, .int f_t_known, .int f_t_kept, .int f_t_seed, .ref h_t_imageSeed, .ref h_t_bookOf, .ref h_t_bookIs, .int f_t_written, .ref h_t_forms, .int f_t_formRing, .int f_t_formMany, .ref h_t_best, .ref h_t_next, .ref h_t_ways, .ref h_t_round, .ref h_t_roughs, .int f_t_latest])), (h_t_w, .inl (cA, 190, .inl f_t_w))] sz) := by
  refine Met.ofW (cc := cX11_m) (maxL := 1) (ret := (some .int)) (by decide) rfl ?_
  intro p e s m args below meth c s₁ B hml hv
  obtain ⟨rfl, hsz, hP, hK, hD0⟩ := hv
  refine W_gen (fun Q hQ => ?_)
  have hx := B.exec
  have hb := B.bytes
  have hr := B.returns
  have hts := atoms_spec (ws := wsX11_m) B.pre
  have hown : s.vm.findClass RX11 = some m.cls := findClass_of_methodNamed B.named
  have hlocks := B.notSynchronized
  subst hsz
  have hD := hD0.self (sz := s.heap.size)
  clear hD0
  generalize hAe : va_A [(h_t, .inr (10, [.ref h_t_w, .int f_t_known, .int f_t_kept, .int f_t_seed, .ref h_t_imageSeed, .ref h_t_bookOf, .ref h_t_bookIs, .int f_t_written, .ref h_t_forms, .int f_t_formRing, .int f_t_formMany, .ref h_t_best, .ref h_t_next, .ref h_t_ways, .ref h_t_round, .ref h_t_roughs, .int f_t_latest])), (h_t_w, .inl (cA, 190, .inl f_t_w))] s.heap.size = A at hD hQ
  have hA : ∀ q : Nat, s.heap.size ≤ q → A q := fun q h => by rw [← hAe]; exact Or.inr h
  clear hAe
  have hS : va_S A s.heap s.heap [] := va_S.rf
  have hl := lv_entry ([.ref h_t]) (n := 1) (Nat.le_of_ble_eq_true rfl)
  rw [lg_entry_eq]
  generalize (lg_sl ([.ref h_t]) ++ List.replicate (1 - (lg_sl ([.ref h_t])).length) Slot.unset).toArray = ls at hl ⊢
  have hl : lv_has ls 1 [(0, .ref h_t)] := hl
  have k1 := hts (.fieldLink RX11 7 "ToneSetsModel" "w" "[I") (List.mem_of_getElem? (i := 1) rfl)
  have uX11 := uX11_X11_m
  unfold m_Md_m at hm
  refine lv_aload_n hx hb dX11_m_0 rfl (lv_at hl 0 rfl) ?_
  refine va_get (D := (dC, dI)) (ci := 10) (v := .ref h_t_w) (C := RX11) (T := TX11) (N := 17) hx hb hts uX11 hown hK hP 0 rfl rfl 0 (by decide) k1 (fun _ h9 => h9) rfl dX11_m_1 ?_
  refine lv_iconst (v := 0) hx hb dX11_m_4 (by decide) ?_
  obtain ⟨b5, hm⟩ := ck_go hm
  refine va_iald hx hb hK hP 1 0 rfl rfl b5 dX11_m_5 ?_
  cases hm
  exact W_mono hQ (W.iret hx hb hr (fun t ht hW => ⟨⟨_, (), rfl, rfl, by rw [ht]; exact hP, va_K.moved hW.alike hK, hD⟩, hS.F ht⟩) hS.2.2 dX11_m_6)
abbrev rmX11_apart : Room := { frames := 1, cells := 0, slots := 0, locals := 20 }
set_option maxHeartbeats 40000000 in
set_option maxRecDepth 100000 in
theorem c_Md_apart (l : Launch) (dC : Nat → ClassId) (dI : Nat → Nat → Nat) (cA : ClassId) (h_t h_t_w h_t_imageSeed h_t_bookOf h_t_bookIs h_t_forms h_t_best h_t_next h_t_ways h_t_round h_t_roughs : Nat) (f_t_known : Int32) (f_t_kept : Int32) (f_t_seed : Int32) (f_t_written : Int32) (f_t_formRing : Int32) (f_t_formMany : Int32) (f_t_latest : Int32) (f_t_w : Nat → Int32) (a1 : Int32) (a2 : Int32) (r0 : Int32) (hm : m_Md_apart f_t_w a1 a2 = some r0) (sz : Nat) : Met l yX11_apart wsX11_apart rmX11_apart (mPre (dC, dI) cA [.ref h_t, .int a1, .int a2] sz [(h_t, .inr (10, [.ref h_t_w, .int f_t_known, .int f_t_kept, .int f_t_seed, .ref h_t_imageSeed, .ref h_t_bookOf, .ref h_t_bookIs, .int f_t_written, .ref h_t_forms, .int f_t_formRing, .int f_t_formMany, .ref h_t_best, .ref h_t_next, .ref h_t_ways, .ref h_t_round, .ref h_t_roughs, .int f_t_latest])), (h_t_w, .inl (cA, 190, .inl f_t_w))]) (mPosI (dC, dI) cA r0 (va_A [(h_t, .inr (10, [.ref h_t_w, .int f_t_known, .int f_t_kept, .int f_t_seed, .ref h_t_imageSeed, .ref h_t_bookOf, .ref h_t_bookIs, .int f_t_written, .ref h_t_forms, .int f_t_formRing, .int f_t_formMany, .ref h_t_best, .ref h_t_next, .ref h_t_ways, .ref h_t_round, .ref h_t_roughs, .int f_t_latest])), (h_t_w, .inl (cA, 190, .inl f_t_w))] sz) [(h_t, .inr (10, [.ref h_t_w, .int f_t_known, .int f_t_kept, .int f_t_seed, .ref h_t_imageSeed, .ref h_t_bookOf, .ref h_t_bookIs, .int f_t_written, .ref h_t_forms, .int f_t_formRing, .int f_t_formMany, .ref h_t_best, .ref h_t_next, .ref h_t_ways, .ref h_t_round, .ref h_t_roughs, .int f_t_latest])), (h_t_w, .inl (cA, 190, .inl f_t_w))]) 0 0 (va_A [(h_t, .inr (10, [.ref h_t_w, .int f_t_known, .int f_t_kept, .int f_t_seed, .ref h_t_imageSeed, .ref h_t_bookOf, .ref h_t_bookIs, .int f_t_written, .ref h_t_forms, .int f_t_formRing, .int f_t_formMany, .ref h_t_best, .ref h_t_next, .ref h_t_ways, .ref h_t_round, .ref h_t_roughs, .int f_t_latest])), (h_t_w, .inl (cA, 190, .inl f_t_w))] sz) := by
  refine Met.ofW (cc := cX11_apart) (maxL := 4) (ret := (some .int)) (by decide) rfl ?_
  intro p e s m args below meth c s₁ B hml hv
  obtain ⟨rfl, hsz, hP, hK, hD0⟩ := hv
  refine W_gen (fun Q hQ => ?_)
  have hx := B.exec
  have hb := B.bytes
  have hr := B.returns
  have hts := atoms_spec (ws := wsX11_apart) B.pre
  have hown : s.vm.findClass RX11 = some m.cls := findClass_of_methodNamed B.named
  have hlocks := B.notSynchronized
  subst hsz
  have hD := hD0.self (sz := s.heap.size)
  clear hD0
  generalize hAe : va_A [(h_t, .inr (10, [.ref h_t_w, .int f_t_known, .int f_t_kept, .int f_t_seed, .ref h_t_imageSeed, .ref h_t_bookOf, .ref h_t_bookIs, .int f_t_written, .ref h_t_forms, .int f_t_formRing, .int f_t_formMany, .ref h_t_best, .ref h_t_next, .ref h_t_ways, .ref h_t_round, .ref h_t_roughs, .int f_t_latest])), (h_t_w, .inl (cA, 190, .inl f_t_w))] s.heap.size = A at hD hQ
  have hA : ∀ q : Nat, s.heap.size ≤ q → A q := fun q h => by rw [← hAe]; exact Or.inr h
  clear hAe
  have hS : va_S A s.heap s.heap [] := va_S.rf
  have hl := lv_entry ([.ref h_t, .int a1, .int a2]) (n := 4) (Nat.le_of_ble_eq_true rfl)
  rw [lg_entry_eq]
  generalize (lg_sl ([.ref h_t, .int a1, .int a2]) ++ List.replicate (4 - (lg_sl ([.ref h_t, .int a1, .int a2])).length) Slot.unset).toArray = ls at hl ⊢
  have hl : lv_has ls 4 [(0, .ref h_t), (1, .int a1), (2, .int a2)] := hl
  unfold m_Md_apart at hm
  refine lv_iload_n hx hb dX11_apart_0 rfl (lv_at hl 1 rfl) ?_
  refine lv_iload_n hx hb dX11_apart_1 rfl (lv_at hl 2 rfl) ?_
  obtain ⟨q14_1, hqJ_1, hm⟩ := bd1_go hm
  have J_1 : ∀ (H : Heap) (locs : List Loc), va_P (dC, dI) vwCl [(h_t, .inr (10, [.ref h_t_w, .int f_t_known, .int f_t_kept, .int f_t_seed, .ref h_t_imageSeed, .ref h_t_bookOf, .ref h_t_bookIs, .int f_t_written, .ref h_t_forms, .int f_t_formRing, .int f_t_formMany, .ref h_t_best, .ref h_t_next, .ref h_t_ways, .ref h_t_round, .ref h_t_roughs, .int f_t_latest])), (h_t_w, .inl (cA, 190, .inl f_t_w))] H → va_D A [(h_t, .inr (10, [.ref h_t_w, .int f_t_known, .int f_t_kept, .int f_t_seed, .ref h_t_imageSeed, .ref h_t_bookOf, .ref h_t_bookIs, .int f_t_written, .ref h_t_forms, .int f_t_formRing, .int f_t_formMany, .ref h_t_best, .ref h_t_next, .ref h_t_ways, .ref h_t_round, .ref h_t_roughs, .int f_t_latest])), (h_t_w, .inl (cA, 190, .inl f_t_w))] → va_S A s.heap H locs → ∀ ls : Array Slot, lv_has ls 4 [(0, .ref h_t)] → W p l e (headSpec wsX11_apart rmX11_apart).room s m (([.ref h_t, .int a1, .int a2] : List Value).toArray) below meth c H locs 0 0 Q (F0 m 14 ls [.int q14_1]) := by
    intro H locs hP hD hS ls hl
    clear hqJ_1
    refine lv_topi (fun v3_1 ev3_1 => ?_)
    replace hm := lt_go ev3_1 hm
    refine lv_istore_n (lv' := [(3, .int v3_1), (0, .ref h_t)]) hx hb dX11_apart_14 rfl hl (by decide) rfl (fun ls hl => ?_)
    refine lv_iload_n hx hb dX11_apart_15 rfl (lv_at hl 0 rfl) ?_
    refine lv_aload_n hx hb dX11_apart_16 rfl (lv_at hl 1 rfl) ?_
    obtain ⟨r_1, hc17, hm⟩ := bd1_go hm
    refine my_cVi (As := []) (rest := [.int v3_1]) (WC := [(h_t, .inr (10, [.ref h_t_w, .int f_t_known, .int f_t_kept, .int f_t_seed, .ref h_t_imageSeed, .ref h_t_bookOf, .ref h_t_bookIs, .int f_t_written, .ref h_t_forms, .int f_t_formRing, .int f_t_formMany, .ref h_t_best, .ref h_t_next, .ref h_t_ways, .ref h_t_round, .ref h_t_roughs, .int f_t_latest])), (h_t_w, .inl (cA, 190, .inl f_t_w))]) (WC' := [(h_t, .inr (10, [.ref h_t_w, .int f_t_known, .int f_t_kept, .int f_t_seed, .ref h_t_imageSeed, .ref h_t_bookOf, .ref h_t_bookIs, .int f_t_written, .ref h_t_forms, .int f_t_formRing, .int f_t_formMany, .ref h_t_best, .ref h_t_next, .ref h_t_ways, .ref h_t_round, .ref h_t_roughs, .int f_t_latest])), (h_t_w, .inl (cA, 190, .inl f_t_w))]) (WR := []) (W' := [(h_t, .inr (10, [.ref h_t_w, .int f_t_known, .int f_t_kept, .int f_t_seed, .ref h_t_imageSeed, .ref h_t_bookOf, .ref h_t_bookIs, .int f_t_written, .ref h_t_forms, .int f_t_formRing, .int f_t_formMany, .ref h_t_best, .ref h_t_next, .ref h_t_ways, .ref h_t_round, .ref h_t_roughs, .int f_t_latest])), (h_t_w, .inl (cA, 190, .inl f_t_w))]) ⟨hx, hb, hml, hown, hts⟩ hK hP hD hS hA (c_Md_m l dC dI cA h_t h_t_w h_t_imageSeed h_t_bookOf h_t_bookIs h_t_forms h_t_best h_t_next h_t_ways h_t_round h_t_roughs f_t_known f_t_kept f_t_seed f_t_written f_t_formRing f_t_formMany f_t_latest f_t_w r_1 hc17) (cwV 0 hts gX11_apart_X11_m rfl rfl rfl (by decide +kernel) ⟨Nat.le_of_ble_eq_true rfl, Nat.le_of_ble_eq_true rfl⟩) [0, 1] [] [0, 1] rfl rfl rfl rfl (ci := 10) (q0 := 0) rfl rfl rfl rfl hl.1 (Nat.le_of_ble_eq_true rfl) dX11_apart_17 ⟨Nat.zero_le _, Nat.zero_le _⟩ (fun H locs hP hD hS => ?_)
    refine lv_iload_n hx hb dX11_apart_20 rfl (lv_at hl 0 rfl) ?_
    refine lv_isub hx hb dX11_apart_21 ?_
    refine lv_icmp_ge (tgt := 29) hx hb dX11_apart_22 (by decide) (fun c22 => ?_) (fun c22 => ?_)
    · replace hm := if_t c22 hm
      refine lv_aload_n hx hb dX11_apart_29 rfl (lv_at hl 1 rfl) ?_
      obtain ⟨r_2, hc30, hm⟩ := bd1_go hm
      refine my_cVi (As := []) (rest := []) (WC := [(h_t, .inr (10, [.ref h_t_w, .int f_t_known, .int f_t_kept, .int f_t_seed, .ref h_t_imageSeed, .ref h_t_bookOf, .ref h_t_bookIs, .int f_t_written, .ref h_t_forms, .int f_t_formRing, .int f_t_formMany, .ref h_t_best, .ref h_t_next, .ref h_t_ways, .ref h_t_round, .ref h_t_roughs, .int f_t_latest])), (h_t_w, .inl (cA, 190, .inl f_t_w))]) (WC' := [(h_t, .inr (10, [.ref h_t_w, .int f_t_known, .int f_t_kept, .int f_t_seed, .ref h_t_imageSeed, .ref h_t_bookOf, .ref h_t_bookIs, .int f_t_written, .ref h_t_forms, .int f_t_formRing, .int f_t_formMany, .ref h_t_best, .ref h_t_next, .ref h_t_ways, .ref h_t_round, .ref h_t_roughs, .int f_t_latest])), (h_t_w, .inl (cA, 190, .inl f_t_w))]) (WR := []) (W' := [(h_t, .inr (10, [.ref h_t_w, .int f_t_known, .int f_t_kept, .int f_t_seed, .ref h_t_imageSeed, .ref h_t_bookOf, .ref h_t_bookIs, .int f_t_written, .ref h_t_forms, .int f_t_formRing, .int f_t_formMany, .ref h_t_best, .ref h_t_next, .ref h_t_ways, .ref h_t_round, .ref h_t_roughs, .int f_t_latest])), (h_t_w, .inl (cA, 190, .inl f_t_w))]) ⟨hx, hb, hml, hown, hts⟩ hK hP hD hS hA (c_Md_m l dC dI cA h_t h_t_w h_t_imageSeed h_t_bookOf h_t_bookIs h_t_forms h_t_best h_t_next h_t_ways h_t_round h_t_roughs f_t_known f_t_kept f_t_seed f_t_written f_t_formRing f_t_formMany f_t_latest f_t_w r_2 hc30) (cwV 0 hts gX11_apart_X11_m rfl rfl rfl (by decide +kernel) ⟨Nat.le_of_ble_eq_true rfl, Nat.le_of_ble_eq_true rfl⟩) [0, 1] [] [0, 1] rfl rfl rfl rfl (ci := 10) (q0 := 0) rfl rfl rfl rfl hl.1 (Nat.le_of_ble_eq_true rfl) dX11_apart_30 ⟨Nat.zero_le _, Nat.zero_le _⟩ (fun H locs hP hD hS => ?_)
      refine lv_iload_n hx hb dX11_apart_33 rfl (lv_at hl 0 rfl) ?_
      refine lv_isub hx hb dX11_apart_34 ?_
      cases hm
      exact W_mono hQ (W.iret hx hb hr (fun t ht hW => ⟨⟨_, (), rfl, rfl, by rw [ht]; exact hP, va_K.moved hW.alike hK, hD⟩, hS.F ht⟩) hS.2.2 dX11_apart_35)
    · replace hm := if_f c22 hm
      refine lv_iload_n hx hb dX11_apart_25 rfl (lv_at hl 0 rfl) ?_
      refine lv_goto (tgt := 35) hx hb dX11_apart_26 (by decide) ?_
      cases hm
      exact W_mono hQ (W.iret hx hb hr (fun t ht hW => ⟨⟨_, (), rfl, rfl, by rw [ht]; exact hP, va_K.moved hW.alike hK, hD⟩, hS.F ht⟩) hS.2.2 dX11_apart_35)
  clear hm
  refine lv_icmp_ge (tgt := 11) hx hb dX11_apart_2 (by decide) (fun c2 => ?_) (fun c2 => ?_)
  · replace hqJ_1 := if_t c2 hqJ_1
    refine lv_iload_n hx hb dX11_apart_11 rfl (lv_at hl 1 rfl) ?_
    refine lv_iload_n hx hb dX11_apart_12 rfl (lv_at hl 2 rfl) ?_
    refine lv_isub hx hb dX11_apart_13 ?_
    cases hqJ_1
    exact J_1 _ _ hP hD hS _ (lv_sub hl [0] rfl)
  · replace hqJ_1 := if_f c2 hqJ_1
    refine lv_iload_n hx hb dX11_apart_5 rfl (lv_at hl 2 rfl) ?_
    refine lv_iload_n hx hb dX11_apart_6 rfl (lv_at hl 1 rfl) ?_
    refine lv_isub hx hb dX11_apart_7 ?_
    refine lv_goto (tgt := 14) hx hb dX11_apart_8 (by decide) ?_
    cases hqJ_1
    exact J_1 _ _ hP hD hS _ (lv_sub hl [0] rfl)
abbrev rmX11_ones : Room := { frames := 0, cells := 0, slots := 0, locals := 0 }
set_option maxHeartbeats 40000000 in
set_option maxRecDepth 100000 in
theorem c_Md_ones (l : Launch) (dC : Nat → ClassId) (dI : Nat → Nat → Nat) (cA : ClassId) (fu : Nat) (a0 : Int32) (r0 : Int32) (hm : m_Md_ones fu a0 = some r0) (sz : Nat) : Met l yX11_ones wsX11_ones rmX11_ones (mPre (dC, dI) cA [.int a0] sz []) (mPosI (dC, dI) cA r0 (va_A [] sz) []) 0 0 (va_A [] sz) := by
  refine Met.ofW (cc := cX11_ones) (maxL := 3) (ret := (some .int)) (by decide) rfl ?_
  intro p e s m args below meth c s₁ B hml hv
  obtain ⟨rfl, hsz, hP, hK, hD0⟩ := hv
  refine W_gen (fun Q hQ => ?_)
  have hx := B.exec
  have hb := B.bytes
  have hr := B.returns
  have hts := atoms_spec (ws := wsX11_ones) B.pre
  have hown : s.vm.findClass RX11 = some m.cls := findClass_of_methodNamed B.named
  have hlocks := B.notSynchronized
  subst hsz
  have hD := hD0.self (sz := s.heap.size)
  clear hD0
  generalize hAe : va_A [] s.heap.size = A at hD hQ
  have hA : ∀ q : Nat, s.heap.size ≤ q → A q := fun q h => by rw [← hAe]; exact Or.inr h
  clear hAe
  have hS : va_S A s.heap s.heap [] := va_S.rf
  have hl := lv_entry ([.int a0]) (n := 3) (Nat.le_of_ble_eq_true rfl)
  rw [lg_entry_eq]
  generalize (lg_sl ([.int a0]) ++ List.replicate (3 - (lg_sl ([.int a0])).length) Slot.unset).toArray = ls at hl ⊢
  have hl : lv_has ls 3 [(0, .int a0)] := hl
  unfold m_Md_ones at hm
  refine lv_iconst (v := 0) hx hb dX11_ones_0 (by decide) ?_
  refine lv_topi (fun v1_1 ev1_1 => ?_)
  replace hm := lt_go ev1_1 hm
  refine lv_istore_n (lv' := [(1, .int v1_1), (0, .int a0)]) hx hb dX11_ones_1 rfl hl (by decide) rfl (fun ls hl => ?_)
  refine lv_iconst (v := 0) hx hb dX11_ones_2 (by decide) ?_
  refine lv_topi (fun v2_1 ev2_1 => ?_)
  replace hm := lt_go ev2_1 hm
  refine lv_istore_n (lv' := [(2, .int v2_1), (1, .int v1_1), (0, .int a0)]) hx hb dX11_ones_3 rfl hl (by decide) rfl (fun ls hl => ?_)
  have L4 : ∀ (n : Nat) (v1_2 : Int32) (v2_2 : Int32) (v1_3 : Int32), m_Md_ones_L4 a0 n v1_2 v2_2 = some v1_3 → ∀ (H : Heap) (locs : List Loc), va_P (dC, dI) vwCl [] H → va_D A [] → va_S A s.heap H locs → ∀ ls : Array Slot, lv_has ls 3 [(0, .int a0), (1, .int v1_2), (2, .int v2_2)] → (∀ (H : Heap) (locs : List Loc), va_P (dC, dI) vwCl [] H → va_D A [] → va_S A s.heap H locs → ∀ ls : Array Slot, lv_has ls 3 [(1, .int v1_3)] → W p l e (headSpec wsX11_ones rmX11_ones).room s m (([.int a0] : List Value).toArray) below meth c H locs 0 0 Q (F0 m 24 ls [])) → W p l e (headSpec wsX11_ones rmX11_ones).room s m (([.int a0] : List Value).toArray) below meth c H locs 0 0 Q (F0 m 4 ls []) := by
    clear hm hP hD hS hl
    intro n
    induction n with
    | zero => intro _ _ _ hm; exact nomatch (show none = some _ from hm)
    | succ n ih =>
      intro v1_2 v2_2 v1_3 hm H locs hP hD hS ls hl KK
      unfold m_Md_ones_L4 at hm
      refine lv_iload_n hx hb dX11_ones_4 rfl (lv_at hl 2 rfl) ?_
      refine lv_bipush (v := 12) hx hb dX11_ones_5 (by decide) ?_
      refine lv_icmp_ge (tgt := 24) hx hb dX11_ones_7 (by decide) (fun c7 => ?_) (fun c7 => ?_)
      · replace hm := if_t c7 hm
        cases hm
        exact KK _ _ hP hD hS _ (lv_sub hl [1] rfl)
      · replace hm := if_f c7 hm
        refine lv_iload_n hx hb dX11_ones_10 rfl (lv_at hl 1 rfl) ?_
        refine lv_iload_n hx hb dX11_ones_11 rfl (lv_at hl 0 rfl) ?_
        refine lv_iload_n hx hb dX11_ones_12 rfl (lv_at hl 2 rfl) ?_
        refine lv_ishr hx hb dX11_ones_13 ?_
        refine lv_iconst (v := 1) hx hb dX11_ones_14 (by decide) ?_
        refine lv_iand hx hb dX11_ones_15 ?_
        refine lv_iadd hx hb dX11_ones_16 ?_
        refine lv_topi (fun v1_4 ev1_4 => ?_)
        replace hm := lt_go ev1_4 hm
        refine lv_istore_n (lv' := [(1, .int v1_4), (0, .int a0), (2, .int v2_2)]) hx hb dX11_ones_17 rfl hl (by decide) rfl (fun ls hl => ?_)
        obtain ⟨v2_3, ev2_3⟩ : ∃ z : Int32, z = v2_2 + 1 := ⟨_, rfl⟩
        replace hm := lt_go ev2_3 hm
        refine lv_iinc (v := v2_3) (lv' := [(2, .int v2_3), (1, .int v1_4), (0, .int a0)]) hx hb dX11_ones_18 hl (k := 2) rfl (by rw [ev2_3]; rfl) (by decide) rfl (fun ls hl => ?_)
        refine lv_goto (tgt := 4) hx hb dX11_ones_21 (by decide) ?_
        exact ih _ _ _ hm _ _ hP hD hS _ (lv_sub hl [2, 1, 0] rfl) KK
  obtain ⟨v1_5, hl4, hm⟩ := bd1_go hm
  refine L4 _ _ _ _ hl4 _ _ hP hD hS _ (lv_sub hl [2, 1, 0] rfl) (fun H locs hP hD hS ls hl => ?_)
  refine lv_iload_n hx hb dX11_ones_24 rfl (lv_at hl 0 rfl) ?_
  cases hm
  exact W_mono hQ (W.iret hx hb hr (fun t ht hW => ⟨⟨_, (), rfl, rfl, by rw [ht]; exact hP, va_K.moved hW.alike hK, hD⟩, hS.F ht⟩) hS.2.2 dX11_ones_25)
abbrev rmX11_has : Room := { frames := 0, cells := 0, slots := 0, locals := 0 }
set_option maxHeartbeats 40000000 in
set_option maxRecDepth 100000 in
theorem c_Md_has (l : Launch) (dC : Nat → ClassId) (dI : Nat → Nat → Nat) (cA : ClassId) (a0 : Int32) (a1 : Int32) (r0 : Int32) (hm : m_Md_has a0 a1 = some r0) (sz : Nat) : Met l yX11_has wsX11_has rmX11_has (mPre (dC, dI) cA [.int a0, .int a1] sz []) (mPosI (dC, dI) cA r0 (va_A [] sz) []) 0 0 (va_A [] sz) := by
  refine Met.ofW (cc := cX11_has) (maxL := 2) (ret := (some .boolean)) (by decide) rfl ?_
  intro p e s m args below meth c s₁ B hml hv
  obtain ⟨rfl, hsz, hP, hK, hD0⟩ := hv
  refine W_gen (fun Q hQ => ?_)
  have hx := B.exec
  have hb := B.bytes
  have hr := B.returns
  have hts := atoms_spec (ws := wsX11_has) B.pre
  have hown : s.vm.findClass RX11 = some m.cls := findClass_of_methodNamed B.named
  have hlocks := B.notSynchronized
  subst hsz
  have hD := hD0.self (sz := s.heap.size)
  clear hD0
  generalize hAe : va_A [] s.heap.size = A at hD hQ
  have hA : ∀ q : Nat, s.heap.size ≤ q → A q := fun q h => by rw [← hAe]; exact Or.inr h
  clear hAe
  have hS : va_S A s.heap s.heap [] := va_S.rf
  have hl := lv_entry ([.int a0, .int a1]) (n := 2) (Nat.le_of_ble_eq_true rfl)
  rw [lg_entry_eq]
  generalize (lg_sl ([.int a0, .int a1]) ++ List.replicate (2 - (lg_sl ([.int a0, .int a1])).length) Slot.unset).toArray = ls at hl ⊢
  have hl : lv_has ls 2 [(0, .int a0), (1, .int a1)] := hl
  unfold m_Md_has at hm
  refine lv_iload_n hx hb dX11_has_0 rfl (lv_at hl 0 rfl) ?_
  refine lv_iload_n hx hb dX11_has_1 rfl (lv_at hl 1 rfl) ?_
  refine lv_ishr hx hb dX11_has_2 ?_
  refine lv_iconst (v := 1) hx hb dX11_has_3 (by decide) ?_
  refine lv_iand hx hb dX11_has_4 ?_
  refine lv_iconst (v := 1) hx hb dX11_has_5 (by decide) ?_
  refine lv_icmp_ne (tgt := 13) hx hb dX11_has_6 (by decide) (fun c6 => ?_) (fun c6 => ?_)
  · replace hm := if_f c6 hm
    refine lv_iconst (v := 0) hx hb dX11_has_13 (by decide) ?_
    cases hm
    exact W_mono hQ (W.zret hx hb hr rfl (fun t ht hW => ⟨⟨_, (), rfl, rfl, by rw [ht]; exact hP, va_K.moved hW.alike hK, hD⟩, hS.F ht⟩) hS.2.2 dX11_has_14)
  · replace hm := if_t c6 hm
    refine lv_iconst (v := 1) hx hb dX11_has_9 (by decide) ?_
    refine lv_goto (tgt := 14) hx hb dX11_has_10 (by decide) ?_
    cases hm
    exact W_mono hQ (W.zret hx hb hr rfl (fun t ht hW => ⟨⟨_, (), rfl, rfl, by rw [ht]; exact hP, va_K.moved hW.alike hK, hD⟩, hS.F ht⟩) hS.2.2 dX11_has_14)
abbrev rmX11_pairsApart : Room := { frames := 2, cells := 0, slots := 0, locals := 43 }
set_option maxHeartbeats 40000000 in
set_option maxRecDepth 100000 in
theorem c_Md_pairsApart (l : Launch) (dC : Nat → ClassId) (dI : Nat → Nat → Nat) (cA : ClassId) (fu : Nat) (h_t h_t_w h_t_imageSeed h_t_bookOf h_t_bookIs h_t_forms h_t_best h_t_next h_t_ways h_t_round h_t_roughs : Nat) (f_t_known : Int32) (f_t_kept : Int32) (f_t_seed : Int32) (f_t_written : Int32) (f_t_formRing : Int32) (f_t_formMany : Int32) (f_t_latest : Int32) (f_t_w : Nat → Int32) (a1 : Int32) (a2 : Int32) (r0 : Int32) (hm : m_Md_pairsApart fu f_t_w a1 a2 = some r0) (sz : Nat) : Met l yX11_pairsApart wsX11_pairsApart rmX11_pairsApart (mPre (dC, dI) cA [.ref h_t, .int a1, .int a2] sz [(h_t, .inr (10, [.ref h_t_w, .int f_t_known, .int f_t_kept, .int f_t_seed, .ref h_t_imageSeed, .ref h_t_bookOf, .ref h_t_bookIs, .int f_t_written, .ref h_t_forms, .int f_t_formRing, .int f_t_formMany, .ref h_t_best, .ref h_t_next, .ref h_t_ways, .ref h_t_round, .ref h_t_roughs, .int f_t_latest])), (h_t_w, .inl (cA, 190, .inl f_t_w))]) (mPosI (dC, dI) cA r0 (va_A [(h_t, .inr (10, [.ref h_t_w, .int f_t_known, .int f_t_kept, .int f_t_seed, .ref h_t_imageSeed, .ref h_t_bookOf, .ref h_t_bookIs, .int f_t_written, .ref h_t_forms, .int f_t_formRing, .int f_t_formMany, .ref h_t_best, .ref h_t_next, .ref h_t_ways, .ref h_t_round, .ref h_t_roughs, .int f_t_latest])), (h_t_w, .inl (cA, 190, .inl f_t_w))] sz) [(h_t, .inr (10, [.ref h_t_w, .int f_t_known, .int f_t_kept, .int f_t_seed, .ref h_t_imageSeed, .ref h_t_bookOf, .ref h_t_bookIs, .int f_t_written, .ref h_t_forms, .int f_t_formRing, .int f_t_formMany, .ref h_t_best, .ref h_t_next, .ref h_t_ways, .ref h_t_round, .ref h_t_roughs, .int f_t_latest])), (h_t_w, .inl (cA, 190, .inl f_t_w))]) 0 0 (va_A [(h_t, .inr (10, [.ref h_t_w, .int f_t_known, .int f_t_kept, .int f_t_seed, .ref h_t_imageSeed, .ref h_t_bookOf, .ref h_t_bookIs, .int f_t_written, .ref h_t_forms, .int f_t_formRing, .int f_t_formMany, .ref h_t_best, .ref h_t_next, .ref h_t_ways, .ref h_t_round, .ref h_t_roughs, .int f_t_latest])), (h_t_w, .inl (cA, 190, .inl f_t_w))] sz) := by
  refine Met.ofW (cc := cX11_pairsApart) (maxL := 6) (ret := (some .int)) (by decide) rfl ?_
  intro p e s m args below meth c s₁ B hml hv
  obtain ⟨rfl, hsz, hP, hK, hD0⟩ := hv
  refine W_gen (fun Q hQ => ?_)
  have hx := B.exec
  have hb := B.bytes
  have hr := B.returns
  have hts := atoms_spec (ws := wsX11_pairsApart) B.pre
  have hown : s.vm.findClass RX11 = some m.cls := findClass_of_methodNamed B.named
  have hlocks := B.notSynchronized
  subst hsz
  have hD := hD0.self (sz := s.heap.size)
  clear hD0
  generalize hAe : va_A [(h_t, .inr (10, [.ref h_t_w, .int f_t_known, .int f_t_kept, .int f_t_seed, .ref h_t_imageSeed, .ref h_t_bookOf, .ref h_t_bookIs, .int f_t_written, .ref h_t_forms, .int f_t_formRing, .int f_t_formMany, .ref h_t_best, .ref h_t_next, .ref h_t_ways, .ref h_t_round, .ref h_t_roughs, .int f_t_latest])), (h_t_w, .inl (cA, 190, .inl f_t_w))] s.heap.size = A at hD hQ
  have hA : ∀ q : Nat, s.heap.size ≤ q → A q := fun q h => by rw [← hAe]; exact Or.inr h
  clear hAe
  have hS : va_S A s.heap s.heap [] := va_S.rf
  have hl := lv_entry ([.ref h_t, .int a1, .int a2]) (n := 6) (Nat.le_of_ble_eq_true rfl)
  rw [lg_entry_eq]
  generalize (lg_sl ([.ref h_t, .int a1, .int a2]) ++ List.replicate (6 - (lg_sl ([.ref h_t, .int a1, .int a2])).length) Slot.unset).toArray = ls at hl ⊢
  have hl : lv_has ls 6 [(0, .ref h_t), (1, .int a1), (2, .int a2)] := hl
  unfold m_Md_pairsApart at hm
  refine lv_iconst (v := 0) hx hb dX11_pairsApart_0 (by decide) ?_
  refine lv_topi (fun v3_1 ev3_1 => ?_)
  replace hm := lt_go ev3_1 hm
  refine lv_istore_n (lv' := [(3, .int v3_1), (0, .ref h_t), (1, .int a1), (2, .int a2)]) hx hb dX11_pairsApart_1 rfl hl (by decide) rfl (fun ls hl => ?_)
  refine lv_iconst (v := 0) hx hb dX11_pairsApart_2 (by decide) ?_
  refine lv_topi (fun v4_1 ev4_1 => ?_)
  replace hm := lt_go ev4_1 hm
  refine lv_istore (lv' := [(4, .int v4_1), (3, .int v3_1), (0, .ref h_t), (1, .int a1), (2, .int a2)]) hx hb dX11_pairsApart_3 hl (by decide) rfl (fun ls hl => ?_)
  have L5 : ∀ (n : Nat) (v3_2 : Int32) (v4_2 : Int32) (v3_3 : Int32), m_Md_pairsApart_L5 fu f_t_w a1 a2 n v3_2 v4_2 = some v3_3 → ∀ (H : Heap) (locs : List Loc), va_P (dC, dI) vwCl [(h_t, .inr (10, [.ref h_t_w, .int f_t_known, .int f_t_kept, .int f_t_seed, .ref h_t_imageSeed, .ref h_t_bookOf, .ref h_t_bookIs, .int f_t_written, .ref h_t_forms, .int f_t_formRing, .int f_t_formMany, .ref h_t_best, .ref h_t_next, .ref h_t_ways, .ref h_t_round, .ref h_t_roughs, .int f_t_latest])), (h_t_w, .inl (cA, 190, .inl f_t_w))] H → va_D A [(h_t, .inr (10, [.ref h_t_w, .int f_t_known, .int f_t_kept, .int f_t_seed, .ref h_t_imageSeed, .ref h_t_bookOf, .ref h_t_bookIs, .int f_t_written, .ref h_t_forms, .int f_t_formRing, .int f_t_formMany, .ref h_t_best, .ref h_t_next, .ref h_t_ways, .ref h_t_round, .ref h_t_roughs, .int f_t_latest])), (h_t_w, .inl (cA, 190, .inl f_t_w))] → va_S A s.heap H locs → ∀ ls : Array Slot, lv_has ls 6 [(0, .ref h_t), (1, .int a1), (2, .int a2), (3, .int v3_2), (4, .int v4_2)] → (∀ (H : Heap) (locs : List Loc), va_P (dC, dI) vwCl [(h_t, .inr (10, [.ref h_t_w, .int f_t_known, .int f_t_kept, .int f_t_seed, .ref h_t_imageSeed, .ref h_t_bookOf, .ref h_t_bookIs, .int f_t_written, .ref h_t_forms, .int f_t_formRing, .int f_t_formMany, .ref h_t_best, .ref h_t_next, .ref h_t_ways, .ref h_t_round, .ref h_t_roughs, .int f_t_latest])), (h_t_w, .inl (cA, 190, .inl f_t_w))] H → va_D A [(h_t, .inr (10, [.ref h_t_w, .int f_t_known, .int f_t_kept, .int f_t_seed, .ref h_t_imageSeed, .ref h_t_bookOf, .ref h_t_bookIs, .int f_t_written, .ref h_t_forms, .int f_t_formRing, .int f_t_formMany, .ref h_t_best, .ref h_t_next, .ref h_t_ways, .ref h_t_round, .ref h_t_roughs, .int f_t_latest])), (h_t_w, .inl (cA, 190, .inl f_t_w))] → va_S A s.heap H locs → ∀ ls : Array Slot, lv_has ls 6 [(3, .int v3_3)] → W p l e (headSpec wsX11_pairsApart rmX11_pairsApart).room s m (([.ref h_t, .int a1, .int a2] : List Value).toArray) below meth c H locs 0 0 Q (F0 m 74 ls [])) → W p l e (headSpec wsX11_pairsApart rmX11_pairsApart).room s m (([.ref h_t, .int a1, .int a2] : List Value).toArray) below meth c H locs 0 0 Q (F0 m 5 ls []) := by
    clear hm hP hD hS hl
    intro n
    induction n with
    | zero => intro _ _ _ hm; exact nomatch (show none = some _ from hm)
    | succ n ih =>
      intro v3_2 v4_2 v3_3 hm H locs hP hD hS ls hl KK
      unfold m_Md_pairsApart_L5 at hm
      refine lv_iload hx hb dX11_pairsApart_5 (lv_at hl 4 rfl) ?_
      refine lv_aload_n hx hb dX11_pairsApart_7 rfl (lv_at hl 0 rfl) ?_
      obtain ⟨r_1, hc8, hm⟩ := bd1_go hm
      refine my_cVi (As := []) (rest := [.int v4_2]) (WC := [(h_t, .inr (10, [.ref h_t_w, .int f_t_known, .int f_t_kept, .int f_t_seed, .ref h_t_imageSeed, .ref h_t_bookOf, .ref h_t_bookIs, .int f_t_written, .ref h_t_forms, .int f_t_formRing, .int f_t_formMany, .ref h_t_best, .ref h_t_next, .ref h_t_ways, .ref h_t_round, .ref h_t_roughs, .int f_t_latest])), (h_t_w, .inl (cA, 190, .inl f_t_w))]) (WC' := [(h_t, .inr (10, [.ref h_t_w, .int f_t_known, .int f_t_kept, .int f_t_seed, .ref h_t_imageSeed, .ref h_t_bookOf, .ref h_t_bookIs, .int f_t_written, .ref h_t_forms, .int f_t_formRing, .int f_t_formMany, .ref h_t_best, .ref h_t_next, .ref h_t_ways, .ref h_t_round, .ref h_t_roughs, .int f_t_latest])), (h_t_w, .inl (cA, 190, .inl f_t_w))]) (WR := []) (W' := [(h_t, .inr (10, [.ref h_t_w, .int f_t_known, .int f_t_kept, .int f_t_seed, .ref h_t_imageSeed, .ref h_t_bookOf, .ref h_t_bookIs, .int f_t_written, .ref h_t_forms, .int f_t_formRing, .int f_t_formMany, .ref h_t_best, .ref h_t_next, .ref h_t_ways, .ref h_t_round, .ref h_t_roughs, .int f_t_latest])), (h_t_w, .inl (cA, 190, .inl f_t_w))]) ⟨hx, hb, hml, hown, hts⟩ hK hP hD hS hA (c_Md_m l dC dI cA h_t h_t_w h_t_imageSeed h_t_bookOf h_t_bookIs h_t_forms h_t_best h_t_next h_t_ways h_t_round h_t_roughs f_t_known f_t_kept f_t_seed f_t_written f_t_formRing f_t_formMany f_t_latest f_t_w r_1 hc8) (cwV 0 hts gX11_pairsApart_X11_m rfl rfl rfl (by decide +kernel) ⟨Nat.le_of_ble_eq_true rfl, Nat.le_of_ble_eq_true rfl⟩) [0, 1] [] [0, 1] rfl rfl rfl rfl (ci := 10) (q0 := 0) rfl rfl rfl rfl hl.1 (Nat.le_of_ble_eq_true rfl) dX11_pairsApart_8 ⟨Nat.zero_le _, Nat.zero_le _⟩ (fun H locs hP hD hS => ?_)
      refine lv_icmp_ge (tgt := 74) hx hb dX11_pairsApart_11 (by decide) (fun c11 => ?_) (fun c11 => ?_)
      · replace hm := if_t c11 hm
        cases hm
        exact KK _ _ hP hD hS _ (lv_sub hl [3] rfl)
      · replace hm := if_f c11 hm
        refine lv_iconst (v := 0) hx hb dX11_pairsApart_14 (by decide) ?_
        refine lv_topi (fun v5_1 ev5_1 => ?_)
        replace hm := lt_go ev5_1 hm
        refine lv_istore (lv' := [(5, .int v5_1), (0, .ref h_t), (1, .int a1), (2, .int a2), (3, .int v3_2), (4, .int v4_2)]) hx hb dX11_pairsApart_15 hl (by decide) rfl (fun ls hl => ?_)
        have L17 : ∀ (n : Nat) (v3_4 : Int32) (v5_2 : Int32) (v3_5 : Int32), m_Md_pairsApart_L17 v4_2 a1 f_t_w a2 n v3_4 v5_2 = some v3_5 → ∀ (H : Heap) (locs : List Loc), va_P (dC, dI) vwCl [(h_t, .inr (10, [.ref h_t_w, .int f_t_known, .int f_t_kept, .int f_t_seed, .ref h_t_imageSeed, .ref h_t_bookOf, .ref h_t_bookIs, .int f_t_written, .ref h_t_forms, .int f_t_formRing, .int f_t_formMany, .ref h_t_best, .ref h_t_next, .ref h_t_ways, .ref h_t_round, .ref h_t_roughs, .int f_t_latest])), (h_t_w, .inl (cA, 190, .inl f_t_w))] H → va_D A [(h_t, .inr (10, [.ref h_t_w, .int f_t_known, .int f_t_kept, .int f_t_seed, .ref h_t_imageSeed, .ref h_t_bookOf, .ref h_t_bookIs, .int f_t_written, .ref h_t_forms, .int f_t_formRing, .int f_t_formMany, .ref h_t_best, .ref h_t_next, .ref h_t_ways, .ref h_t_round, .ref h_t_roughs, .int f_t_latest])), (h_t_w, .inl (cA, 190, .inl f_t_w))] → va_S A s.heap H locs → ∀ ls : Array Slot, lv_has ls 6 [(0, .ref h_t), (1, .int a1), (2, .int a2), (3, .int v3_4), (4, .int v4_2), (5, .int v5_2)] → (∀ (H : Heap) (locs : List Loc), va_P (dC, dI) vwCl [(h_t, .inr (10, [.ref h_t_w, .int f_t_known, .int f_t_kept, .int f_t_seed, .ref h_t_imageSeed, .ref h_t_bookOf, .ref h_t_bookIs, .int f_t_written, .ref h_t_forms, .int f_t_formRing, .int f_t_formMany, .ref h_t_best, .ref h_t_next, .ref h_t_ways, .ref h_t_round, .ref h_t_roughs, .int f_t_latest])), (h_t_w, .inl (cA, 190, .inl f_t_w))] H → va_D A [(h_t, .inr (10, [.ref h_t_w, .int f_t_known, .int f_t_kept, .int f_t_seed, .ref h_t_imageSeed, .ref h_t_bookOf, .ref h_t_bookIs, .int f_t_written, .ref h_t_forms, .int f_t_formRing, .int f_t_formMany, .ref h_t_best, .ref h_t_next, .ref h_t_ways, .ref h_t_round, .ref h_t_roughs, .int f_t_latest])), (h_t_w, .inl (cA, 190, .inl f_t_w))] → va_S A s.heap H locs → ∀ ls : Array Slot, lv_has ls 6 [(0, .ref h_t), (1, .int a1), (2, .int a2), (3, .int v3_5), (4, .int v4_2)] → W p l e (headSpec wsX11_pairsApart rmX11_pairsApart).room s m (([.ref h_t, .int a1, .int a2] : List Value).toArray) below meth c H locs 0 0 Q (F0 m 68 ls [])) → W p l e (headSpec wsX11_pairsApart rmX11_pairsApart).room s m (([.ref h_t, .int a1, .int a2] : List Value).toArray) below meth c H locs 0 0 Q (F0 m 17 ls []) := by
          clear hm hP hD hS hl
          intro n
          induction n with
          | zero => intro _ _ _ hm; exact nomatch (show none = some _ from hm)
          | succ n ih =>
            intro v3_4 v5_2 v3_5 hm H locs hP hD hS ls hl KK
            unfold m_Md_pairsApart_L17 at hm
            refine lv_iload hx hb dX11_pairsApart_17 (lv_at hl 5 rfl) ?_
            refine lv_iload hx hb dX11_pairsApart_19 (lv_at hl 4 rfl) ?_
            refine lv_icmp_ge (tgt := 68) hx hb dX11_pairsApart_21 (by decide) (fun c21 => ?_) (fun c21 => ?_)
            · replace hm := if_t c21 hm
              cases hm
              exact KK _ _ hP hD hS _ (lv_sub hl [0, 1, 2, 3, 4] rfl)
            · replace hm := if_f c21 hm
              refine lv_iload_n hx hb dX11_pairsApart_24 rfl (lv_at hl 3 rfl) ?_
              refine lv_iload_n hx hb dX11_pairsApart_25 rfl (lv_at hl 1 rfl) ?_
              refine lv_iload hx hb dX11_pairsApart_26 (lv_at hl 4 rfl) ?_
              obtain ⟨r_2, hc28, hm⟩ := bd1_go hm
              refine my_cSi (As := [.int a1, .int v4_2]) (rest := [.int v3_4]) (WC := []) (WC' := []) (WR := [(h_t, .inr (10, [.ref h_t_w, .int f_t_known, .int f_t_kept, .int f_t_seed, .ref h_t_imageSeed, .ref h_t_bookOf, .ref h_t_bookIs, .int f_t_written, .ref h_t_forms, .int f_t_formRing, .int f_t_formMany, .ref h_t_best, .ref h_t_next, .ref h_t_ways, .ref h_t_round, .ref h_t_roughs, .int f_t_latest])), (h_t_w, .inl (cA, 190, .inl f_t_w))]) (W' := [(h_t, .inr (10, [.ref h_t_w, .int f_t_known, .int f_t_kept, .int f_t_seed, .ref h_t_imageSeed, .ref h_t_bookOf, .ref h_t_bookIs, .int f_t_written, .ref h_t_forms, .int f_t_formRing, .int f_t_formMany, .ref h_t_best, .ref h_t_next, .ref h_t_ways, .ref h_t_round, .ref h_t_roughs, .int f_t_latest])), (h_t_w, .inl (cA, 190, .inl f_t_w))]) ⟨hx, hb, hml, hown, hts⟩ hK hP hD hS hA (c_Md_has l dC dI cA a1 v4_2 r_2 hc28) (va_cwS 2 hts gX11_pairsApart_X11_has rfl rfl rfl (by decide +kernel) ⟨Nat.le_of_ble_eq_true rfl, Nat.le_of_ble_eq_true rfl⟩) [] [0, 1] [0, 1] rfl rfl rfl rfl rfl rfl hl.1 (Nat.le_of_ble_eq_true rfl) dX11_pairsApart_28 ⟨Nat.zero_le _, Nat.zero_le _⟩ (fun H locs hP hD hS => ?_)
              obtain ⟨q60_1, hqJ_1, hm⟩ := bd1_go hm
              have J_1 : ∀ (H : Heap) (locs : List Loc), va_P (dC, dI) vwCl [(h_t, .inr (10, [.ref h_t_w, .int f_t_known, .int f_t_kept, .int f_t_seed, .ref h_t_imageSeed, .ref h_t_bookOf, .ref h_t_bookIs, .int f_t_written, .ref h_t_forms, .int f_t_formRing, .int f_t_formMany, .ref h_t_best, .ref h_t_next, .ref h_t_ways, .ref h_t_round, .ref h_t_roughs, .int f_t_latest])), (h_t_w, .inl (cA, 190, .inl f_t_w))] H → va_D A [(h_t, .inr (10, [.ref h_t_w, .int f_t_known, .int f_t_kept, .int f_t_seed, .ref h_t_imageSeed, .ref h_t_bookOf, .ref h_t_bookIs, .int f_t_written, .ref h_t_forms, .int f_t_formRing, .int f_t_formMany, .ref h_t_best, .ref h_t_next, .ref h_t_ways, .ref h_t_round, .ref h_t_roughs, .int f_t_latest])), (h_t_w, .inl (cA, 190, .inl f_t_w))] → va_S A s.heap H locs → ∀ ls : Array Slot, lv_has ls 6 [(0, .ref h_t), (1, .int a1), (2, .int a2), (4, .int v4_2), (5, .int v5_2)] → W p l e (headSpec wsX11_pairsApart rmX11_pairsApart).room s m (([.ref h_t, .int a1, .int a2] : List Value).toArray) below meth c H locs 0 0 Q (F0 m 60 ls [.int q60_1, .int v3_4]) := by
                intro H locs hP hD hS ls hl
                clear hqJ_1
                refine lv_iadd hx hb dX11_pairsApart_60 ?_
                refine lv_topi (fun v3_6 ev3_6 => ?_)
                replace hm := lt_go ev3_6 hm
                refine lv_istore_n (lv' := [(3, .int v3_6), (0, .ref h_t), (1, .int a1), (2, .int a2), (4, .int v4_2), (5, .int v5_2)]) hx hb dX11_pairsApart_61 rfl hl (by decide) rfl (fun ls hl => ?_)
                obtain ⟨v5_3, ev5_3⟩ : ∃ z : Int32, z = v5_2 + 1 := ⟨_, rfl⟩
                replace hm := lt_go ev5_3 hm
                refine lv_iinc (v := v5_3) (lv' := [(5, .int v5_3), (3, .int v3_6), (0, .ref h_t), (1, .int a1), (2, .int a2), (4, .int v4_2)]) hx hb dX11_pairsApart_62 hl (k := 5) rfl (by rw [ev5_3]; rfl) (by decide) rfl (fun ls hl => ?_)
                refine lv_goto (tgt := 17) hx hb dX11_pairsApart_65 (by decide) ?_
                exact ih _ _ _ hm _ _ hP hD hS _ (lv_sub hl [2, 3, 4, 1, 5, 0] rfl) KK
              clear hm
              refine lv_if_eq (tgt := 59) hx hb dX11_pairsApart_31 (by decide) (fun c31 => ?_) (fun c31 => ?_)
              · replace hqJ_1 := if_t c31 hqJ_1
                refine lv_iconst (v := 0) hx hb dX11_pairsApart_59 (by decide) ?_
                cases hqJ_1
                exact J_1 _ _ hP hD hS _ (lv_sub hl [0, 1, 2, 4, 5] rfl)
              · replace hqJ_1 := if_f c31 hqJ_1
                refine lv_iload_n hx hb dX11_pairsApart_34 rfl (lv_at hl 1 rfl) ?_
                refine lv_iload hx hb dX11_pairsApart_35 (lv_at hl 5 rfl) ?_
                obtain ⟨r_3, hc37, hqJ_1⟩ := bd1_go hqJ_1
                refine my_cSi (As := [.int a1, .int v5_2]) (rest := [.int v3_4]) (WC := []) (WC' := []) (WR := [(h_t, .inr (10, [.ref h_t_w, .int f_t_known, .int f_t_kept, .int f_t_seed, .ref h_t_imageSeed, .ref h_t_bookOf, .ref h_t_bookIs, .int f_t_written, .ref h_t_forms, .int f_t_formRing, .int f_t_formMany, .ref h_t_best, .ref h_t_next, .ref h_t_ways, .ref h_t_round, .ref h_t_roughs, .int f_t_latest])), (h_t_w, .inl (cA, 190, .inl f_t_w))]) (W' := [(h_t, .inr (10, [.ref h_t_w, .int f_t_known, .int f_t_kept, .int f_t_seed, .ref h_t_imageSeed, .ref h_t_bookOf, .ref h_t_bookIs, .int f_t_written, .ref h_t_forms, .int f_t_formRing, .int f_t_formMany, .ref h_t_best, .ref h_t_next, .ref h_t_ways, .ref h_t_round, .ref h_t_roughs, .int f_t_latest])), (h_t_w, .inl (cA, 190, .inl f_t_w))]) ⟨hx, hb, hml, hown, hts⟩ hK hP hD hS hA (c_Md_has l dC dI cA a1 v5_2 r_3 hc37) (va_cwS 2 hts gX11_pairsApart_X11_has rfl rfl rfl (by decide +kernel) ⟨Nat.le_of_ble_eq_true rfl, Nat.le_of_ble_eq_true rfl⟩) [] [0, 1] [0, 1] rfl rfl rfl rfl rfl rfl hl.1 (Nat.le_of_ble_eq_true rfl) dX11_pairsApart_37 ⟨Nat.zero_le _, Nat.zero_le _⟩ (fun H locs hP hD hS => ?_)
                refine lv_if_eq (tgt := 59) hx hb dX11_pairsApart_40 (by decide) (fun c40 => ?_) (fun c40 => ?_)
                · replace hqJ_1 := if_t c40 hqJ_1
                  refine lv_iconst (v := 0) hx hb dX11_pairsApart_59 (by decide) ?_
                  cases hqJ_1
                  exact J_1 _ _ hP hD hS _ (lv_sub hl [0, 1, 2, 4, 5] rfl)
                · replace hqJ_1 := if_f c40 hqJ_1
                  refine lv_aload_n hx hb dX11_pairsApart_43 rfl (lv_at hl 0 rfl) ?_
                  refine lv_iload hx hb dX11_pairsApart_44 (lv_at hl 4 rfl) ?_
                  refine lv_iload hx hb dX11_pairsApart_46 (lv_at hl 5 rfl) ?_
                  obtain ⟨r_4, hc48, hqJ_1⟩ := bd1_go hqJ_1
                  refine my_cVi (As := [.int v4_2, .int v5_2]) (rest := [.int v3_4]) (WC := [(h_t, .inr (10, [.ref h_t_w, .int f_t_known, .int f_t_kept, .int f_t_seed, .ref h_t_imageSeed, .ref h_t_bookOf, .ref h_t_bookIs, .int f_t_written, .ref h_t_forms, .int f_t_formRing, .int f_t_formMany, .ref h_t_best, .ref h_t_next, .ref h_t_ways, .ref h_t_round, .ref h_t_roughs, .int f_t_latest])), (h_t_w, .inl (cA, 190, .inl f_t_w))]) (WC' := [(h_t, .inr (10, [.ref h_t_w, .int f_t_known, .int f_t_kept, .int f_t_seed, .ref h_t_imageSeed, .ref h_t_bookOf, .ref h_t_bookIs, .int f_t_written, .ref h_t_forms, .int f_t_formRing, .int f_t_formMany, .ref h_t_best, .ref h_t_next, .ref h_t_ways, .ref h_t_round, .ref h_t_roughs, .int f_t_latest])), (h_t_w, .inl (cA, 190, .inl f_t_w))]) (WR := []) (W' := [(h_t, .inr (10, [.ref h_t_w, .int f_t_known, .int f_t_kept, .int f_t_seed, .ref h_t_imageSeed, .ref h_t_bookOf, .ref h_t_bookIs, .int f_t_written, .ref h_t_forms, .int f_t_formRing, .int f_t_formMany, .ref h_t_best, .ref h_t_next, .ref h_t_ways, .ref h_t_round, .ref h_t_roughs, .int f_t_latest])), (h_t_w, .inl (cA, 190, .inl f_t_w))]) ⟨hx, hb, hml, hown, hts⟩ hK hP hD hS hA (c_Md_apart l dC dI cA h_t h_t_w h_t_imageSeed h_t_bookOf h_t_bookIs h_t_forms h_t_best h_t_next h_t_ways h_t_round h_t_roughs f_t_known f_t_kept f_t_seed f_t_written f_t_formRing f_t_formMany f_t_latest f_t_w v4_2 v5_2 r_4 hc48) (cwV 2 hts gX11_pairsApart_X11_apart rfl rfl rfl (by decide +kernel) ⟨Nat.le_of_ble_eq_true rfl, Nat.le_of_ble_eq_true rfl⟩) [0, 1] [] [0, 1] rfl rfl rfl rfl (ci := 10) (q0 := 0) rfl rfl rfl rfl hl.1 (Nat.le_of_ble_eq_true rfl) dX11_pairsApart_48 ⟨Nat.zero_le _, Nat.zero_le _⟩ (fun H locs hP hD hS => ?_)
                  refine lv_iload_n hx hb dX11_pairsApart_51 rfl (lv_at hl 2 rfl) ?_
                  refine lv_icmp_ne (tgt := 59) hx hb dX11_pairsApart_52 (by decide) (fun c52 => ?_) (fun c52 => ?_)
                  · replace hqJ_1 := if_f c52 hqJ_1
                    refine lv_iconst (v := 0) hx hb dX11_pairsApart_59 (by decide) ?_
                    cases hqJ_1
                    exact J_1 _ _ hP hD hS _ (lv_sub hl [0, 1, 2, 4, 5] rfl)
                  · replace hqJ_1 := if_t c52 hqJ_1
                    refine lv_iconst (v := 1) hx hb dX11_pairsApart_55 (by decide) ?_
                    refine lv_goto (tgt := 60) hx hb dX11_pairsApart_56 (by decide) ?_
                    cases hqJ_1
                    exact J_1 _ _ hP hD hS _ (lv_sub hl [0, 1, 2, 4, 5] rfl)
        obtain ⟨v3_7, hl17, hm⟩ := bd1_go hm
        refine L17 _ _ _ _ hl17 _ _ hP hD hS _ (lv_sub hl [1, 2, 3, 4, 5, 0] rfl) (fun H locs hP hD hS ls hl => ?_)
        obtain ⟨v4_3, ev4_3⟩ : ∃ z : Int32, z = v4_2 + 1 := ⟨_, rfl⟩
        replace hm := lt_go ev4_3 hm
        refine lv_iinc (v := v4_3) (lv' := [(4, .int v4_3), (0, .ref h_t), (1, .int a1), (2, .int a2), (3, .int v3_7)]) hx hb dX11_pairsApart_68 hl (k := 4) rfl (by rw [ev4_3]; rfl) (by decide) rfl (fun ls hl => ?_)
        refine lv_goto (tgt := 5) hx hb dX11_pairsApart_71 (by decide) ?_
        exact ih _ _ _ hm _ _ hP hD hS _ (lv_sub hl [1, 2, 3, 4, 0] rfl) KK
  obtain ⟨v3_8, hl5, hm⟩ := bd1_go hm
  refine L5 _ _ _ _ hl5 _ _ hP hD hS _ (lv_sub hl [2, 3, 4, 1, 0] rfl) (fun H locs hP hD hS ls hl => ?_)
  refine lv_iload_n hx hb dX11_pairsApart_74 rfl (lv_at hl 0 rfl) ?_
  cases hm
  exact W_mono hQ (W.iret hx hb hr (fun t ht hW => ⟨⟨_, (), rfl, rfl, by rw [ht]; exact hP, va_K.moved hW.alike hK, hD⟩, hS.F ht⟩) hS.2.2 dX11_pairsApart_75)
abbrev rmX11_areLike : Room := { frames := 3, cells := 0, slots := 0, locals := 68 }
set_option maxHeartbeats 40000000 in
set_option maxRecDepth 100000 in
theorem c_Md_areLike (l : Launch) (dC : Nat → ClassId) (dI : Nat → Nat → Nat) (cA : ClassId) (fu : Nat) (h_t h_t_w h_t_imageSeed h_t_bookOf h_t_bookIs h_t_forms h_t_best h_t_next h_t_ways h_t_round h_t_roughs : Nat) (f_t_known : Int32) (f_t_kept : Int32) (f_t_seed : Int32) (f_t_written : Int32) (f_t_formRing : Int32) (f_t_formMany : Int32) (f_t_latest : Int32) (f_t_w : Nat → Int32) (a1 : Int32) (a2 : Int32) (r0 : Int32) (hm : m_Md_areLike fu f_t_w a1 a2 = some r0) (sz : Nat) : Met l yX11_areLike wsX11_areLike rmX11_areLike (mPre (dC, dI) cA [.ref h_t, .int a1, .int a2] sz [(h_t, .inr (10, [.ref h_t_w, .int f_t_known, .int f_t_kept, .int f_t_seed, .ref h_t_imageSeed, .ref h_t_bookOf, .ref h_t_bookIs, .int f_t_written, .ref h_t_forms, .int f_t_formRing, .int f_t_formMany, .ref h_t_best, .ref h_t_next, .ref h_t_ways, .ref h_t_round, .ref h_t_roughs, .int f_t_latest])), (h_t_w, .inl (cA, 190, .inl f_t_w))]) (mPosI (dC, dI) cA r0 (va_A [(h_t, .inr (10, [.ref h_t_w, .int f_t_known, .int f_t_kept, .int f_t_seed, .ref h_t_imageSeed, .ref h_t_bookOf, .ref h_t_bookIs, .int f_t_written, .ref h_t_forms, .int f_t_formRing, .int f_t_formMany, .ref h_t_best, .ref h_t_next, .ref h_t_ways, .ref h_t_round, .ref h_t_roughs, .int f_t_latest])), (h_t_w, .inl (cA, 190, .inl f_t_w))] sz) [(h_t, .inr (10, [.ref h_t_w, .int f_t_known, .int f_t_kept, .int f_t_seed, .ref h_t_imageSeed, .ref h_t_bookOf, .ref h_t_bookIs, .int f_t_written, .ref h_t_forms, .int f_t_formRing, .int f_t_formMany, .ref h_t_best, .ref h_t_next, .ref h_t_ways, .ref h_t_round, .ref h_t_roughs, .int f_t_latest])), (h_t_w, .inl (cA, 190, .inl f_t_w))]) 0 0 (va_A [(h_t, .inr (10, [.ref h_t_w, .int f_t_known, .int f_t_kept, .int f_t_seed, .ref h_t_imageSeed, .ref h_t_bookOf, .ref h_t_bookIs, .int f_t_written, .ref h_t_forms, .int f_t_formRing, .int f_t_formMany, .ref h_t_best, .ref h_t_next, .ref h_t_ways, .ref h_t_round, .ref h_t_roughs, .int f_t_latest])), (h_t_w, .inl (cA, 190, .inl f_t_w))] sz) := by
  refine Met.ofW (cc := cX11_areLike) (maxL := 5) (ret := (some .boolean)) (by decide) rfl ?_
  intro p e s m args below meth c s₁ B hml hv
  obtain ⟨rfl, hsz, hP, hK, hD0⟩ := hv
  refine W_gen (fun Q hQ => ?_)
  have hx := B.exec
  have hb := B.bytes
  have hr := B.returns
  have hts := atoms_spec (ws := wsX11_areLike) B.pre
  have hown : s.vm.findClass RX11 = some m.cls := findClass_of_methodNamed B.named
  have hlocks := B.notSynchronized
  subst hsz
  have hD := hD0.self (sz := s.heap.size)
  clear hD0
  generalize hAe : va_A [(h_t, .inr (10, [.ref h_t_w, .int f_t_known, .int f_t_kept, .int f_t_seed, .ref h_t_imageSeed, .ref h_t_bookOf, .ref h_t_bookIs, .int f_t_written, .ref h_t_forms, .int f_t_formRing, .int f_t_formMany, .ref h_t_best, .ref h_t_next, .ref h_t_ways, .ref h_t_round, .ref h_t_roughs, .int f_t_latest])), (h_t_w, .inl (cA, 190, .inl f_t_w))] s.heap.size = A at hD hQ
  have hA : ∀ q : Nat, s.heap.size ≤ q → A q := fun q h => by rw [← hAe]; exact Or.inr h
  clear hAe
  have hS : va_S A s.heap s.heap [] := va_S.rf
  have hl := lv_entry ([.ref h_t, .int a1, .int a2]) (n := 5) (Nat.le_of_ble_eq_true rfl)
  rw [lg_entry_eq]
  generalize (lg_sl ([.ref h_t, .int a1, .int a2]) ++ List.replicate (5 - (lg_sl ([.ref h_t, .int a1, .int a2])).length) Slot.unset).toArray = ls at hl ⊢
  have hl : lv_has ls 5 [(0, .ref h_t), (1, .int a1), (2, .int a2)] := hl
  unfold m_Md_areLike at hm
  refine lv_iload_n hx hb dX11_areLike_0 rfl (lv_at hl 1 rfl) ?_
  obtain ⟨r_1, hc1, hm⟩ := bd1_go hm
  refine my_cSi (As := [.int a1]) (rest := []) (WC := []) (WC' := []) (WR := [(h_t, .inr (10, [.ref h_t_w, .int f_t_known, .int f_t_kept, .int f_t_seed, .ref h_t_imageSeed, .ref h_t_bookOf, .ref h_t_bookIs, .int f_t_written, .ref h_t_forms, .int f_t_formRing, .int f_t_formMany, .ref h_t_best, .ref h_t_next, .ref h_t_ways, .ref h_t_round, .ref h_t_roughs, .int f_t_latest])), (h_t_w, .inl (cA, 190, .inl f_t_w))]) (W' := [(h_t, .inr (10, [.ref h_t_w, .int f_t_known, .int f_t_kept, .int f_t_seed, .ref h_t_imageSeed, .ref h_t_bookOf, .ref h_t_bookIs, .int f_t_written, .ref h_t_forms, .int f_t_formRing, .int f_t_formMany, .ref h_t_best, .ref h_t_next, .ref h_t_ways, .ref h_t_round, .ref h_t_roughs, .int f_t_latest])), (h_t_w, .inl (cA, 190, .inl f_t_w))]) ⟨hx, hb, hml, hown, hts⟩ hK hP hD hS hA (c_Md_ones l dC dI cA fu a1 r_1 hc1) (va_cwS 1 hts gX11_areLike_X11_ones rfl rfl rfl (by decide +kernel) ⟨Nat.le_of_ble_eq_true rfl, Nat.le_of_ble_eq_true rfl⟩) [] [0, 1] [0, 1] rfl rfl rfl rfl rfl rfl hl.1 (Nat.le_of_ble_eq_true rfl) dX11_areLike_1 ⟨Nat.zero_le _, Nat.zero_le _⟩ (fun H locs hP hD hS => ?_)
  refine lv_iload_n hx hb dX11_areLike_4 rfl (lv_at hl 2 rfl) ?_
  obtain ⟨r_2, hc5, hm⟩ := bd1_go hm
  refine my_cSi (As := [.int a2]) (rest := [.int r_1]) (WC := []) (WC' := []) (WR := [(h_t, .inr (10, [.ref h_t_w, .int f_t_known, .int f_t_kept, .int f_t_seed, .ref h_t_imageSeed, .ref h_t_bookOf, .ref h_t_bookIs, .int f_t_written, .ref h_t_forms, .int f_t_formRing, .int f_t_formMany, .ref h_t_best, .ref h_t_next, .ref h_t_ways, .ref h_t_round, .ref h_t_roughs, .int f_t_latest])), (h_t_w, .inl (cA, 190, .inl f_t_w))]) (W' := [(h_t, .inr (10, [.ref h_t_w, .int f_t_known, .int f_t_kept, .int f_t_seed, .ref h_t_imageSeed, .ref h_t_bookOf, .ref h_t_bookIs, .int f_t_written, .ref h_t_forms, .int f_t_formRing, .int f_t_formMany, .ref h_t_best, .ref h_t_next, .ref h_t_ways, .ref h_t_round, .ref h_t_roughs, .int f_t_latest])), (h_t_w, .inl (cA, 190, .inl f_t_w))]) ⟨hx, hb, hml, hown, hts⟩ hK hP hD hS hA (c_Md_ones l dC dI cA fu a2 r_2 hc5) (va_cwS 1 hts gX11_areLike_X11_ones rfl rfl rfl (by decide +kernel) ⟨Nat.le_of_ble_eq_true rfl, Nat.le_of_ble_eq_true rfl⟩) [] [0, 1] [0, 1] rfl rfl rfl rfl rfl rfl hl.1 (Nat.le_of_ble_eq_true rfl) dX11_areLike_5 ⟨Nat.zero_le _, Nat.zero_le _⟩ (fun H locs hP hD hS => ?_)
  obtain ⟨q16_1, hqJ_1, hm⟩ := bd1_go hm
  have J_1 : ∀ (H : Heap) (locs : List Loc), va_P (dC, dI) vwCl [(h_t, .inr (10, [.ref h_t_w, .int f_t_known, .int f_t_kept, .int f_t_seed, .ref h_t_imageSeed, .ref h_t_bookOf, .ref h_t_bookIs, .int f_t_written, .ref h_t_forms, .int f_t_formRing, .int f_t_formMany, .ref h_t_best, .ref h_t_next, .ref h_t_ways, .ref h_t_round, .ref h_t_roughs, .int f_t_latest])), (h_t_w, .inl (cA, 190, .inl f_t_w))] H → va_D A [(h_t, .inr (10, [.ref h_t_w, .int f_t_known, .int f_t_kept, .int f_t_seed, .ref h_t_imageSeed, .ref h_t_bookOf, .ref h_t_bookIs, .int f_t_written, .ref h_t_forms, .int f_t_formRing, .int f_t_formMany, .ref h_t_best, .ref h_t_next, .ref h_t_ways, .ref h_t_round, .ref h_t_roughs, .int f_t_latest])), (h_t_w, .inl (cA, 190, .inl f_t_w))] → va_S A s.heap H locs → ∀ ls : Array Slot, lv_has ls 5 [(0, .ref h_t), (1, .int a1), (2, .int a2)] → W p l e (headSpec wsX11_areLike rmX11_areLike).room s m (([.ref h_t, .int a1, .int a2] : List Value).toArray) below meth c H locs 0 0 Q (F0 m 16 ls [.int q16_1]) := by
    intro H locs hP hD hS ls hl
    clear hqJ_1
    refine lv_topi (fun v3_1 ev3_1 => ?_)
    replace hm := lt_go ev3_1 hm
    refine lv_istore_n (lv' := [(3, .int v3_1), (0, .ref h_t), (1, .int a1), (2, .int a2)]) hx hb dX11_areLike_16 rfl hl (by decide) rfl (fun ls hl => ?_)
    refine lv_iconst (v := 1) hx hb dX11_areLike_17 (by decide) ?_
    refine lv_topi (fun v4_1 ev4_1 => ?_)
    replace hm := lt_go ev4_1 hm
    refine lv_istore (lv' := [(4, .int v4_1), (3, .int v3_1), (0, .ref h_t), (1, .int a1), (2, .int a2)]) hx hb dX11_areLike_18 hl (by decide) rfl (fun ls hl => ?_)
    have L20 : ∀ (n : Nat) (v3_2 : Int32) (v4_2 : Int32) (v3_3 : Int32), m_Md_areLike_L20 fu f_t_w a1 a2 n v3_2 v4_2 = some v3_3 → ∀ (H : Heap) (locs : List Loc), va_P (dC, dI) vwCl [(h_t, .inr (10, [.ref h_t_w, .int f_t_known, .int f_t_kept, .int f_t_seed, .ref h_t_imageSeed, .ref h_t_bookOf, .ref h_t_bookIs, .int f_t_written, .ref h_t_forms, .int f_t_formRing, .int f_t_formMany, .ref h_t_best, .ref h_t_next, .ref h_t_ways, .ref h_t_round, .ref h_t_roughs, .int f_t_latest])), (h_t_w, .inl (cA, 190, .inl f_t_w))] H → va_D A [(h_t, .inr (10, [.ref h_t_w, .int f_t_known, .int f_t_kept, .int f_t_seed, .ref h_t_imageSeed, .ref h_t_bookOf, .ref h_t_bookIs, .int f_t_written, .ref h_t_forms, .int f_t_formRing, .int f_t_formMany, .ref h_t_best, .ref h_t_next, .ref h_t_ways, .ref h_t_round, .ref h_t_roughs, .int f_t_latest])), (h_t_w, .inl (cA, 190, .inl f_t_w))] → va_S A s.heap H locs → ∀ ls : Array Slot, lv_has ls 5 [(0, .ref h_t), (1, .int a1), (2, .int a2), (3, .int v3_2), (4, .int v4_2)] → (∀ (H : Heap) (locs : List Loc), va_P (dC, dI) vwCl [(h_t, .inr (10, [.ref h_t_w, .int f_t_known, .int f_t_kept, .int f_t_seed, .ref h_t_imageSeed, .ref h_t_bookOf, .ref h_t_bookIs, .int f_t_written, .ref h_t_forms, .int f_t_formRing, .int f_t_formMany, .ref h_t_best, .ref h_t_next, .ref h_t_ways, .ref h_t_round, .ref h_t_roughs, .int f_t_latest])), (h_t_w, .inl (cA, 190, .inl f_t_w))] H → va_D A [(h_t, .inr (10, [.ref h_t_w, .int f_t_known, .int f_t_kept, .int f_t_seed, .ref h_t_imageSeed, .ref h_t_bookOf, .ref h_t_bookIs, .int f_t_written, .ref h_t_forms, .int f_t_formRing, .int f_t_formMany, .ref h_t_best, .ref h_t_next, .ref h_t_ways, .ref h_t_round, .ref h_t_roughs, .int f_t_latest])), (h_t_w, .inl (cA, 190, .inl f_t_w))] → va_S A s.heap H locs → ∀ ls : Array Slot, lv_has ls 5 [(3, .int v3_3)] → W p l e (headSpec wsX11_areLike rmX11_areLike).room s m (([.ref h_t, .int a1, .int a2] : List Value).toArray) below meth c H locs 0 0 Q (F0 m 64 ls [])) → W p l e (headSpec wsX11_areLike rmX11_areLike).room s m (([.ref h_t, .int a1, .int a2] : List Value).toArray) below meth c H locs 0 0 Q (F0 m 20 ls []) := by
      clear hm hP hD hS hl
      intro n
      induction n with
      | zero => intro _ _ _ hm; exact nomatch (show none = some _ from hm)
      | succ n ih =>
        intro v3_2 v4_2 v3_3 hm H locs hP hD hS ls hl KK
        unfold m_Md_areLike_L20 at hm
        refine lv_iload hx hb dX11_areLike_20 (lv_at hl 4 rfl) ?_
        refine lv_aload_n hx hb dX11_areLike_22 rfl (lv_at hl 0 rfl) ?_
        obtain ⟨r_3, hc23, hm⟩ := bd1_go hm
        refine my_cVi (As := []) (rest := [.int v4_2]) (WC := [(h_t, .inr (10, [.ref h_t_w, .int f_t_known, .int f_t_kept, .int f_t_seed, .ref h_t_imageSeed, .ref h_t_bookOf, .ref h_t_bookIs, .int f_t_written, .ref h_t_forms, .int f_t_formRing, .int f_t_formMany, .ref h_t_best, .ref h_t_next, .ref h_t_ways, .ref h_t_round, .ref h_t_roughs, .int f_t_latest])), (h_t_w, .inl (cA, 190, .inl f_t_w))]) (WC' := [(h_t, .inr (10, [.ref h_t_w, .int f_t_known, .int f_t_kept, .int f_t_seed, .ref h_t_imageSeed, .ref h_t_bookOf, .ref h_t_bookIs, .int f_t_written, .ref h_t_forms, .int f_t_formRing, .int f_t_formMany, .ref h_t_best, .ref h_t_next, .ref h_t_ways, .ref h_t_round, .ref h_t_roughs, .int f_t_latest])), (h_t_w, .inl (cA, 190, .inl f_t_w))]) (WR := []) (W' := [(h_t, .inr (10, [.ref h_t_w, .int f_t_known, .int f_t_kept, .int f_t_seed, .ref h_t_imageSeed, .ref h_t_bookOf, .ref h_t_bookIs, .int f_t_written, .ref h_t_forms, .int f_t_formRing, .int f_t_formMany, .ref h_t_best, .ref h_t_next, .ref h_t_ways, .ref h_t_round, .ref h_t_roughs, .int f_t_latest])), (h_t_w, .inl (cA, 190, .inl f_t_w))]) ⟨hx, hb, hml, hown, hts⟩ hK hP hD hS hA (c_Md_m l dC dI cA h_t h_t_w h_t_imageSeed h_t_bookOf h_t_bookIs h_t_forms h_t_best h_t_next h_t_ways h_t_round h_t_roughs f_t_known f_t_kept f_t_seed f_t_written f_t_formRing f_t_formMany f_t_latest f_t_w r_3 hc23) (cwV 0 hts gX11_areLike_X11_m rfl rfl rfl (by decide +kernel) ⟨Nat.le_of_ble_eq_true rfl, Nat.le_of_ble_eq_true rfl⟩) [0, 1] [] [0, 1] rfl rfl rfl rfl (ci := 10) (q0 := 0) rfl rfl rfl rfl hl.1 (Nat.le_of_ble_eq_true rfl) dX11_areLike_23 ⟨Nat.zero_le _, Nat.zero_le _⟩ (fun H locs hP hD hS => ?_)
        refine lv_iconst (v := 2) hx hb dX11_areLike_26 (by decide) ?_
        refine lv_idiv hx hb dX11_areLike_27 (by decide) ?_
        refine lv_icmp_gt (tgt := 64) hx hb dX11_areLike_28 (by decide) (fun c28 => ?_) (fun c28 => ?_)
        · replace hm := if_t c28 hm
          cases hm
          exact KK _ _ hP hD hS _ (lv_sub hl [3] rfl)
        · replace hm := if_f c28 hm
          refine lv_iload_n hx hb dX11_areLike_31 rfl (lv_at hl 3 rfl) ?_
          refine lv_if_eq (tgt := 64) hx hb dX11_areLike_32 (by decide) (fun c32 => ?_) (fun c32 => ?_)
          · replace hm := if_t c32 hm
            cases hm
            exact KK _ _ hP hD hS _ (lv_sub hl [3] rfl)
          · replace hm := if_f c32 hm
            refine lv_aload_n hx hb dX11_areLike_35 rfl (lv_at hl 0 rfl) ?_
            refine lv_iload_n hx hb dX11_areLike_36 rfl (lv_at hl 1 rfl) ?_
            refine lv_iload hx hb dX11_areLike_37 (lv_at hl 4 rfl) ?_
            obtain ⟨r_4, hc39, hm⟩ := bd1_go hm
            refine my_cVi (As := [.int a1, .int v4_2]) (rest := []) (WC := [(h_t, .inr (10, [.ref h_t_w, .int f_t_known, .int f_t_kept, .int f_t_seed, .ref h_t_imageSeed, .ref h_t_bookOf, .ref h_t_bookIs, .int f_t_written, .ref h_t_forms, .int f_t_formRing, .int f_t_formMany, .ref h_t_best, .ref h_t_next, .ref h_t_ways, .ref h_t_round, .ref h_t_roughs, .int f_t_latest])), (h_t_w, .inl (cA, 190, .inl f_t_w))]) (WC' := [(h_t, .inr (10, [.ref h_t_w, .int f_t_known, .int f_t_kept, .int f_t_seed, .ref h_t_imageSeed, .ref h_t_bookOf, .ref h_t_bookIs, .int f_t_written, .ref h_t_forms, .int f_t_formRing, .int f_t_formMany, .ref h_t_best, .ref h_t_next, .ref h_t_ways, .ref h_t_round, .ref h_t_roughs, .int f_t_latest])), (h_t_w, .inl (cA, 190, .inl f_t_w))]) (WR := []) (W' := [(h_t, .inr (10, [.ref h_t_w, .int f_t_known, .int f_t_kept, .int f_t_seed, .ref h_t_imageSeed, .ref h_t_bookOf, .ref h_t_bookIs, .int f_t_written, .ref h_t_forms, .int f_t_formRing, .int f_t_formMany, .ref h_t_best, .ref h_t_next, .ref h_t_ways, .ref h_t_round, .ref h_t_roughs, .int f_t_latest])), (h_t_w, .inl (cA, 190, .inl f_t_w))]) ⟨hx, hb, hml, hown, hts⟩ hK hP hD hS hA (c_Md_pairsApart l dC dI cA fu h_t h_t_w h_t_imageSeed h_t_bookOf h_t_bookIs h_t_forms h_t_best h_t_next h_t_ways h_t_round h_t_roughs f_t_known f_t_kept f_t_seed f_t_written f_t_formRing f_t_formMany f_t_latest f_t_w a1 v4_2 r_4 hc39) (cwV 2 hts gX11_areLike_X11_pairsApart rfl rfl rfl (by decide +kernel) ⟨Nat.le_of_ble_eq_true rfl, Nat.le_of_ble_eq_true rfl⟩) [0, 1] [] [0, 1] rfl rfl rfl rfl (ci := 10) (q0 := 0) rfl rfl rfl rfl hl.1 (Nat.le_of_ble_eq_true rfl) dX11_areLike_39 ⟨Nat.zero_le _, Nat.zero_le _⟩ (fun H locs hP hD hS => ?_)
            refine lv_aload_n hx hb dX11_areLike_42 rfl (lv_at hl 0 rfl) ?_
            refine lv_iload_n hx hb dX11_areLike_43 rfl (lv_at hl 2 rfl) ?_
            refine lv_iload hx hb dX11_areLike_44 (lv_at hl 4 rfl) ?_
            obtain ⟨r_5, hc46, hm⟩ := bd1_go hm
            refine my_cVi (As := [.int a2, .int v4_2]) (rest := [.int r_4]) (WC := [(h_t, .inr (10, [.ref h_t_w, .int f_t_known, .int f_t_kept, .int f_t_seed, .ref h_t_imageSeed, .ref h_t_bookOf, .ref h_t_bookIs, .int f_t_written, .ref h_t_forms, .int f_t_formRing, .int f_t_formMany, .ref h_t_best, .ref h_t_next, .ref h_t_ways, .ref h_t_round, .ref h_t_roughs, .int f_t_latest])), (h_t_w, .inl (cA, 190, .inl f_t_w))]) (WC' := [(h_t, .inr (10, [.ref h_t_w, .int f_t_known, .int f_t_kept, .int f_t_seed, .ref h_t_imageSeed, .ref h_t_bookOf, .ref h_t_bookIs, .int f_t_written, .ref h_t_forms, .int f_t_formRing, .int f_t_formMany, .ref h_t_best, .ref h_t_next, .ref h_t_ways, .ref h_t_round, .ref h_t_roughs, .int f_t_latest])), (h_t_w, .inl (cA, 190, .inl f_t_w))]) (WR := []) (W' := [(h_t, .inr (10, [.ref h_t_w, .int f_t_known, .int f_t_kept, .int f_t_seed, .ref h_t_imageSeed, .ref h_t_bookOf, .ref h_t_bookIs, .int f_t_written, .ref h_t_forms, .int f_t_formRing, .int f_t_formMany, .ref h_t_best, .ref h_t_next, .ref h_t_ways, .ref h_t_round, .ref h_t_roughs, .int f_t_latest])), (h_t_w, .inl (cA, 190, .inl f_t_w))]) ⟨hx, hb, hml, hown, hts⟩ hK hP hD hS hA (c_Md_pairsApart l dC dI cA fu h_t h_t_w h_t_imageSeed h_t_bookOf h_t_bookIs h_t_forms h_t_best h_t_next h_t_ways h_t_round h_t_roughs f_t_known f_t_kept f_t_seed f_t_written f_t_formRing f_t_formMany f_t_latest f_t_w a2 v4_2 r_5 hc46) (cwV 2 hts gX11_areLike_X11_pairsApart rfl rfl rfl (by decide +kernel) ⟨Nat.le_of_ble_eq_true rfl, Nat.le_of_ble_eq_true rfl⟩) [0, 1] [] [0, 1] rfl rfl rfl rfl (ci := 10) (q0 := 0) rfl rfl rfl rfl hl.1 (Nat.le_of_ble_eq_true rfl) dX11_areLike_46 ⟨Nat.zero_le _, Nat.zero_le _⟩ (fun H locs hP hD hS => ?_)
            obtain ⟨q57_1, hqJ_2, hm⟩ := bd1_go hm
            have J_2 : ∀ (H : Heap) (locs : List Loc), va_P (dC, dI) vwCl [(h_t, .inr (10, [.ref h_t_w, .int f_t_known, .int f_t_kept, .int f_t_seed, .ref h_t_imageSeed, .ref h_t_bookOf, .ref h_t_bookIs, .int f_t_written, .ref h_t_forms, .int f_t_formRing, .int f_t_formMany, .ref h_t_best, .ref h_t_next, .ref h_t_ways, .ref h_t_round, .ref h_t_roughs, .int f_t_latest])), (h_t_w, .inl (cA, 190, .inl f_t_w))] H → va_D A [(h_t, .inr (10, [.ref h_t_w, .int f_t_known, .int f_t_kept, .int f_t_seed, .ref h_t_imageSeed, .ref h_t_bookOf, .ref h_t_bookIs, .int f_t_written, .ref h_t_forms, .int f_t_formRing, .int f_t_formMany, .ref h_t_best, .ref h_t_next, .ref h_t_ways, .ref h_t_round, .ref h_t_roughs, .int f_t_latest])), (h_t_w, .inl (cA, 190, .inl f_t_w))] → va_S A s.heap H locs → ∀ ls : Array Slot, lv_has ls 5 [(0, .ref h_t), (1, .int a1), (2, .int a2), (4, .int v4_2)] → W p l e (headSpec wsX11_areLike rmX11_areLike).room s m (([.ref h_t, .int a1, .int a2] : List Value).toArray) below meth c H locs 0 0 Q (F0 m 57 ls [.int q57_1]) := by
              intro H locs hP hD hS ls hl
              clear hqJ_2
              refine lv_topi (fun v3_4 ev3_4 => ?_)
              replace hm := lt_go ev3_4 hm
              refine lv_istore_n (lv' := [(3, .int v3_4), (0, .ref h_t), (1, .int a1), (2, .int a2), (4, .int v4_2)]) hx hb dX11_areLike_57 rfl hl (by decide) rfl (fun ls hl => ?_)
              obtain ⟨v4_3, ev4_3⟩ : ∃ z : Int32, z = v4_2 + 1 := ⟨_, rfl⟩
              replace hm := lt_go ev4_3 hm
              refine lv_iinc (v := v4_3) (lv' := [(4, .int v4_3), (3, .int v3_4), (0, .ref h_t), (1, .int a1), (2, .int a2)]) hx hb dX11_areLike_58 hl (k := 4) rfl (by rw [ev4_3]; rfl) (by decide) rfl (fun ls hl => ?_)
              refine lv_goto (tgt := 20) hx hb dX11_areLike_61 (by decide) ?_
              exact ih _ _ _ hm _ _ hP hD hS _ (lv_sub hl [2, 3, 4, 1, 0] rfl) KK
            clear hm
            refine lv_icmp_ne (tgt := 56) hx hb dX11_areLike_49 (by decide) (fun c49 => ?_) (fun c49 => ?_)
            · replace hqJ_2 := if_f c49 hqJ_2
              refine lv_iconst (v := 0) hx hb dX11_areLike_56 (by decide) ?_
              cases hqJ_2
              exact J_2 _ _ hP hD hS _ (lv_sub hl [0, 1, 2, 4] rfl)
            · replace hqJ_2 := if_t c49 hqJ_2
              refine lv_iconst (v := 1) hx hb dX11_areLike_52 (by decide) ?_
              refine lv_goto (tgt := 57) hx hb dX11_areLike_53 (by decide) ?_
              cases hqJ_2
              exact J_2 _ _ hP hD hS _ (lv_sub hl [0, 1, 2, 4] rfl)
    obtain ⟨v3_5, hl20, hm⟩ := bd1_go hm
    refine L20 _ _ _ _ hl20 _ _ hP hD hS _ (lv_sub hl [2, 3, 4, 1, 0] rfl) (fun H locs hP hD hS ls hl => ?_)
    refine lv_iload_n hx hb dX11_areLike_64 rfl (lv_at hl 0 rfl) ?_
    obtain ⟨hz, hm⟩ := bz_go hm
    have hz := nar_b hz
    cases hm
    exact W_mono hQ (W.zret hx hb hr hz (fun t ht hW => ⟨⟨_, (), rfl, rfl, by rw [ht]; exact hP, va_K.moved hW.alike hK, hD⟩, hS.F ht⟩) hS.2.2 dX11_areLike_65)
  clear hm
  refine lv_icmp_ne (tgt := 15) hx hb dX11_areLike_8 (by decide) (fun c8 => ?_) (fun c8 => ?_)
  · replace hqJ_1 := if_f c8 hqJ_1
    refine lv_iconst (v := 0) hx hb dX11_areLike_15 (by decide) ?_
    cases hqJ_1
    exact J_1 _ _ hP hD hS _ (lv_sub hl [0, 1, 2] rfl)
  · replace hqJ_1 := if_t c8 hqJ_1
    refine lv_iconst (v := 1) hx hb dX11_areLike_11 (by decide) ?_
    refine lv_goto (tgt := 16) hx hb dX11_areLike_12 (by decide) ?_
    cases hqJ_1
    exact J_1 _ _ hP hD hS _ (lv_sub hl [0, 1, 2] rfl)
abbrev rmX11_areWays : Room := { frames := 0, cells := 0, slots := 0, locals := 0 }
theorem uX11_X11_areWays : ∀ w ∈ wsX110, w ∈ wsX11_areWays := fun _ h => List.mem_cons_of_mem _ (List.mem_append_right _ (h))
set_option maxHeartbeats 40000000 in
set_option maxRecDepth 100000 in
theorem c_Md_areWays (l : Launch) (dC : Nat → ClassId) (dI : Nat → Nat → Nat) (cA : ClassId) (h_t h_t_w h_t_imageSeed h_t_bookOf h_t_bookIs h_t_forms h_t_best h_t_next h_t_ways h_t_round h_t_roughs : Nat) (f_t_known : Int32) (f_t_kept : Int32) (f_t_seed : Int32) (f_t_written : Int32) (f_t_formRing : Int32) (f_t_formMany : Int32) (f_t_latest : Int32) (f_t_w : Nat → Int32) (a1 : Int32) (a2 : Int32) (r0 : Int32) (hm : m_Md_areWays f_t_w a1 a2 = some r0) (sz : Nat) : Met l yX11_areWays wsX11_areWays rmX11_areWays (mPre (dC, dI) cA [.ref h_t, .int a1, .int a2] sz [(h_t, .inr (10, [.ref h_t_w, .int f_t_known, .int f_t_kept, .int f_t_seed, .ref h_t_imageSeed, .ref h_t_bookOf, .ref h_t_bookIs, .int f_t_written, .ref h_t_forms, .int f_t_formRing, .int f_t_formMany, .ref h_t_best, .ref h_t_next, .ref h_t_ways, .ref h_t_round, .ref h_t_roughs, .int f_t_latest])), (h_t_w, .inl (cA, 190, .inl f_t_w))]) (mPosI (dC, dI) cA r0 (va_A [(h_t, .inr (10, [.ref h_t_w, .int f_t_known, .int f_t_kept, .int f_t_seed, .ref h_t_imageSeed, .ref h_t_bookOf, .ref h_t_bookIs, .int f_t_written, .ref h_t_forms, .int f_t_formRing, .int f_t_formMany, .ref h_t_best, .ref h_t_next, .ref h_t_ways, .ref h_t_round, .ref h_t_roughs, .int f_t_latest])), (h_t_w, .inl (cA, 190, .inl f_t_w))] sz) [(h_t, .inr (10, [.ref h_t_w, .int f_t_known, .int f_t_kept, .int f_t_seed, .ref h_t_imageSeed, .ref h_t_bookOf, .ref h_t_bookIs, .int f_t_written, .ref h_t_forms, .int f_t_formRing, .int f_t_formMany, .ref h_t_best, .ref h_t_next, .ref h_t_ways, .ref h_t_round, .ref h_t_roughs, .int f_t_latest])), (h_t_w, .inl (cA, 190, .inl f_t_w))]) 0 0 (va_A [(h_t, .inr (10, [.ref h_t_w, .int f_t_known, .int f_t_kept, .int f_t_seed, .ref h_t_imageSeed, .ref h_t_bookOf, .ref h_t_bookIs, .int f_t_written, .ref h_t_forms, .int f_t_formRing, .int f_t_formMany, .ref h_t_best, .ref h_t_next, .ref h_t_ways, .ref h_t_round, .ref h_t_roughs, .int f_t_latest])), (h_t_w, .inl (cA, 190, .inl f_t_w))] sz) := by
  refine Met.ofW (cc := cX11_areWays) (maxL := 3) (ret := (some .boolean)) (by decide) rfl ?_
  intro p e s m args below meth c s₁ B hml hv
  obtain ⟨rfl, hsz, hP, hK, hD0⟩ := hv
  refine W_gen (fun Q hQ => ?_)
  have hx := B.exec
  have hb := B.bytes
  have hr := B.returns
  have hts := atoms_spec (ws := wsX11_areWays) B.pre
  have hown : s.vm.findClass RX11 = some m.cls := findClass_of_methodNamed B.named
  have hlocks := B.notSynchronized
  subst hsz
  have hD := hD0.self (sz := s.heap.size)
  clear hD0
  generalize hAe : va_A [(h_t, .inr (10, [.ref h_t_w, .int f_t_known, .int f_t_kept, .int f_t_seed, .ref h_t_imageSeed, .ref h_t_bookOf, .ref h_t_bookIs, .int f_t_written, .ref h_t_forms, .int f_t_formRing, .int f_t_formMany, .ref h_t_best, .ref h_t_next, .ref h_t_ways, .ref h_t_round, .ref h_t_roughs, .int f_t_latest])), (h_t_w, .inl (cA, 190, .inl f_t_w))] s.heap.size = A at hD hQ
  have hA : ∀ q : Nat, s.heap.size ≤ q → A q := fun q h => by rw [← hAe]; exact Or.inr h
  clear hAe
  have hS : va_S A s.heap s.heap [] := va_S.rf
  have hl := lv_entry ([.ref h_t, .int a1, .int a2]) (n := 3) (Nat.le_of_ble_eq_true rfl)
  rw [lg_entry_eq]
  generalize (lg_sl ([.ref h_t, .int a1, .int a2]) ++ List.replicate (3 - (lg_sl ([.ref h_t, .int a1, .int a2])).length) Slot.unset).toArray = ls at hl ⊢
  have hl : lv_has ls 3 [(0, .ref h_t), (1, .int a1), (2, .int a2)] := hl
  have k1 := hts (.fieldLink RX11 7 "ToneSetsModel" "w" "[I") (List.mem_of_getElem? (i := 1) rfl)
  have uX11 := uX11_X11_areWays
  unfold m_Md_areWays at hm
  refine lv_aload_n hx hb dX11_areWays_0 rfl (lv_at hl 0 rfl) ?_
  refine va_get (D := (dC, dI)) (ci := 10) (v := .ref h_t_w) (C := RX11) (T := TX11) (N := 17) hx hb hts uX11 hown hK hP 0 rfl rfl 0 (by decide) k1 (fun _ h9 => h9) rfl dX11_areWays_1 ?_
  refine lv_iconst (v := 2) hx hb dX11_areWays_4 (by decide) ?_
  refine lv_iload_n hx hb dX11_areWays_5 rfl (lv_at hl 1 rfl) ?_
  refine lv_iadd hx hb dX11_areWays_6 ?_
  obtain ⟨b7, hm⟩ := ck_go hm
  refine va_iald hx hb hK hP 1 0 rfl rfl b7 dX11_areWays_7 ?_
  refine lv_if_eq (tgt := 26) hx hb dX11_areWays_8 (by decide) (fun c8 => ?_) (fun c8 => ?_)
  · replace hm := if_t c8 hm
    refine lv_iconst (v := 0) hx hb dX11_areWays_26 (by decide) ?_
    cases hm
    exact W_mono hQ (W.zret hx hb hr rfl (fun t ht hW => ⟨⟨_, (), rfl, rfl, by rw [ht]; exact hP, va_K.moved hW.alike hK, hD⟩, hS.F ht⟩) hS.2.2 dX11_areWays_27)
  · replace hm := if_f c8 hm
    refine lv_aload_n hx hb dX11_areWays_11 rfl (lv_at hl 0 rfl) ?_
    refine va_get (D := (dC, dI)) (ci := 10) (v := .ref h_t_w) (C := RX11) (T := TX11) (N := 17) hx hb hts uX11 hown hK hP 0 rfl rfl 0 (by decide) k1 (fun _ h9 => h9) rfl dX11_areWays_12 ?_
    refine lv_iconst (v := 2) hx hb dX11_areWays_15 (by decide) ?_
    refine lv_iload_n hx hb dX11_areWays_16 rfl (lv_at hl 2 rfl) ?_
    refine lv_iadd hx hb dX11_areWays_17 ?_
    obtain ⟨b18, hm⟩ := ck_go hm
    refine va_iald hx hb hK hP 1 0 rfl rfl b18 dX11_areWays_18 ?_
    refine lv_if_eq (tgt := 26) hx hb dX11_areWays_19 (by decide) (fun c19 => ?_) (fun c19 => ?_)
    · replace hm := if_t c19 hm
      refine lv_iconst (v := 0) hx hb dX11_areWays_26 (by decide) ?_
      cases hm
      exact W_mono hQ (W.zret hx hb hr rfl (fun t ht hW => ⟨⟨_, (), rfl, rfl, by rw [ht]; exact hP, va_K.moved hW.alike hK, hD⟩, hS.F ht⟩) hS.2.2 dX11_areWays_27)
    · replace hm := if_f c19 hm
      refine lv_iconst (v := 1) hx hb dX11_areWays_22 (by decide) ?_
      refine lv_goto (tgt := 27) hx hb dX11_areWays_23 (by decide) ?_
      cases hm
      exact W_mono hQ (W.zret hx hb hr rfl (fun t ht hW => ⟨⟨_, (), rfl, rfl, by rw [ht]; exact hP, va_K.moved hW.alike hK, hD⟩, hS.F ht⟩) hS.2.2 dX11_areWays_27)
abbrev rmX11_in : Room := { frames := 0, cells := 0, slots := 0, locals := 0 }
set_option maxHeartbeats 40000000 in
set_option maxRecDepth 100000 in
theorem c_Md_in (l : Launch) (dC : Nat → ClassId) (dI : Nat → Nat → Nat) (cA : ClassId) (a0 : Int64) (a2 : Int64) (a4 : Int64) (r0 : Int32) (hm : m_Md_in a0 a2 a4 = some r0) (sz : Nat) : Met l yX11_in wsX11_in rmX11_in (mPre (dC, dI) cA [.long a0, .long a2, .long a4] sz []) (mPosI (dC, dI) cA r0 (va_A [] sz) []) 0 0 (va_A [] sz) := by
  refine Met.ofW (cc := cX11_in) (maxL := 6) (ret := (some .boolean)) (by decide) rfl ?_
  intro p e s m args below meth c s₁ B hml hv
  obtain ⟨rfl, hsz, hP, hK, hD0⟩ := hv
  refine W_gen (fun Q hQ => ?_)
  have hx := B.exec
  have hb := B.bytes
  have hr := B.returns
  have hts := atoms_spec (ws := wsX11_in) B.pre
  have hown : s.vm.findClass RX11 = some m.cls := findClass_of_methodNamed B.named
  have hlocks := B.notSynchronized
  subst hsz
  have hD := hD0.self (sz := s.heap.size)
  clear hD0
  generalize hAe : va_A [] s.heap.size = A at hD hQ
  have hA : ∀ q : Nat, s.heap.size ≤ q → A q := fun q h => by rw [← hAe]; exact Or.inr h
  clear hAe
  have hS : va_S A s.heap s.heap [] := va_S.rf
  have hl := lv_entry ([.long a0, .long a2, .long a4]) (n := 6) (Nat.le_of_ble_eq_true rfl)
  rw [lg_entry_eq]
  generalize (lg_sl ([.long a0, .long a2, .long a4]) ++ List.replicate (6 - (lg_sl ([.long a0, .long a2, .long a4])).length) Slot.unset).toArray = ls at hl ⊢
  have hl : lv_has ls 6 [(0, .long a0), (2, .long a2), (4, .long a4)] := hl
  unfold m_Md_in at hm
  refine lv_lload_n hx hb dX11_in_0 rfl (lv_at hl 0 rfl) ?_
  refine lv_lload_n hx hb dX11_in_1 rfl (lv_at hl 1 rfl) ?_
  refine W.lcmp hx hb dX11_in_2 ?_
  refine lv_if_lt (tgt := 17) hx hb dX11_in_3 (by decide) (fun c3 => ?_) (fun c3 => ?_)
  · replace hm := if_t c3 hm
    refine lv_iconst (v := 0) hx hb dX11_in_17 (by decide) ?_
    cases hm
    exact W_mono hQ (W.zret hx hb hr rfl (fun t ht hW => ⟨⟨_, (), rfl, rfl, by rw [ht]; exact hP, va_K.moved hW.alike hK, hD⟩, hS.F ht⟩) hS.2.2 dX11_in_18)
  · replace hm := if_f c3 hm
    refine lv_lload_n hx hb dX11_in_6 rfl (lv_at hl 0 rfl) ?_
    refine lv_lload hx hb dX11_in_7 (lv_at hl 2 rfl) ?_
    refine W.lcmp hx hb dX11_in_9 ?_
    refine lv_if_gt (tgt := 17) hx hb dX11_in_10 (by decide) (fun c10 => ?_) (fun c10 => ?_)
    · replace hm := if_t c10 hm
      refine lv_iconst (v := 0) hx hb dX11_in_17 (by decide) ?_
      cases hm
      exact W_mono hQ (W.zret hx hb hr rfl (fun t ht hW => ⟨⟨_, (), rfl, rfl, by rw [ht]; exact hP, va_K.moved hW.alike hK, hD⟩, hS.F ht⟩) hS.2.2 dX11_in_18)
    · replace hm := if_f c10 hm
      refine lv_iconst (v := 1) hx hb dX11_in_13 (by decide) ?_
      refine lv_goto (tgt := 18) hx hb dX11_in_14 (by decide) ?_
      cases hm
      exact W_mono hQ (W.zret hx hb hr rfl (fun t ht hW => ⟨⟨_, (), rfl, rfl, by rw [ht]; exact hP, va_K.moved hW.alike hK, hD⟩, hS.F ht⟩) hS.2.2 dX11_in_18)
abbrev rmX11_isPlace : Room := { frames := 1, cells := 0, slots := 0, locals := 25 }
theorem uX11_X11_isPlace : ∀ w ∈ wsX110, w ∈ wsX11_isPlace := fun _ h => List.mem_cons_of_mem _ (List.mem_append_right _ (h))
set_option maxHeartbeats 40000000 in
set_option maxRecDepth 100000 in
theorem c_Md_isPlace (l : Launch) (dC : Nat → ClassId) (dI : Nat → Nat → Nat) (cA : ClassId) (h_t h_t_w h_t_imageSeed h_t_bookOf h_t_bookIs h_t_forms h_t_best h_t_next h_t_ways h_t_round h_t_roughs : Nat) (f_t_known : Int32) (f_t_kept : Int32) (f_t_seed : Int32) (f_t_written : Int32) (f_t_formRing : Int32) (f_t_formMany : Int32) (f_t_latest : Int32) (f_t_w : Nat → Int32) (a1 : Int32) (r0 : Int32) (hm : m_Md_isPlace f_t_w a1 = some r0) (sz : Nat) : Met l yX11_isPlace wsX11_isPlace rmX11_isPlace (mPre (dC, dI) cA [.ref h_t, .int a1] sz [(h_t, .inr (10, [.ref h_t_w, .int f_t_known, .int f_t_kept, .int f_t_seed, .ref h_t_imageSeed, .ref h_t_bookOf, .ref h_t_bookIs, .int f_t_written, .ref h_t_forms, .int f_t_formRing, .int f_t_formMany, .ref h_t_best, .ref h_t_next, .ref h_t_ways, .ref h_t_round, .ref h_t_roughs, .int f_t_latest])), (h_t_w, .inl (cA, 190, .inl f_t_w))]) (mPosI (dC, dI) cA r0 (va_A [(h_t, .inr (10, [.ref h_t_w, .int f_t_known, .int f_t_kept, .int f_t_seed, .ref h_t_imageSeed, .ref h_t_bookOf, .ref h_t_bookIs, .int f_t_written, .ref h_t_forms, .int f_t_formRing, .int f_t_formMany, .ref h_t_best, .ref h_t_next, .ref h_t_ways, .ref h_t_round, .ref h_t_roughs, .int f_t_latest])), (h_t_w, .inl (cA, 190, .inl f_t_w))] sz) [(h_t, .inr (10, [.ref h_t_w, .int f_t_known, .int f_t_kept, .int f_t_seed, .ref h_t_imageSeed, .ref h_t_bookOf, .ref h_t_bookIs, .int f_t_written, .ref h_t_forms, .int f_t_formRing, .int f_t_formMany, .ref h_t_best, .ref h_t_next, .ref h_t_ways, .ref h_t_round, .ref h_t_roughs, .int f_t_latest])), (h_t_w, .inl (cA, 190, .inl f_t_w))]) 0 0 (va_A [(h_t, .inr (10, [.ref h_t_w, .int f_t_known, .int f_t_kept, .int f_t_seed, .ref h_t_imageSeed, .ref h_t_bookOf, .ref h_t_bookIs, .int f_t_written, .ref h_t_forms, .int f_t_formRing, .int f_t_formMany, .ref h_t_best, .ref h_t_next, .ref h_t_ways, .ref h_t_round, .ref h_t_roughs, .int f_t_latest])), (h_t_w, .inl (cA, 190, .inl f_t_w))] sz) := by
  refine Met.ofW (cc := cX11_isPlace) (maxL := 2) (ret := (some .boolean)) (by decide) rfl ?_
  intro p e s m args below meth c s₁ B hml hv
  obtain ⟨rfl, hsz, hP, hK, hD0⟩ := hv
  refine W_gen (fun Q hQ => ?_)
  have hx := B.exec
  have hb := B.bytes
  have hr := B.returns
  have hts := atoms_spec (ws := wsX11_isPlace) B.pre
  have hown : s.vm.findClass RX11 = some m.cls := findClass_of_methodNamed B.named
  have hlocks := B.notSynchronized
  subst hsz
  have hD := hD0.self (sz := s.heap.size)
  clear hD0
  generalize hAe : va_A [(h_t, .inr (10, [.ref h_t_w, .int f_t_known, .int f_t_kept, .int f_t_seed, .ref h_t_imageSeed, .ref h_t_bookOf, .ref h_t_bookIs, .int f_t_written, .ref h_t_forms, .int f_t_formRing, .int f_t_formMany, .ref h_t_best, .ref h_t_next, .ref h_t_ways, .ref h_t_round, .ref h_t_roughs, .int f_t_latest])), (h_t_w, .inl (cA, 190, .inl f_t_w))] s.heap.size = A at hD hQ
  have hA : ∀ q : Nat, s.heap.size ≤ q → A q := fun q h => by rw [← hAe]; exact Or.inr h
  clear hAe
  have hS : va_S A s.heap s.heap [] := va_S.rf
  have hl := lv_entry ([.ref h_t, .int a1]) (n := 2) (Nat.le_of_ble_eq_true rfl)
  rw [lg_entry_eq]
  generalize (lg_sl ([.ref h_t, .int a1]) ++ List.replicate (2 - (lg_sl ([.ref h_t, .int a1])).length) Slot.unset).toArray = ls at hl ⊢
  have hl : lv_has ls 2 [(0, .ref h_t), (1, .int a1)] := hl
  have k1 := hts (.fieldLink RX11 7 "ToneSetsModel" "w" "[I") (List.mem_of_getElem? (i := 1) rfl)
  have uX11 := uX11_X11_isPlace
  unfold m_Md_isPlace at hm
  refine lv_iload_n hx hb dX11_isPlace_0 rfl (lv_at hl 1 rfl) ?_
  refine lv_i2l (v := Int32.toInt64 a1) hx hb dX11_isPlace_1 rfl ?_
  refine lv_lconst (v := 0) hx hb dX11_isPlace_2 (by decide) ?_
  refine lv_aload_n hx hb dX11_isPlace_3 rfl (lv_at hl 0 rfl) ?_
  refine va_get (D := (dC, dI)) (ci := 10) (v := .ref h_t_w) (C := RX11) (T := TX11) (N := 17) hx hb hts uX11 hown hK hP 0 rfl rfl 0 (by decide) k1 (fun _ h9 => h9) rfl dX11_isPlace_4 ?_
  refine lv_iconst (v := 1) hx hb dX11_isPlace_7 (by decide) ?_
  obtain ⟨b8, hm⟩ := ck_go hm
  refine va_iald hx hb hK hP 1 0 rfl rfl b8 dX11_isPlace_8 ?_
  refine lv_iconst (v := 1) hx hb dX11_isPlace_9 (by decide) ?_
  refine lv_isub hx hb dX11_isPlace_10 ?_
  refine lv_i2l (v := Int32.toInt64 ((f_t_w (1 : Int32).toNatClampNeg) - 1)) hx hb dX11_isPlace_11 rfl ?_
  obtain ⟨r_1, hc12, hm⟩ := bd1_go hm
  refine my_cSi (As := [.long (Int32.toInt64 a1), .long 0, .long (Int32.toInt64 ((f_t_w (1 : Int32).toNatClampNeg) - 1))]) (rest := []) (WC := []) (WC' := []) (WR := [(h_t, .inr (10, [.ref h_t_w, .int f_t_known, .int f_t_kept, .int f_t_seed, .ref h_t_imageSeed, .ref h_t_bookOf, .ref h_t_bookIs, .int f_t_written, .ref h_t_forms, .int f_t_formRing, .int f_t_formMany, .ref h_t_best, .ref h_t_next, .ref h_t_ways, .ref h_t_round, .ref h_t_roughs, .int f_t_latest])), (h_t_w, .inl (cA, 190, .inl f_t_w))]) (W' := [(h_t, .inr (10, [.ref h_t_w, .int f_t_known, .int f_t_kept, .int f_t_seed, .ref h_t_imageSeed, .ref h_t_bookOf, .ref h_t_bookIs, .int f_t_written, .ref h_t_forms, .int f_t_formRing, .int f_t_formMany, .ref h_t_best, .ref h_t_next, .ref h_t_ways, .ref h_t_round, .ref h_t_roughs, .int f_t_latest])), (h_t_w, .inl (cA, 190, .inl f_t_w))]) ⟨hx, hb, hml, hown, hts⟩ hK hP hD hS hA (c_Md_in l dC dI cA (Int32.toInt64 a1) 0 (Int32.toInt64 ((f_t_w (1 : Int32).toNatClampNeg) - 1)) r_1 hc12) (va_cwS 3 hts gX11_isPlace_X11_in rfl rfl rfl (by decide +kernel) ⟨Nat.le_of_ble_eq_true rfl, Nat.le_of_ble_eq_true rfl⟩) [] [0, 1] [0, 1] rfl rfl rfl rfl rfl rfl hl.1 (Nat.le_of_ble_eq_true rfl) dX11_isPlace_12 ⟨Nat.zero_le _, Nat.zero_le _⟩ (fun H locs hP hD hS => ?_)
  obtain ⟨hz, hm⟩ := bz_go hm
  have hz := nar_b hz
  cases hm
  exact W_mono hQ (W.zret hx hb hr hz (fun t ht hW => ⟨⟨_, (), rfl, rfl, by rw [ht]; exact hP, va_K.moved hW.alike hK, hD⟩, hS.F ht⟩) hS.2.2 dX11_isPlace_15)
abbrev rmX11_moved : Room := { frames := 1, cells := 0, slots := 0, locals := 21 }
set_option maxHeartbeats 40000000 in
set_option maxRecDepth 100000 in
theorem c_Md_moved (l : Launch) (dC : Nat → ClassId) (dI : Nat → Nat → Nat) (cA : ClassId) (fu : Nat) (h_t h_t_w h_t_imageSeed h_t_bookOf h_t_bookIs h_t_forms h_t_best h_t_next h_t_ways h_t_round h_t_roughs : Nat) (f_t_known : Int32) (f_t_kept : Int32) (f_t_seed : Int32) (f_t_written : Int32) (f_t_formRing : Int32) (f_t_formMany : Int32) (f_t_latest : Int32) (f_t_w : Nat → Int32) (a1 : Int32) (a2 : Int32) (a3 : Int32) (r0 : Int32) (hm : m_Md_moved fu f_t_w a1 a2 a3 = some r0) (sz : Nat) : Met l yX11_moved wsX11_moved rmX11_moved (mPre (dC, dI) cA [.ref h_t, .int a1, .int a2, .int a3] sz [(h_t, .inr (10, [.ref h_t_w, .int f_t_known, .int f_t_kept, .int f_t_seed, .ref h_t_imageSeed, .ref h_t_bookOf, .ref h_t_bookIs, .int f_t_written, .ref h_t_forms, .int f_t_formRing, .int f_t_formMany, .ref h_t_best, .ref h_t_next, .ref h_t_ways, .ref h_t_round, .ref h_t_roughs, .int f_t_latest])), (h_t_w, .inl (cA, 190, .inl f_t_w))]) (mPosI (dC, dI) cA r0 (va_A [(h_t, .inr (10, [.ref h_t_w, .int f_t_known, .int f_t_kept, .int f_t_seed, .ref h_t_imageSeed, .ref h_t_bookOf, .ref h_t_bookIs, .int f_t_written, .ref h_t_forms, .int f_t_formRing, .int f_t_formMany, .ref h_t_best, .ref h_t_next, .ref h_t_ways, .ref h_t_round, .ref h_t_roughs, .int f_t_latest])), (h_t_w, .inl (cA, 190, .inl f_t_w))] sz) [(h_t, .inr (10, [.ref h_t_w, .int f_t_known, .int f_t_kept, .int f_t_seed, .ref h_t_imageSeed, .ref h_t_bookOf, .ref h_t_bookIs, .int f_t_written, .ref h_t_forms, .int f_t_formRing, .int f_t_formMany, .ref h_t_best, .ref h_t_next, .ref h_t_ways, .ref h_t_round, .ref h_t_roughs, .int f_t_latest])), (h_t_w, .inl (cA, 190, .inl f_t_w))]) 0 0 (va_A [(h_t, .inr (10, [.ref h_t_w, .int f_t_known, .int f_t_kept, .int f_t_seed, .ref h_t_imageSeed, .ref h_t_bookOf, .ref h_t_bookIs, .int f_t_written, .ref h_t_forms, .int f_t_formRing, .int f_t_formMany, .ref h_t_best, .ref h_t_next, .ref h_t_ways, .ref h_t_round, .ref h_t_roughs, .int f_t_latest])), (h_t_w, .inl (cA, 190, .inl f_t_w))] sz) := by
  refine Met.ofW (cc := cX11_moved) (maxL := 6) (ret := (some .int)) (by decide) rfl ?_
  intro p e s m args below meth c s₁ B hml hv
  obtain ⟨rfl, hsz, hP, hK, hD0⟩ := hv
  refine W_gen (fun Q hQ => ?_)
  have hx := B.exec
  have hb := B.bytes
  have hr := B.returns
  have hts := atoms_spec (ws := wsX11_moved) B.pre
  have hown : s.vm.findClass RX11 = some m.cls := findClass_of_methodNamed B.named
  have hlocks := B.notSynchronized
  subst hsz
  have hD := hD0.self (sz := s.heap.size)
  clear hD0
  generalize hAe : va_A [(h_t, .inr (10, [.ref h_t_w, .int f_t_known, .int f_t_kept, .int f_t_seed, .ref h_t_imageSeed, .ref h_t_bookOf, .ref h_t_bookIs, .int f_t_written, .ref h_t_forms, .int f_t_formRing, .int f_t_formMany, .ref h_t_best, .ref h_t_next, .ref h_t_ways, .ref h_t_round, .ref h_t_roughs, .int f_t_latest])), (h_t_w, .inl (cA, 190, .inl f_t_w))] s.heap.size = A at hD hQ
  have hA : ∀ q : Nat, s.heap.size ≤ q → A q := fun q h => by rw [← hAe]; exact Or.inr h
  clear hAe
  have hS : va_S A s.heap s.heap [] := va_S.rf
  have hl := lv_entry ([.ref h_t, .int a1, .int a2, .int a3]) (n := 6) (Nat.le_of_ble_eq_true rfl)
  rw [lg_entry_eq]
  generalize (lg_sl ([.ref h_t, .int a1, .int a2, .int a3]) ++ List.replicate (6 - (lg_sl ([.ref h_t, .int a1, .int a2, .int a3])).length) Slot.unset).toArray = ls at hl ⊢
  have hl : lv_has ls 6 [(0, .ref h_t), (1, .int a1), (2, .int a2), (3, .int a3)] := hl
  unfold m_Md_moved at hm
  refine lv_iconst (v := 0) hx hb dX11_moved_0 (by decide) ?_
  refine lv_topi (fun v4_1 ev4_1 => ?_)
  replace hm := lt_go ev4_1 hm
  refine lv_istore (lv' := [(4, .int v4_1), (0, .ref h_t), (1, .int a1), (2, .int a2), (3, .int a3)]) hx hb dX11_moved_1 hl (by decide) rfl (fun ls hl => ?_)
  refine lv_iconst (v := 0) hx hb dX11_moved_3 (by decide) ?_
  refine lv_topi (fun v5_1 ev5_1 => ?_)
  replace hm := lt_go ev5_1 hm
  refine lv_istore (lv' := [(5, .int v5_1), (4, .int v4_1), (0, .ref h_t), (1, .int a1), (2, .int a2), (3, .int a3)]) hx hb dX11_moved_4 hl (by decide) rfl (fun ls hl => ?_)
  have L6 : ∀ (n : Nat) (v4_2 : Int32) (v5_2 : Int32) (v4_3 : Int32), m_Md_moved_L6 f_t_w a1 a2 a3 n v4_2 v5_2 = some v4_3 → ∀ (H : Heap) (locs : List Loc), va_P (dC, dI) vwCl [(h_t, .inr (10, [.ref h_t_w, .int f_t_known, .int f_t_kept, .int f_t_seed, .ref h_t_imageSeed, .ref h_t_bookOf, .ref h_t_bookIs, .int f_t_written, .ref h_t_forms, .int f_t_formRing, .int f_t_formMany, .ref h_t_best, .ref h_t_next, .ref h_t_ways, .ref h_t_round, .ref h_t_roughs, .int f_t_latest])), (h_t_w, .inl (cA, 190, .inl f_t_w))] H → va_D A [(h_t, .inr (10, [.ref h_t_w, .int f_t_known, .int f_t_kept, .int f_t_seed, .ref h_t_imageSeed, .ref h_t_bookOf, .ref h_t_bookIs, .int f_t_written, .ref h_t_forms, .int f_t_formRing, .int f_t_formMany, .ref h_t_best, .ref h_t_next, .ref h_t_ways, .ref h_t_round, .ref h_t_roughs, .int f_t_latest])), (h_t_w, .inl (cA, 190, .inl f_t_w))] → va_S A s.heap H locs → ∀ ls : Array Slot, lv_has ls 6 [(0, .ref h_t), (1, .int a1), (2, .int a2), (3, .int a3), (4, .int v4_2), (5, .int v5_2)] → (∀ (H : Heap) (locs : List Loc), va_P (dC, dI) vwCl [(h_t, .inr (10, [.ref h_t_w, .int f_t_known, .int f_t_kept, .int f_t_seed, .ref h_t_imageSeed, .ref h_t_bookOf, .ref h_t_bookIs, .int f_t_written, .ref h_t_forms, .int f_t_formRing, .int f_t_formMany, .ref h_t_best, .ref h_t_next, .ref h_t_ways, .ref h_t_round, .ref h_t_roughs, .int f_t_latest])), (h_t_w, .inl (cA, 190, .inl f_t_w))] H → va_D A [(h_t, .inr (10, [.ref h_t_w, .int f_t_known, .int f_t_kept, .int f_t_seed, .ref h_t_imageSeed, .ref h_t_bookOf, .ref h_t_bookIs, .int f_t_written, .ref h_t_forms, .int f_t_formRing, .int f_t_formMany, .ref h_t_best, .ref h_t_next, .ref h_t_ways, .ref h_t_round, .ref h_t_roughs, .int f_t_latest])), (h_t_w, .inl (cA, 190, .inl f_t_w))] → va_S A s.heap H locs → ∀ ls : Array Slot, lv_has ls 6 [(4, .int v4_3)] → W p l e (headSpec wsX11_moved rmX11_moved).room s m (([.ref h_t, .int a1, .int a2, .int a3] : List Value).toArray) below meth c H locs 0 0 Q (F0 m 62 ls [])) → W p l e (headSpec wsX11_moved rmX11_moved).room s m (([.ref h_t, .int a1, .int a2, .int a3] : List Value).toArray) below meth c H locs 0 0 Q (F0 m 6 ls []) := by
    clear hm hP hD hS hl
    intro n
    induction n with
    | zero => intro _ _ _ hm; exact nomatch (show none = some _ from hm)
    | succ n ih =>
      intro v4_2 v5_2 v4_3 hm H locs hP hD hS ls hl KK
      unfold m_Md_moved_L6 at hm
      refine lv_iload hx hb dX11_moved_6 (lv_at hl 5 rfl) ?_
      refine lv_aload_n hx hb dX11_moved_8 rfl (lv_at hl 0 rfl) ?_
      obtain ⟨r_1, hc9, hm⟩ := bd1_go hm
      refine my_cVi (As := []) (rest := [.int v5_2]) (WC := [(h_t, .inr (10, [.ref h_t_w, .int f_t_known, .int f_t_kept, .int f_t_seed, .ref h_t_imageSeed, .ref h_t_bookOf, .ref h_t_bookIs, .int f_t_written, .ref h_t_forms, .int f_t_formRing, .int f_t_formMany, .ref h_t_best, .ref h_t_next, .ref h_t_ways, .ref h_t_round, .ref h_t_roughs, .int f_t_latest])), (h_t_w, .inl (cA, 190, .inl f_t_w))]) (WC' := [(h_t, .inr (10, [.ref h_t_w, .int f_t_known, .int f_t_kept, .int f_t_seed, .ref h_t_imageSeed, .ref h_t_bookOf, .ref h_t_bookIs, .int f_t_written, .ref h_t_forms, .int f_t_formRing, .int f_t_formMany, .ref h_t_best, .ref h_t_next, .ref h_t_ways, .ref h_t_round, .ref h_t_roughs, .int f_t_latest])), (h_t_w, .inl (cA, 190, .inl f_t_w))]) (WR := []) (W' := [(h_t, .inr (10, [.ref h_t_w, .int f_t_known, .int f_t_kept, .int f_t_seed, .ref h_t_imageSeed, .ref h_t_bookOf, .ref h_t_bookIs, .int f_t_written, .ref h_t_forms, .int f_t_formRing, .int f_t_formMany, .ref h_t_best, .ref h_t_next, .ref h_t_ways, .ref h_t_round, .ref h_t_roughs, .int f_t_latest])), (h_t_w, .inl (cA, 190, .inl f_t_w))]) ⟨hx, hb, hml, hown, hts⟩ hK hP hD hS hA (c_Md_m l dC dI cA h_t h_t_w h_t_imageSeed h_t_bookOf h_t_bookIs h_t_forms h_t_best h_t_next h_t_ways h_t_round h_t_roughs f_t_known f_t_kept f_t_seed f_t_written f_t_formRing f_t_formMany f_t_latest f_t_w r_1 hc9) (cwV 0 hts gX11_moved_X11_m rfl rfl rfl (by decide +kernel) ⟨Nat.le_of_ble_eq_true rfl, Nat.le_of_ble_eq_true rfl⟩) [0, 1] [] [0, 1] rfl rfl rfl rfl (ci := 10) (q0 := 0) rfl rfl rfl rfl hl.1 (Nat.le_of_ble_eq_true rfl) dX11_moved_9 ⟨Nat.zero_le _, Nat.zero_le _⟩ (fun H locs hP hD hS => ?_)
      refine lv_icmp_ge (tgt := 62) hx hb dX11_moved_12 (by decide) (fun c12 => ?_) (fun c12 => ?_)
      · replace hm := if_t c12 hm
        cases hm
        exact KK _ _ hP hD hS _ (lv_sub hl [4] rfl)
      · replace hm := if_f c12 hm
        refine lv_iload hx hb dX11_moved_15 (lv_at hl 4 rfl) ?_
        refine lv_iload_n hx hb dX11_moved_17 rfl (lv_at hl 1 rfl) ?_
        refine lv_iload hx hb dX11_moved_18 (lv_at hl 5 rfl) ?_
        obtain ⟨r_2, hc20, hm⟩ := bd1_go hm
        refine my_cSi (As := [.int a1, .int v5_2]) (rest := [.int v4_2]) (WC := []) (WC' := []) (WR := [(h_t, .inr (10, [.ref h_t_w, .int f_t_known, .int f_t_kept, .int f_t_seed, .ref h_t_imageSeed, .ref h_t_bookOf, .ref h_t_bookIs, .int f_t_written, .ref h_t_forms, .int f_t_formRing, .int f_t_formMany, .ref h_t_best, .ref h_t_next, .ref h_t_ways, .ref h_t_round, .ref h_t_roughs, .int f_t_latest])), (h_t_w, .inl (cA, 190, .inl f_t_w))]) (W' := [(h_t, .inr (10, [.ref h_t_w, .int f_t_known, .int f_t_kept, .int f_t_seed, .ref h_t_imageSeed, .ref h_t_bookOf, .ref h_t_bookIs, .int f_t_written, .ref h_t_forms, .int f_t_formRing, .int f_t_formMany, .ref h_t_best, .ref h_t_next, .ref h_t_ways, .ref h_t_round, .ref h_t_roughs, .int f_t_latest])), (h_t_w, .inl (cA, 190, .inl f_t_w))]) ⟨hx, hb, hml, hown, hts⟩ hK hP hD hS hA (c_Md_has l dC dI cA a1 v5_2 r_2 hc20) (va_cwS 2 hts gX11_moved_X11_has rfl rfl rfl (by decide +kernel) ⟨Nat.le_of_ble_eq_true rfl, Nat.le_of_ble_eq_true rfl⟩) [] [0, 1] [0, 1] rfl rfl rfl rfl rfl rfl hl.1 (Nat.le_of_ble_eq_true rfl) dX11_moved_20 ⟨Nat.zero_le _, Nat.zero_le _⟩ (fun H locs hP hD hS => ?_)
        obtain ⟨q53_1, hqJ_1, hm⟩ := bd1_go hm
        have J_1 : ∀ (H : Heap) (locs : List Loc), va_P (dC, dI) vwCl [(h_t, .inr (10, [.ref h_t_w, .int f_t_known, .int f_t_kept, .int f_t_seed, .ref h_t_imageSeed, .ref h_t_bookOf, .ref h_t_bookIs, .int f_t_written, .ref h_t_forms, .int f_t_formRing, .int f_t_formMany, .ref h_t_best, .ref h_t_next, .ref h_t_ways, .ref h_t_round, .ref h_t_roughs, .int f_t_latest])), (h_t_w, .inl (cA, 190, .inl f_t_w))] H → va_D A [(h_t, .inr (10, [.ref h_t_w, .int f_t_known, .int f_t_kept, .int f_t_seed, .ref h_t_imageSeed, .ref h_t_bookOf, .ref h_t_bookIs, .int f_t_written, .ref h_t_forms, .int f_t_formRing, .int f_t_formMany, .ref h_t_best, .ref h_t_next, .ref h_t_ways, .ref h_t_round, .ref h_t_roughs, .int f_t_latest])), (h_t_w, .inl (cA, 190, .inl f_t_w))] → va_S A s.heap H locs → ∀ ls : Array Slot, lv_has ls 6 [(0, .ref h_t), (1, .int a1), (2, .int a2), (3, .int a3), (5, .int v5_2)] → W p l e (headSpec wsX11_moved rmX11_moved).room s m (([.ref h_t, .int a1, .int a2, .int a3] : List Value).toArray) below meth c H locs 0 0 Q (F0 m 53 ls [.int q53_1, .int v4_2]) := by
          intro H locs hP hD hS ls hl
          clear hqJ_1
          refine lv_ior hx hb dX11_moved_53 ?_
          refine lv_topi (fun v4_4 ev4_4 => ?_)
          replace hm := lt_go ev4_4 hm
          refine lv_istore (lv' := [(4, .int v4_4), (0, .ref h_t), (1, .int a1), (2, .int a2), (3, .int a3), (5, .int v5_2)]) hx hb dX11_moved_54 hl (by decide) rfl (fun ls hl => ?_)
          obtain ⟨v5_3, ev5_3⟩ : ∃ z : Int32, z = v5_2 + 1 := ⟨_, rfl⟩
          replace hm := lt_go ev5_3 hm
          refine lv_iinc (v := v5_3) (lv' := [(5, .int v5_3), (4, .int v4_4), (0, .ref h_t), (1, .int a1), (2, .int a2), (3, .int a3)]) hx hb dX11_moved_56 hl (k := 5) rfl (by rw [ev5_3]; rfl) (by decide) rfl (fun ls hl => ?_)
          refine lv_goto (tgt := 6) hx hb dX11_moved_59 (by decide) ?_
          exact ih _ _ _ hm _ _ hP hD hS _ (lv_sub hl [2, 3, 4, 5, 1, 0] rfl) KK
        clear hm
        refine lv_if_eq (tgt := 52) hx hb dX11_moved_23 (by decide) (fun c23 => ?_) (fun c23 => ?_)
        · replace hqJ_1 := if_t c23 hqJ_1
          refine lv_iconst (v := 0) hx hb dX11_moved_52 (by decide) ?_
          cases hqJ_1
          exact J_1 _ _ hP hD hS _ (lv_sub hl [0, 1, 2, 3, 5] rfl)
        · replace hqJ_1 := if_f c23 hqJ_1
          refine lv_iconst (v := 1) hx hb dX11_moved_26 (by decide) ?_
          refine lv_iload hx hb dX11_moved_27 (lv_at hl 5 rfl) ?_
          refine lv_iload_n hx hb dX11_moved_29 rfl (lv_at hl 2 rfl) ?_
          refine lv_imul hx hb dX11_moved_30 ?_
          refine lv_iload_n hx hb dX11_moved_31 rfl (lv_at hl 3 rfl) ?_
          refine lv_iadd hx hb dX11_moved_32 ?_
          refine lv_aload_n hx hb dX11_moved_33 rfl (lv_at hl 0 rfl) ?_
          obtain ⟨r_3, hc34, hqJ_1⟩ := bd1_go hqJ_1
          refine my_cVi (As := []) (rest := [.int ((v5_2 * a2) + a3), .int 1, .int v4_2]) (WC := [(h_t, .inr (10, [.ref h_t_w, .int f_t_known, .int f_t_kept, .int f_t_seed, .ref h_t_imageSeed, .ref h_t_bookOf, .ref h_t_bookIs, .int f_t_written, .ref h_t_forms, .int f_t_formRing, .int f_t_formMany, .ref h_t_best, .ref h_t_next, .ref h_t_ways, .ref h_t_round, .ref h_t_roughs, .int f_t_latest])), (h_t_w, .inl (cA, 190, .inl f_t_w))]) (WC' := [(h_t, .inr (10, [.ref h_t_w, .int f_t_known, .int f_t_kept, .int f_t_seed, .ref h_t_imageSeed, .ref h_t_bookOf, .ref h_t_bookIs, .int f_t_written, .ref h_t_forms, .int f_t_formRing, .int f_t_formMany, .ref h_t_best, .ref h_t_next, .ref h_t_ways, .ref h_t_round, .ref h_t_roughs, .int f_t_latest])), (h_t_w, .inl (cA, 190, .inl f_t_w))]) (WR := []) (W' := [(h_t, .inr (10, [.ref h_t_w, .int f_t_known, .int f_t_kept, .int f_t_seed, .ref h_t_imageSeed, .ref h_t_bookOf, .ref h_t_bookIs, .int f_t_written, .ref h_t_forms, .int f_t_formRing, .int f_t_formMany, .ref h_t_best, .ref h_t_next, .ref h_t_ways, .ref h_t_round, .ref h_t_roughs, .int f_t_latest])), (h_t_w, .inl (cA, 190, .inl f_t_w))]) ⟨hx, hb, hml, hown, hts⟩ hK hP hD hS hA (c_Md_m l dC dI cA h_t h_t_w h_t_imageSeed h_t_bookOf h_t_bookIs h_t_forms h_t_best h_t_next h_t_ways h_t_round h_t_roughs f_t_known f_t_kept f_t_seed f_t_written f_t_formRing f_t_formMany f_t_latest f_t_w r_3 hc34) (cwV 0 hts gX11_moved_X11_m rfl rfl rfl (by decide +kernel) ⟨Nat.le_of_ble_eq_true rfl, Nat.le_of_ble_eq_true rfl⟩) [0, 1] [] [0, 1] rfl rfl rfl rfl (ci := 10) (q0 := 0) rfl rfl rfl rfl hl.1 (Nat.le_of_ble_eq_true rfl) dX11_moved_34 ⟨Nat.zero_le _, Nat.zero_le _⟩ (fun H locs hP hD hS => ?_)
          obtain ⟨d37, hqJ_1⟩ := dv_go hqJ_1
          refine lv_irem hx hb dX11_moved_37 d37 ?_
          refine lv_aload_n hx hb dX11_moved_38 rfl (lv_at hl 0 rfl) ?_
          obtain ⟨r_4, hc39, hqJ_1⟩ := bd1_go hqJ_1
          refine my_cVi (As := []) (rest := [.int (((v5_2 * a2) + a3) - ((v5_2 * a2) + a3) / r_3 * r_3), .int 1, .int v4_2]) (WC := [(h_t, .inr (10, [.ref h_t_w, .int f_t_known, .int f_t_kept, .int f_t_seed, .ref h_t_imageSeed, .ref h_t_bookOf, .ref h_t_bookIs, .int f_t_written, .ref h_t_forms, .int f_t_formRing, .int f_t_formMany, .ref h_t_best, .ref h_t_next, .ref h_t_ways, .ref h_t_round, .ref h_t_roughs, .int f_t_latest])), (h_t_w, .inl (cA, 190, .inl f_t_w))]) (WC' := [(h_t, .inr (10, [.ref h_t_w, .int f_t_known, .int f_t_kept, .int f_t_seed, .ref h_t_imageSeed, .ref h_t_bookOf, .ref h_t_bookIs, .int f_t_written, .ref h_t_forms, .int f_t_formRing, .int f_t_formMany, .ref h_t_best, .ref h_t_next, .ref h_t_ways, .ref h_t_round, .ref h_t_roughs, .int f_t_latest])), (h_t_w, .inl (cA, 190, .inl f_t_w))]) (WR := []) (W' := [(h_t, .inr (10, [.ref h_t_w, .int f_t_known, .int f_t_kept, .int f_t_seed, .ref h_t_imageSeed, .ref h_t_bookOf, .ref h_t_bookIs, .int f_t_written, .ref h_t_forms, .int f_t_formRing, .int f_t_formMany, .ref h_t_best, .ref h_t_next, .ref h_t_ways, .ref h_t_round, .ref h_t_roughs, .int f_t_latest])), (h_t_w, .inl (cA, 190, .inl f_t_w))]) ⟨hx, hb, hml, hown, hts⟩ hK hP hD hS hA (c_Md_m l dC dI cA h_t h_t_w h_t_imageSeed h_t_bookOf h_t_bookIs h_t_forms h_t_best h_t_next h_t_ways h_t_round h_t_roughs f_t_known f_t_kept f_t_seed f_t_written f_t_formRing f_t_formMany f_t_latest f_t_w r_4 hc39) (cwV 0 hts gX11_moved_X11_m rfl rfl rfl (by decide +kernel) ⟨Nat.le_of_ble_eq_true rfl, Nat.le_of_ble_eq_true rfl⟩) [0, 1] [] [0, 1] rfl rfl rfl rfl (ci := 10) (q0 := 0) rfl rfl rfl rfl hl.1 (Nat.le_of_ble_eq_true rfl) dX11_moved_39 ⟨Nat.zero_le _, Nat.zero_le _⟩ (fun H locs hP hD hS => ?_)
          refine lv_iadd hx hb dX11_moved_42 ?_
          refine lv_aload_n hx hb dX11_moved_43 rfl (lv_at hl 0 rfl) ?_
          obtain ⟨r_5, hc44, hqJ_1⟩ := bd1_go hqJ_1
          refine my_cVi (As := []) (rest := [.int ((((v5_2 * a2) + a3) - ((v5_2 * a2) + a3) / r_3 * r_3) + r_4), .int 1, .int v4_2]) (WC := [(h_t, .inr (10, [.ref h_t_w, .int f_t_known, .int f_t_kept, .int f_t_seed, .ref h_t_imageSeed, .ref h_t_bookOf, .ref h_t_bookIs, .int f_t_written, .ref h_t_forms, .int f_t_formRing, .int f_t_formMany, .ref h_t_best, .ref h_t_next, .ref h_t_ways, .ref h_t_round, .ref h_t_roughs, .int f_t_latest])), (h_t_w, .inl (cA, 190, .inl f_t_w))]) (WC' := [(h_t, .inr (10, [.ref h_t_w, .int f_t_known, .int f_t_kept, .int f_t_seed, .ref h_t_imageSeed, .ref h_t_bookOf, .ref h_t_bookIs, .int f_t_written, .ref h_t_forms, .int f_t_formRing, .int f_t_formMany, .ref h_t_best, .ref h_t_next, .ref h_t_ways, .ref h_t_round, .ref h_t_roughs, .int f_t_latest])), (h_t_w, .inl (cA, 190, .inl f_t_w))]) (WR := []) (W' := [(h_t, .inr (10, [.ref h_t_w, .int f_t_known, .int f_t_kept, .int f_t_seed, .ref h_t_imageSeed, .ref h_t_bookOf, .ref h_t_bookIs, .int f_t_written, .ref h_t_forms, .int f_t_formRing, .int f_t_formMany, .ref h_t_best, .ref h_t_next, .ref h_t_ways, .ref h_t_round, .ref h_t_roughs, .int f_t_latest])), (h_t_w, .inl (cA, 190, .inl f_t_w))]) ⟨hx, hb, hml, hown, hts⟩ hK hP hD hS hA (c_Md_m l dC dI cA h_t h_t_w h_t_imageSeed h_t_bookOf h_t_bookIs h_t_forms h_t_best h_t_next h_t_ways h_t_round h_t_roughs f_t_known f_t_kept f_t_seed f_t_written f_t_formRing f_t_formMany f_t_latest f_t_w r_5 hc44) (cwV 0 hts gX11_moved_X11_m rfl rfl rfl (by decide +kernel) ⟨Nat.le_of_ble_eq_true rfl, Nat.le_of_ble_eq_true rfl⟩) [0, 1] [] [0, 1] rfl rfl rfl rfl (ci := 10) (q0 := 0) rfl rfl rfl rfl hl.1 (Nat.le_of_ble_eq_true rfl) dX11_moved_44 ⟨Nat.zero_le _, Nat.zero_le _⟩ (fun H locs hP hD hS => ?_)
          obtain ⟨d47, hqJ_1⟩ := dv_go hqJ_1
          refine lv_irem hx hb dX11_moved_47 d47 ?_
          refine lv_ishl hx hb dX11_moved_48 ?_
          refine lv_goto (tgt := 53) hx hb dX11_moved_49 (by decide) ?_
          cases hqJ_1
          exact J_1 _ _ hP hD hS _ (lv_sub hl [0, 1, 2, 3, 5] rfl)
  obtain ⟨v4_5, hl6, hm⟩ := bd1_go hm
  refine L6 _ _ _ _ hl6 _ _ hP hD hS _ (lv_sub hl [2, 3, 4, 5, 1, 0] rfl) (fun H locs hP hD hS ls hl => ?_)
  refine lv_iload hx hb dX11_moved_62 (lv_at hl 0 rfl) ?_
  cases hm
  exact W_mono hQ (W.iret hx hb hr (fun t ht hW => ⟨⟨_, (), rfl, rfl, by rw [ht]; exact hP, va_K.moved hW.alike hK, hD⟩, hS.F ht⟩) hS.2.2 dX11_moved_64)
abbrev rmX11_imageOf : Room := { frames := 2, cells := 0, slots := 0, locals := 46 }
set_option maxHeartbeats 40000000 in
set_option maxRecDepth 100000 in
theorem c_Md_imageOf (l : Launch) (dC : Nat → ClassId) (dI : Nat → Nat → Nat) (cA : ClassId) (fu : Nat) (h_t h_t_w h_t_imageSeed h_t_bookOf h_t_bookIs h_t_forms h_t_best h_t_next h_t_ways h_t_round h_t_roughs : Nat) (f_t_known : Int32) (f_t_kept : Int32) (f_t_seed : Int32) (f_t_written : Int32) (f_t_formRing : Int32) (f_t_formMany : Int32) (f_t_latest : Int32) (f_t_w : Nat → Int32) (a1 : Int32) (a2 : Int32) (r0 : Int32) (hm : m_Md_imageOf fu f_t_w a1 a2 = some r0) (sz : Nat) : Met l yX11_imageOf wsX11_imageOf rmX11_imageOf (mPre (dC, dI) cA [.ref h_t, .int a1, .int a2] sz [(h_t, .inr (10, [.ref h_t_w, .int f_t_known, .int f_t_kept, .int f_t_seed, .ref h_t_imageSeed, .ref h_t_bookOf, .ref h_t_bookIs, .int f_t_written, .ref h_t_forms, .int f_t_formRing, .int f_t_formMany, .ref h_t_best, .ref h_t_next, .ref h_t_ways, .ref h_t_round, .ref h_t_roughs, .int f_t_latest])), (h_t_w, .inl (cA, 190, .inl f_t_w))]) (mPosI (dC, dI) cA r0 (va_A [(h_t, .inr (10, [.ref h_t_w, .int f_t_known, .int f_t_kept, .int f_t_seed, .ref h_t_imageSeed, .ref h_t_bookOf, .ref h_t_bookIs, .int f_t_written, .ref h_t_forms, .int f_t_formRing, .int f_t_formMany, .ref h_t_best, .ref h_t_next, .ref h_t_ways, .ref h_t_round, .ref h_t_roughs, .int f_t_latest])), (h_t_w, .inl (cA, 190, .inl f_t_w))] sz) [(h_t, .inr (10, [.ref h_t_w, .int f_t_known, .int f_t_kept, .int f_t_seed, .ref h_t_imageSeed, .ref h_t_bookOf, .ref h_t_bookIs, .int f_t_written, .ref h_t_forms, .int f_t_formRing, .int f_t_formMany, .ref h_t_best, .ref h_t_next, .ref h_t_ways, .ref h_t_round, .ref h_t_roughs, .int f_t_latest])), (h_t_w, .inl (cA, 190, .inl f_t_w))]) 0 0 (va_A [(h_t, .inr (10, [.ref h_t_w, .int f_t_known, .int f_t_kept, .int f_t_seed, .ref h_t_imageSeed, .ref h_t_bookOf, .ref h_t_bookIs, .int f_t_written, .ref h_t_forms, .int f_t_formRing, .int f_t_formMany, .ref h_t_best, .ref h_t_next, .ref h_t_ways, .ref h_t_round, .ref h_t_roughs, .int f_t_latest])), (h_t_w, .inl (cA, 190, .inl f_t_w))] sz) := by
  refine Met.ofW (cc := cX11_imageOf) (maxL := 3) (ret := (some .int)) (by decide) rfl ?_
  intro p e s m args below meth c s₁ B hml hv
  obtain ⟨rfl, hsz, hP, hK, hD0⟩ := hv
  refine W_gen (fun Q hQ => ?_)
  have hx := B.exec
  have hb := B.bytes
  have hr := B.returns
  have hts := atoms_spec (ws := wsX11_imageOf) B.pre
  have hown : s.vm.findClass RX11 = some m.cls := findClass_of_methodNamed B.named
  have hlocks := B.notSynchronized
  subst hsz
  have hD := hD0.self (sz := s.heap.size)
  clear hD0
  generalize hAe : va_A [(h_t, .inr (10, [.ref h_t_w, .int f_t_known, .int f_t_kept, .int f_t_seed, .ref h_t_imageSeed, .ref h_t_bookOf, .ref h_t_bookIs, .int f_t_written, .ref h_t_forms, .int f_t_formRing, .int f_t_formMany, .ref h_t_best, .ref h_t_next, .ref h_t_ways, .ref h_t_round, .ref h_t_roughs, .int f_t_latest])), (h_t_w, .inl (cA, 190, .inl f_t_w))] s.heap.size = A at hD hQ
  have hA : ∀ q : Nat, s.heap.size ≤ q → A q := fun q h => by rw [← hAe]; exact Or.inr h
  clear hAe
  have hS : va_S A s.heap s.heap [] := va_S.rf
  have hl := lv_entry ([.ref h_t, .int a1, .int a2]) (n := 3) (Nat.le_of_ble_eq_true rfl)
  rw [lg_entry_eq]
  generalize (lg_sl ([.ref h_t, .int a1, .int a2]) ++ List.replicate (3 - (lg_sl ([.ref h_t, .int a1, .int a2])).length) Slot.unset).toArray = ls at hl ⊢
  have hl : lv_has ls 3 [(0, .ref h_t), (1, .int a1), (2, .int a2)] := hl
  unfold m_Md_imageOf at hm
  refine lv_iload_n hx hb dX11_imageOf_0 rfl (lv_at hl 2 rfl) ?_
  refine lv_aload_n hx hb dX11_imageOf_1 rfl (lv_at hl 0 rfl) ?_
  obtain ⟨r_1, hc2, hm⟩ := bd1_go hm
  refine my_cVi (As := []) (rest := [.int a2]) (WC := [(h_t, .inr (10, [.ref h_t_w, .int f_t_known, .int f_t_kept, .int f_t_seed, .ref h_t_imageSeed, .ref h_t_bookOf, .ref h_t_bookIs, .int f_t_written, .ref h_t_forms, .int f_t_formRing, .int f_t_formMany, .ref h_t_best, .ref h_t_next, .ref h_t_ways, .ref h_t_round, .ref h_t_roughs, .int f_t_latest])), (h_t_w, .inl (cA, 190, .inl f_t_w))]) (WC' := [(h_t, .inr (10, [.ref h_t_w, .int f_t_known, .int f_t_kept, .int f_t_seed, .ref h_t_imageSeed, .ref h_t_bookOf, .ref h_t_bookIs, .int f_t_written, .ref h_t_forms, .int f_t_formRing, .int f_t_formMany, .ref h_t_best, .ref h_t_next, .ref h_t_ways, .ref h_t_round, .ref h_t_roughs, .int f_t_latest])), (h_t_w, .inl (cA, 190, .inl f_t_w))]) (WR := []) (W' := [(h_t, .inr (10, [.ref h_t_w, .int f_t_known, .int f_t_kept, .int f_t_seed, .ref h_t_imageSeed, .ref h_t_bookOf, .ref h_t_bookIs, .int f_t_written, .ref h_t_forms, .int f_t_formRing, .int f_t_formMany, .ref h_t_best, .ref h_t_next, .ref h_t_ways, .ref h_t_round, .ref h_t_roughs, .int f_t_latest])), (h_t_w, .inl (cA, 190, .inl f_t_w))]) ⟨hx, hb, hml, hown, hts⟩ hK hP hD hS hA (c_Md_m l dC dI cA h_t h_t_w h_t_imageSeed h_t_bookOf h_t_bookIs h_t_forms h_t_best h_t_next h_t_ways h_t_round h_t_roughs f_t_known f_t_kept f_t_seed f_t_written f_t_formRing f_t_formMany f_t_latest f_t_w r_1 hc2) (cwV 0 hts gX11_imageOf_X11_m rfl rfl rfl (by decide +kernel) ⟨Nat.le_of_ble_eq_true rfl, Nat.le_of_ble_eq_true rfl⟩) [0, 1] [] [0, 1] rfl rfl rfl rfl (ci := 10) (q0 := 0) rfl rfl rfl rfl hl.1 (Nat.le_of_ble_eq_true rfl) dX11_imageOf_2 ⟨Nat.zero_le _, Nat.zero_le _⟩ (fun H locs hP hD hS => ?_)
  refine lv_icmp_ge (tgt := 18) hx hb dX11_imageOf_5 (by decide) (fun c5 => ?_) (fun c5 => ?_)
  · replace hm := if_t c5 hm
    refine lv_aload_n hx hb dX11_imageOf_18 rfl (lv_at hl 0 rfl) ?_
    refine lv_iload_n hx hb dX11_imageOf_19 rfl (lv_at hl 1 rfl) ?_
    refine lv_iconst (v := (-1)) hx hb dX11_imageOf_20 (by decide) ?_
    refine lv_iload_n hx hb dX11_imageOf_21 rfl (lv_at hl 2 rfl) ?_
    refine lv_aload_n hx hb dX11_imageOf_22 rfl (lv_at hl 0 rfl) ?_
    obtain ⟨r_2, hc23, hm⟩ := bd1_go hm
    refine my_cVi (As := []) (rest := [.int a2, .int (-1), .int a1, .ref h_t]) (WC := [(h_t, .inr (10, [.ref h_t_w, .int f_t_known, .int f_t_kept, .int f_t_seed, .ref h_t_imageSeed, .ref h_t_bookOf, .ref h_t_bookIs, .int f_t_written, .ref h_t_forms, .int f_t_formRing, .int f_t_formMany, .ref h_t_best, .ref h_t_next, .ref h_t_ways, .ref h_t_round, .ref h_t_roughs, .int f_t_latest])), (h_t_w, .inl (cA, 190, .inl f_t_w))]) (WC' := [(h_t, .inr (10, [.ref h_t_w, .int f_t_known, .int f_t_kept, .int f_t_seed, .ref h_t_imageSeed, .ref h_t_bookOf, .ref h_t_bookIs, .int f_t_written, .ref h_t_forms, .int f_t_formRing, .int f_t_formMany, .ref h_t_best, .ref h_t_next, .ref h_t_ways, .ref h_t_round, .ref h_t_roughs, .int f_t_latest])), (h_t_w, .inl (cA, 190, .inl f_t_w))]) (WR := []) (W' := [(h_t, .inr (10, [.ref h_t_w, .int f_t_known, .int f_t_kept, .int f_t_seed, .ref h_t_imageSeed, .ref h_t_bookOf, .ref h_t_bookIs, .int f_t_written, .ref h_t_forms, .int f_t_formRing, .int f_t_formMany, .ref h_t_best, .ref h_t_next, .ref h_t_ways, .ref h_t_round, .ref h_t_roughs, .int f_t_latest])), (h_t_w, .inl (cA, 190, .inl f_t_w))]) ⟨hx, hb, hml, hown, hts⟩ hK hP hD hS hA (c_Md_m l dC dI cA h_t h_t_w h_t_imageSeed h_t_bookOf h_t_bookIs h_t_forms h_t_best h_t_next h_t_ways h_t_round h_t_roughs f_t_known f_t_kept f_t_seed f_t_written f_t_formRing f_t_formMany f_t_latest f_t_w r_2 hc23) (cwV 0 hts gX11_imageOf_X11_m rfl rfl rfl (by decide +kernel) ⟨Nat.le_of_ble_eq_true rfl, Nat.le_of_ble_eq_true rfl⟩) [0, 1] [] [0, 1] rfl rfl rfl rfl (ci := 10) (q0 := 0) rfl rfl rfl rfl hl.1 (Nat.le_of_ble_eq_true rfl) dX11_imageOf_23 ⟨Nat.zero_le _, Nat.zero_le _⟩ (fun H locs hP hD hS => ?_)
    refine lv_isub hx hb dX11_imageOf_26 ?_
    obtain ⟨r_3, hc27, hm⟩ := bd1_go hm
    refine my_cVi (As := [.int a1, .int (-1), .int (a2 - r_2)]) (rest := []) (WC := [(h_t, .inr (10, [.ref h_t_w, .int f_t_known, .int f_t_kept, .int f_t_seed, .ref h_t_imageSeed, .ref h_t_bookOf, .ref h_t_bookIs, .int f_t_written, .ref h_t_forms, .int f_t_formRing, .int f_t_formMany, .ref h_t_best, .ref h_t_next, .ref h_t_ways, .ref h_t_round, .ref h_t_roughs, .int f_t_latest])), (h_t_w, .inl (cA, 190, .inl f_t_w))]) (WC' := [(h_t, .inr (10, [.ref h_t_w, .int f_t_known, .int f_t_kept, .int f_t_seed, .ref h_t_imageSeed, .ref h_t_bookOf, .ref h_t_bookIs, .int f_t_written, .ref h_t_forms, .int f_t_formRing, .int f_t_formMany, .ref h_t_best, .ref h_t_next, .ref h_t_ways, .ref h_t_round, .ref h_t_roughs, .int f_t_latest])), (h_t_w, .inl (cA, 190, .inl f_t_w))]) (WR := []) (W' := [(h_t, .inr (10, [.ref h_t_w, .int f_t_known, .int f_t_kept, .int f_t_seed, .ref h_t_imageSeed, .ref h_t_bookOf, .ref h_t_bookIs, .int f_t_written, .ref h_t_forms, .int f_t_formRing, .int f_t_formMany, .ref h_t_best, .ref h_t_next, .ref h_t_ways, .ref h_t_round, .ref h_t_roughs, .int f_t_latest])), (h_t_w, .inl (cA, 190, .inl f_t_w))]) ⟨hx, hb, hml, hown, hts⟩ hK hP hD hS hA (c_Md_moved l dC dI cA fu h_t h_t_w h_t_imageSeed h_t_bookOf h_t_bookIs h_t_forms h_t_best h_t_next h_t_ways h_t_round h_t_roughs f_t_known f_t_kept f_t_seed f_t_written f_t_formRing f_t_formMany f_t_latest f_t_w a1 (-1) (a2 - r_2) r_3 hc27) (cwV 3 hts gX11_imageOf_X11_moved rfl rfl rfl (by decide +kernel) ⟨Nat.le_of_ble_eq_true rfl, Nat.le_of_ble_eq_true rfl⟩) [0, 1] [] [0, 1] rfl rfl rfl rfl (ci := 10) (q0 := 0) rfl rfl rfl rfl hl.1 (Nat.le_of_ble_eq_true rfl) dX11_imageOf_27 ⟨Nat.zero_le _, Nat.zero_le _⟩ (fun H locs hP hD hS => ?_)
    cases hm
    exact W_mono hQ (W.iret hx hb hr (fun t ht hW => ⟨⟨_, (), rfl, rfl, by rw [ht]; exact hP, va_K.moved hW.alike hK, hD⟩, hS.F ht⟩) hS.2.2 dX11_imageOf_30)
  · replace hm := if_f c5 hm
    refine lv_aload_n hx hb dX11_imageOf_8 rfl (lv_at hl 0 rfl) ?_
    refine lv_iload_n hx hb dX11_imageOf_9 rfl (lv_at hl 1 rfl) ?_
    refine lv_iconst (v := 1) hx hb dX11_imageOf_10 (by decide) ?_
    refine lv_iload_n hx hb dX11_imageOf_11 rfl (lv_at hl 2 rfl) ?_
    obtain ⟨r_4, hc12, hm⟩ := bd1_go hm
    refine my_cVi (As := [.int a1, .int 1, .int a2]) (rest := []) (WC := [(h_t, .inr (10, [.ref h_t_w, .int f_t_known, .int f_t_kept, .int f_t_seed, .ref h_t_imageSeed, .ref h_t_bookOf, .ref h_t_bookIs, .int f_t_written, .ref h_t_forms, .int f_t_formRing, .int f_t_formMany, .ref h_t_best, .ref h_t_next, .ref h_t_ways, .ref h_t_round, .ref h_t_roughs, .int f_t_latest])), (h_t_w, .inl (cA, 190, .inl f_t_w))]) (WC' := [(h_t, .inr (10, [.ref h_t_w, .int f_t_known, .int f_t_kept, .int f_t_seed, .ref h_t_imageSeed, .ref h_t_bookOf, .ref h_t_bookIs, .int f_t_written, .ref h_t_forms, .int f_t_formRing, .int f_t_formMany, .ref h_t_best, .ref h_t_next, .ref h_t_ways, .ref h_t_round, .ref h_t_roughs, .int f_t_latest])), (h_t_w, .inl (cA, 190, .inl f_t_w))]) (WR := []) (W' := [(h_t, .inr (10, [.ref h_t_w, .int f_t_known, .int f_t_kept, .int f_t_seed, .ref h_t_imageSeed, .ref h_t_bookOf, .ref h_t_bookIs, .int f_t_written, .ref h_t_forms, .int f_t_formRing, .int f_t_formMany, .ref h_t_best, .ref h_t_next, .ref h_t_ways, .ref h_t_round, .ref h_t_roughs, .int f_t_latest])), (h_t_w, .inl (cA, 190, .inl f_t_w))]) ⟨hx, hb, hml, hown, hts⟩ hK hP hD hS hA (c_Md_moved l dC dI cA fu h_t h_t_w h_t_imageSeed h_t_bookOf h_t_bookIs h_t_forms h_t_best h_t_next h_t_ways h_t_round h_t_roughs f_t_known f_t_kept f_t_seed f_t_written f_t_formRing f_t_formMany f_t_latest f_t_w a1 1 a2 r_4 hc12) (cwV 3 hts gX11_imageOf_X11_moved rfl rfl rfl (by decide +kernel) ⟨Nat.le_of_ble_eq_true rfl, Nat.le_of_ble_eq_true rfl⟩) [0, 1] [] [0, 1] rfl rfl rfl rfl (ci := 10) (q0 := 0) rfl rfl rfl rfl hl.1 (Nat.le_of_ble_eq_true rfl) dX11_imageOf_12 ⟨Nat.zero_le _, Nat.zero_le _⟩ (fun H locs hP hD hS => ?_)
    refine lv_goto (tgt := 30) hx hb dX11_imageOf_15 (by decide) ?_
    cases hm
    exact W_mono hQ (W.iret hx hb hr (fun t ht hW => ⟨⟨_, (), rfl, rfl, by rw [ht]; exact hP, va_K.moved hW.alike hK, hD⟩, hS.F ht⟩) hS.2.2 dX11_imageOf_30)
