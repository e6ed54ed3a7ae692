abbrev rmX7_hasRoom : Room := { frames := 0, cells := 0, slots := 0, locals := 0 }
theorem uX7_X7_hasRoom : ∀ w ∈ wsX70, w ∈ wsX7_hasRoom := fun _ h => List.mem_cons_of_mem _ (List.mem_append_right _ (h))
set_option maxHeartbeats 40000000 in
set_option maxRecDepth 100000 in
theorem c_Shelf_hasRoom (l : Launch) (dC : Nat → ClassId) (dI : Nat → Nat → Nat) (cA : ClassId) (h_t h_t_sets : Nat) (f_t_size : Int32) (f_t_places : Int32) (f_t_drawn : Int32) (r0 : Int32) (hm : m_Shelf_hasRoom f_t_places = some r0) (sz : Nat) : Met l yX7_hasRoom wsX7_hasRoom rmX7_hasRoom (mPre (dC, dI) cA [.ref h_t] sz [(h_t, .inr (6, [.int f_t_size, .int f_t_places, .int f_t_drawn, .ref h_t_sets]))]) (mPosI (dC, dI) cA r0 (va_A [(h_t, .inr (6, [.int f_t_size, .int f_t_places, .int f_t_drawn, .ref h_t_sets]))] sz) [(h_t, .inr (6, [.int f_t_size, .int f_t_places, .int f_t_drawn, .ref h_t_sets]))]) 0 0 (va_A [(h_t, .inr (6, [.int f_t_size, .int f_t_places, .int f_t_drawn, .ref h_t_sets]))] sz) := by
  refine Met.ofW (cc := cX7_hasRoom) (maxL := 1) (ret := (some .boolean)) (by decide) rfl ?_
  intro p e s m args below meth c s₁ B hml hv
  obtain ⟨rfl, hsz, hP, hK, hD0⟩ := hv
  refine W_gen (fun Q hQ => ?_)
  have hx := B.exec
  have hb := B.bytes
  have hr := B.returns
  have hts := atoms_spec (ws := wsX7_hasRoom) B.pre
  have hown : s.vm.findClass RX7 = some m.cls := findClass_of_methodNamed B.named
  have hlocks := B.notSynchronized
  subst hsz
  have hD := hD0.self (sz := s.heap.size)
  clear hD0
  generalize hAe : va_A [(h_t, .inr (6, [.int f_t_size, .int f_t_places, .int f_t_drawn, .ref h_t_sets]))] s.heap.size = A at hD hQ
  have hA : ∀ q : Nat, s.heap.size ≤ q → A q := fun q h => by rw [← hAe]; exact Or.inr h
  clear hAe
  have hS : va_S A s.heap s.heap [] := va_S.rf
  have hl := lv_entry ([.ref h_t]) (n := 1) (Nat.le_of_ble_eq_true rfl)
  rw [lg_entry_eq]
  generalize (lg_sl ([.ref h_t]) ++ List.replicate (1 - (lg_sl ([.ref h_t])).length) Slot.unset).toArray = ls at hl ⊢
  have hl : lv_has ls 1 [(0, .ref h_t)] := hl
  have k1 := hts (.fieldLink RX7 15 "ToneSets$Shelf" "places" "I") (List.mem_of_getElem? (i := 1) rfl)
  have uX7 := uX7_X7_hasRoom
  unfold m_Shelf_hasRoom at hm
  refine lv_aload_n hx hb dX7_hasRoom_0 rfl (lv_at hl 0 rfl) ?_
  refine va_get (D := (dC, dI)) (ci := 6) (v := .int f_t_places) (C := RX7) (T := TX7) (N := 4) hx hb hts uX7 hown hK hP 0 rfl rfl 1 (by decide) k1 (fun _ h9 => h9) rfl dX7_hasRoom_1 ?_
  refine lv_bipush (v := 8) hx hb dX7_hasRoom_4 (by decide) ?_
  refine lv_icmp_ge (tgt := 13) hx hb dX7_hasRoom_6 (by decide) (fun c6 => ?_) (fun c6 => ?_)
  · replace hm := if_t c6 hm
    refine lv_iconst (v := 0) hx hb dX7_hasRoom_13 (by decide) ?_
    cases hm
    exact W_mono hQ (W.zret hx hb hr rfl (fun t ht hW => ⟨⟨_, (), rfl, rfl, by rw [ht]; exact hP, va_K.moved hW.alike hK, hD⟩, hS.F ht⟩) hS.2.2 dX7_hasRoom_14)
  · replace hm := if_f c6 hm
    refine lv_iconst (v := 1) hx hb dX7_hasRoom_9 (by decide) ?_
    refine lv_goto (tgt := 14) hx hb dX7_hasRoom_10 (by decide) ?_
    cases hm
    exact W_mono hQ (W.zret hx hb hr rfl (fun t ht hW => ⟨⟨_, (), rfl, rfl, by rw [ht]; exact hP, va_K.moved hW.alike hK, hD⟩, hS.F ht⟩) hS.2.2 dX7_hasRoom_14)
abbrev rmX7_append : Room := { frames := 1, cells := 0, slots := 0, locals := 20 }
theorem uX7_X7_append : ∀ w ∈ wsX70, w ∈ wsX7_append := fun _ h => List.mem_cons_of_mem _ (List.mem_append_right _ (h))
set_option maxHeartbeats 40000000 in
set_option maxRecDepth 100000 in
theorem c_Shelf_append (l : Launch) (dC : Nat → ClassId) (dI : Nat → Nat → Nat) (cA : ClassId) (h_t h_t_sets : Nat) (f_t_size : Int32) (f_t_places : Int32) (f_t_drawn : Int32) (f_t_sets : Nat → Int32) (a1 : Int32) (f_t_places_z : Int32) (f_t_sets_z : Nat → Int32) (hm : m_Shelf_append f_t_places f_t_sets a1 = some (f_t_places_z, f_t_sets_z)) (sz : Nat) : Met l yX7_append wsX7_append rmX7_append (mPre (dC, dI) cA [.ref h_t, .int a1] sz [(h_t, .inr (6, [.int f_t_size, .int f_t_places, .int f_t_drawn, .ref h_t_sets])), (h_t_sets, .inl (cA, 8, .inl f_t_sets))]) (mPosV (dC, dI) cA (va_A [(h_t, .inr (6, [.int f_t_size, .int f_t_places, .int f_t_drawn, .ref h_t_sets])), (h_t_sets, .inl (cA, 8, .inl f_t_sets))] sz) [(h_t, .inr (6, [.int f_t_size, .int f_t_places_z, .int f_t_drawn, .ref h_t_sets])), (h_t_sets, .inl (cA, 8, .inl f_t_sets_z))]) 0 0 (va_A [(h_t, .inr (6, [.int f_t_size, .int f_t_places, .int f_t_drawn, .ref h_t_sets])), (h_t_sets, .inl (cA, 8, .inl f_t_sets))] sz) := by
  refine Met.ofW (cc := cX7_append) (maxL := 2) (ret := none) (by decide) rfl ?_
  intro p e s m args below meth c s₁ B hml hv
  obtain ⟨rfl, hsz, hP, hK, hD0⟩ := hv
  refine W_gen (fun Q hQ => ?_)
  have hx := B.exec
  have hb := B.bytes
  have hr := B.returns
  have hts := atoms_spec (ws := wsX7_append) B.pre
  have hown : s.vm.findClass RX7 = some m.cls := findClass_of_methodNamed B.named
  have hlocks := B.notSynchronized
  subst hsz
  have hD := hD0.self (sz := s.heap.size)
  clear hD0
  generalize hAe : va_A [(h_t, .inr (6, [.int f_t_size, .int f_t_places, .int f_t_drawn, .ref h_t_sets])), (h_t_sets, .inl (cA, 8, .inl f_t_sets))] s.heap.size = A at hD hQ
  have hA : ∀ q : Nat, s.heap.size ≤ q → A q := fun q h => by rw [← hAe]; exact Or.inr h
  clear hAe
  have hS : va_S A s.heap s.heap [] := va_S.rf
  have hl := lv_entry ([.ref h_t, .int a1]) (n := 2) (Nat.le_of_ble_eq_true rfl)
  rw [lg_entry_eq]
  generalize (lg_sl ([.ref h_t, .int a1]) ++ List.replicate (2 - (lg_sl ([.ref h_t, .int a1])).length) Slot.unset).toArray = ls at hl ⊢
  have hl : lv_has ls 2 [(0, .ref h_t), (1, .int a1)] := hl
  have k1 := hts (.fieldLink RX7 21 "ToneSets$Shelf" "sets" "[I") (List.mem_of_getElem? (i := 1) rfl)
  have k2 := hts (.fieldLink RX7 15 "ToneSets$Shelf" "places" "I") (List.mem_of_getElem? (i := 2) rfl)
  have uX7 := uX7_X7_append
  unfold m_Shelf_append at hm
  refine lv_aload_n hx hb dX7_append_0 rfl (lv_at hl 0 rfl) ?_
  obtain ⟨r_1, hc1, hm⟩ := bd1_go hm
  refine my_cVi (As := []) (rest := []) (WC := [(h_t, .inr (6, [.int f_t_size, .int f_t_places, .int f_t_drawn, .ref h_t_sets]))]) (WC' := [(h_t, .inr (6, [.int f_t_size, .int f_t_places, .int f_t_drawn, .ref h_t_sets]))]) (WR := [(h_t_sets, .inl (cA, 8, .inl f_t_sets))]) (W' := [(h_t, .inr (6, [.int f_t_size, .int f_t_places, .int f_t_drawn, .ref h_t_sets])), (h_t_sets, .inl (cA, 8, .inl f_t_sets))]) ⟨hx, hb, hml, hown, hts⟩ hK hP hD hS hA (c_Shelf_hasRoom l dC dI cA h_t h_t_sets f_t_size f_t_places f_t_drawn r_1 hc1) (cwV 0 hts gX7_append_X7_hasRoom rfl rfl rfl (by decide +kernel) ⟨Nat.le_of_ble_eq_true rfl, Nat.le_of_ble_eq_true rfl⟩) [0] [1] [1, 0] rfl rfl rfl rfl (ci := 6) (q0 := 0) rfl rfl rfl rfl hl.1 (Nat.le_of_ble_eq_true rfl) dX7_append_1 ⟨Nat.zero_le _, Nat.zero_le _⟩ (fun H locs hP hD hS => ?_)
  refine lv_if_eq (tgt := 27) hx hb dX7_append_4 (by decide) (fun c4 => ?_) (fun c4 => ?_)
  · replace hm := if_t c4 hm
    cases hm
    exact W_mono hQ (W.vret hx hb hr (fun t ht hW => ⟨⟨(), rfl, trivial, by rw [ht]; exact hP, va_K.moved hW.alike hK, hD⟩, hS.F ht⟩) hS.2.2 dX7_append_27)
  · replace hm := if_f c4 hm
    refine lv_aload_n hx hb dX7_append_7 rfl (lv_at hl 0 rfl) ?_
    refine va_get (D := (dC, dI)) (ci := 6) (v := .ref h_t_sets) (C := RX7) (T := TX7) (N := 4) hx hb hts uX7 hown hK hP 0 rfl rfl 3 (by decide) k1 (fun _ h9 => h9) rfl dX7_append_8 ?_
    refine lv_aload_n hx hb dX7_append_11 rfl (lv_at hl 0 rfl) ?_
    refine va_get (D := (dC, dI)) (ci := 6) (v := .int f_t_places) (C := RX7) (T := TX7) (N := 4) hx hb hts uX7 hown hK hP 0 rfl rfl 1 (by decide) k2 (fun _ h9 => h9) rfl dX7_append_12 ?_
    refine lv_iload_n hx hb dX7_append_15 rfl (lv_at hl 1 rfl) ?_
    obtain ⟨b16, hm⟩ := ck_go hm
    refine my_iast (W' := fun z' => [(h_t, .inr (6, [.int f_t_size, .int f_t_places, .int f_t_drawn, .ref h_t_sets])), (h_t_sets, .inl (cA, 8, .inl z'))]) hx hb hK hP hD hS 1 0 rfl rfl b16 dX7_append_16 (fun _ => rfl) (fun f_t_sets_1 ef_t_sets_1 H locs hP hD hS => ?_)
    replace hm := lt_go ef_t_sets_1 hm
    refine lv_aload_n hx hb dX7_append_17 rfl (lv_at hl 0 rfl) ?_
    refine lv_dup hx hb dX7_append_18 rfl ?_
    refine va_get (D := (dC, dI)) (ci := 6) (v := .int f_t_places) (C := RX7) (T := TX7) (N := 4) hx hb hts uX7 hown hK hP 0 rfl rfl 1 (by decide) k2 (fun _ h9 => h9) rfl dX7_append_19 ?_
    refine lv_iconst (v := 1) hx hb dX7_append_22 (by decide) ?_
    refine lv_iadd hx hb dX7_append_23 ?_
    refine lv_topi (fun f_t_places_1 ef_t_places_1 => ?_)
    replace hm := lt_go ef_t_places_1 hm
    refine my_put (W' := [(h_t, .inr (6, [.int f_t_size, .int f_t_places_1, .int f_t_drawn, .ref h_t_sets])), (h_t_sets, .inl (cA, 8, .inl f_t_sets_1))]) (ci := 6) (v := .int f_t_places_1) (ty := .int) (C := RX7) (T := TX7) (N := 4) hx hb hts uX7 tyX7 tyX7_ok nmX7 hown hK hP hD hS 0 rfl rfl 1 (by decide) k2 (fun _ h9 => h9) rfl (by decide +kernel) rfl rfl (Nat.le_of_ble_eq_true rfl) dX7_append_24 rfl (fun H locs hP hD hS => ?_)
    cases hm
    exact W_mono hQ (W.vret hx hb hr (fun t ht hW => ⟨⟨(), rfl, trivial, by rw [ht]; exact hP, va_K.moved hW.alike hK, hD⟩, hS.F ht⟩) hS.2.2 dX7_append_27)
abbrev rmX5_load : Room := { frames := 2, cells := 0, slots := 0, locals := 42 }
theorem uX5_X5_load : ∀ w ∈ wsX50, w ∈ wsX5_load := fun _ h => List.mem_cons_of_mem _ (List.mem_append_left _ (List.mem_append_right _ (h)))
theorem uX7_X5_load : ∀ w ∈ wsX70, w ∈ wsX5_load := fun _ h => List.mem_cons_of_mem _ (List.mem_append_right _ (h))
set_option maxHeartbeats 40000000 in
set_option maxRecDepth 100000 in
theorem c_Rows_load (l : Launch) (dC : Nat → ClassId) (dI : Nat → Nat → Nat) (cA : ClassId) (fu : Nat) (h_p2 h_t h_p2_sets h_t_cells : Nat) (n_t_cells : Nat) (f_p2_size : Int32) (f_p2_places : Int32) (f_p2_drawn : Int32) (f_t_count : Int32) (f_p2_sets : Nat → Int32) (f_t_cells : Nat → Int32) (a1 : Int32) (f_p2_places_z : Int32) (f_p2_sets_z : Nat → Int32) (f_p2_size_z : Int32) (hm : m_Rows_load fu n_t_cells f_p2_places f_p2_sets f_p2_size f_t_cells f_t_count a1 = some (f_p2_places_z, f_p2_sets_z, f_p2_size_z)) (sz : Nat) : Met l yX5_load wsX5_load rmX5_load (mPre (dC, dI) cA [.ref h_t, .int a1, .ref h_p2] sz [(h_p2, .inr (6, [.int f_p2_size, .int f_p2_places, .int f_p2_drawn, .ref h_p2_sets])), (h_t, .inr (4, [.int f_t_count, .ref h_t_cells])), (h_p2_sets, .inl (cA, 8, .inl f_p2_sets)), (h_t_cells, .inl (cA, n_t_cells, .inl f_t_cells))]) (mPosV (dC, dI) cA (va_A [(h_p2, .inr (6, [.int f_p2_size, .int f_p2_places, .int f_p2_drawn, .ref h_p2_sets])), (h_t, .inr (4, [.int f_t_count, .ref h_t_cells])), (h_p2_sets, .inl (cA, 8, .inl f_p2_sets)), (h_t_cells, .inl (cA, n_t_cells, .inl f_t_cells))] sz) [(h_p2, .inr (6, [.int f_p2_size_z, .int f_p2_places_z, .int f_p2_drawn, .ref h_p2_sets])), (h_t, .inr (4, [.int f_t_count, .ref h_t_cells])), (h_p2_sets, .inl (cA, 8, .inl f_p2_sets_z)), (h_t_cells, .inl (cA, n_t_cells, .inl f_t_cells))]) 0 0 (va_A [(h_p2, .inr (6, [.int f_p2_size, .int f_p2_places, .int f_p2_drawn, .ref h_p2_sets])), (h_t, .inr (4, [.int f_t_count, .ref h_t_cells])), (h_p2_sets, .inl (cA, 8, .inl f_p2_sets)), (h_t_cells, .inl (cA, n_t_cells, .inl f_t_cells))] sz) := by
  refine Met.ofW (cc := cX5_load) (maxL := 5) (ret := none) (by decide) rfl ?_
  intro p e s m args below meth c s₁ B hml hv
  obtain ⟨rfl, hsz, hP, hK, hD0⟩ := hv
  refine W_gen (fun Q hQ => ?_)
  have hx := B.exec
  have hb := B.bytes
  have hr := B.returns
  have hts := atoms_spec (ws := wsX5_load) B.pre
  have hown : s.vm.findClass RX5 = some m.cls := findClass_of_methodNamed B.named
  have hlocks := B.notSynchronized
  subst hsz
  have hD := hD0.self (sz := s.heap.size)
  clear hD0
  generalize hAe : va_A [(h_p2, .inr (6, [.int f_p2_size, .int f_p2_places, .int f_p2_drawn, .ref h_p2_sets])), (h_t, .inr (4, [.int f_t_count, .ref h_t_cells])), (h_p2_sets, .inl (cA, 8, .inl f_p2_sets)), (h_t_cells, .inl (cA, n_t_cells, .inl f_t_cells))] s.heap.size = A at hD hQ
  have hA : ∀ q : Nat, s.heap.size ≤ q → A q := fun q h => by rw [← hAe]; exact Or.inr h
  clear hAe
  have hS : va_S A s.heap s.heap [] := va_S.rf
  have hl := lv_entry ([.ref h_t, .int a1, .ref h_p2]) (n := 5) (Nat.le_of_ble_eq_true rfl)
  rw [lg_entry_eq]
  generalize (lg_sl ([.ref h_t, .int a1, .ref h_p2]) ++ List.replicate (5 - (lg_sl ([.ref h_t, .int a1, .ref h_p2])).length) Slot.unset).toArray = ls at hl ⊢
  have hl : lv_has ls 5 [(0, .ref h_t), (1, .int a1), (2, .ref h_p2)] := hl
  have k1 := hts (.fieldLink RX5 24 "ToneSets$Rows" "cells" "[I") (List.mem_of_getElem? (i := 1) rfl)
  have k2 := hts (.fieldLink RX5 32 "ToneSets$Shelf" "size" "I") (List.mem_of_getElem? (i := 2) rfl)
  have k3 := hts (.fieldLink RX5 37 "ToneSets$Shelf" "places" "I") (List.mem_of_getElem? (i := 3) rfl)
  have uX5 := uX5_X5_load
  have uX7 := uX7_X5_load
  unfold m_Rows_load at hm
  refine lv_aload_n hx hb dX5_load_0 rfl (lv_at hl 0 rfl) ?_
  refine lv_iload_n hx hb dX5_load_1 rfl (lv_at hl 1 rfl) ?_
  obtain ⟨r_1, hc2, hm⟩ := bd1_go hm
  refine my_cVi (As := [.int a1]) (rest := []) (WC := [(h_t, .inr (4, [.int f_t_count, .ref h_t_cells])), (h_t_cells, .inl (cA, n_t_cells, .inl f_t_cells))]) (WC' := [(h_t, .inr (4, [.int f_t_count, .ref h_t_cells])), (h_t_cells, .inl (cA, n_t_cells, .inl f_t_cells))]) (WR := [(h_p2, .inr (6, [.int f_p2_size, .int f_p2_places, .int f_p2_drawn, .ref h_p2_sets])), (h_p2_sets, .inl (cA, 8, .inl f_p2_sets))]) (W' := [(h_p2, .inr (6, [.int f_p2_size, .int f_p2_places, .int f_p2_drawn, .ref h_p2_sets])), (h_t, .inr (4, [.int f_t_count, .ref h_t_cells])), (h_p2_sets, .inl (cA, 8, .inl f_p2_sets)), (h_t_cells, .inl (cA, n_t_cells, .inl f_t_cells))]) ⟨hx, hb, hml, hown, hts⟩ hK hP hD hS hA (c_Rows_isStored l dC dI cA h_t h_t_cells n_t_cells f_t_count f_t_cells a1 r_1 hc2) (cwV 1 hts gX5_load_X5_isStored rfl rfl rfl (by decide +kernel) ⟨Nat.le_of_ble_eq_true rfl, Nat.le_of_ble_eq_true rfl⟩) [1, 3] [0, 2] [0, 2, 1, 3] rfl rfl rfl rfl (ci := 4) (q0 := 0) rfl rfl rfl rfl hl.1 (Nat.le_of_ble_eq_true rfl) dX5_load_2 ⟨Nat.zero_le _, Nat.zero_le _⟩ (fun H locs hP hD hS => ?_)
  refine lv_if_ne (tgt := 9) hx hb dX5_load_5 (by decide) (fun c5 => ?_) (fun c5 => ?_)
  · replace hm := if_f c5 hm
    refine lv_iload_n hx hb dX5_load_9 rfl (lv_at hl 1 rfl) ?_
    refine lv_bipush (v := 11) hx hb dX5_load_10 (by decide) ?_
    refine lv_imul hx hb dX5_load_12 ?_
    refine lv_topi (fun v3_1 ev3_1 => ?_)
    replace hm := lt_go ev3_1 hm
    refine lv_istore_n (lv' := [(3, .int v3_1), (0, .ref h_t), (1, .int a1), (2, .ref h_p2)]) hx hb dX5_load_13 rfl hl (by decide) rfl (fun ls hl => ?_)
    refine lv_aload_n hx hb dX5_load_14 rfl (lv_at hl 3 rfl) ?_
    refine lv_aload_n hx hb dX5_load_15 rfl (lv_at hl 1 rfl) ?_
    refine va_get (D := (dC, dI)) (ci := 4) (v := .ref h_t_cells) (C := RX5) (T := TX5) (N := 2) hx hb hts uX5 hown hK hP 1 rfl rfl 1 (by decide) k1 (fun _ h9 => h9) rfl dX5_load_16 ?_
    refine lv_iload_n hx hb dX5_load_19 rfl (lv_at hl 0 rfl) ?_
    refine lv_iconst (v := 0) hx hb dX5_load_20 (by decide) ?_
    refine lv_iadd hx hb dX5_load_21 ?_
    obtain ⟨b22, hm⟩ := ck_go hm
    refine va_iald hx hb hK hP 3 0 rfl rfl b22 dX5_load_22 ?_
    refine lv_topi (fun f_p2_size_1 ef_p2_size_1 => ?_)
    replace hm := lt_go ef_p2_size_1 hm
    refine my_put (W' := [(h_p2, .inr (6, [.int f_p2_size_1, .int f_p2_places, .int f_p2_drawn, .ref h_p2_sets])), (h_t, .inr (4, [.int f_t_count, .ref h_t_cells])), (h_p2_sets, .inl (cA, 8, .inl f_p2_sets)), (h_t_cells, .inl (cA, n_t_cells, .inl f_t_cells))]) (ci := 6) (v := .int f_p2_size_1) (ty := .int) (C := RX7) (T := TX7) (N := 4) hx hb hts uX7 tyX7 tyX7_ok nmX7 hown hK hP hD hS 0 rfl rfl 0 (by decide) k2 (fun _ h9 => h9) rfl (by decide +kernel) rfl rfl (Nat.le_of_ble_eq_true rfl) dX5_load_23 rfl (fun H locs hP hD hS => ?_)
    refine lv_aload_n hx hb dX5_load_26 rfl (lv_at hl 3 rfl) ?_
    refine lv_iconst (v := 0) hx hb dX5_load_27 (by decide) ?_
    refine lv_topi (fun f_p2_places_1 ef_p2_places_1 => ?_)
    replace hm := lt_go ef_p2_places_1 hm
    refine my_put (W' := [(h_p2, .inr (6, [.int f_p2_size_1, .int f_p2_places_1, .int f_p2_drawn, .ref h_p2_sets])), (h_t, .inr (4, [.int f_t_count, .ref h_t_cells])), (h_p2_sets, .inl (cA, 8, .inl f_p2_sets)), (h_t_cells, .inl (cA, n_t_cells, .inl f_t_cells))]) (ci := 6) (v := .int f_p2_places_1) (ty := .int) (C := RX7) (T := TX7) (N := 4) hx hb hts uX7 tyX7 tyX7_ok nmX7 hown hK hP hD hS 0 rfl rfl 1 (by decide) k3 (fun _ h9 => h9) rfl (by decide +kernel) rfl rfl (Nat.le_of_ble_eq_true rfl) dX5_load_28 rfl (fun H locs hP hD hS => ?_)
    refine lv_iconst (v := 0) hx hb dX5_load_31 (by decide) ?_
    refine lv_topi (fun v4_1 ev4_1 => ?_)
    replace hm := lt_go ev4_1 hm
    refine lv_istore (lv' := [(4, .int v4_1), (3, .int v3_1), (0, .ref h_t), (1, .int a1), (2, .ref h_p2)]) hx hb dX5_load_32 hl (by decide) rfl (fun ls hl => ?_)
    have L34 : ∀ (n : Nat) (v4_2 : Int32) (f_p2_places_2 : Int32) (f_p2_sets_1 : Nat → Int32) (f_p2_places_3 : Int32) (f_p2_sets_2 : Nat → Int32), m_Rows_load_L34 v3_1 n_t_cells f_t_cells n v4_2 f_p2_places_2 f_p2_sets_1 = some (f_p2_places_3, f_p2_sets_2) → ∀ (H : Heap) (locs : List Loc), va_P (dC, dI) vwCl [(h_p2, .inr (6, [.int f_p2_size_1, .int f_p2_places_2, .int f_p2_drawn, .ref h_p2_sets])), (h_t, .inr (4, [.int f_t_count, .ref h_t_cells])), (h_p2_sets, .inl (cA, 8, .inl f_p2_sets_1)), (h_t_cells, .inl (cA, n_t_cells, .inl f_t_cells))] H → va_D A [(h_p2, .inr (6, [.int f_p2_size_1, .int f_p2_places_2, .int f_p2_drawn, .ref h_p2_sets])), (h_t, .inr (4, [.int f_t_count, .ref h_t_cells])), (h_p2_sets, .inl (cA, 8, .inl f_p2_sets_1)), (h_t_cells, .inl (cA, n_t_cells, .inl f_t_cells))] → va_S A s.heap H locs → ∀ ls : Array Slot, lv_has ls 5 [(0, .ref h_t), (2, .ref h_p2), (3, .int v3_1), (4, .int v4_2)] → (∀ (H : Heap) (locs : List Loc), va_P (dC, dI) vwCl [(h_p2, .inr (6, [.int f_p2_size_1, .int f_p2_places_3, .int f_p2_drawn, .ref h_p2_sets])), (h_t, .inr (4, [.int f_t_count, .ref h_t_cells])), (h_p2_sets, .inl (cA, 8, .inl f_p2_sets_2)), (h_t_cells, .inl (cA, n_t_cells, .inl f_t_cells))] H → va_D A [(h_p2, .inr (6, [.int f_p2_size_1, .int f_p2_places_3, .int f_p2_drawn, .ref h_p2_sets])), (h_t, .inr (4, [.int f_t_count, .ref h_t_cells])), (h_p2_sets, .inl (cA, 8, .inl f_p2_sets_2)), (h_t_cells, .inl (cA, n_t_cells, .inl f_t_cells))] → va_S A s.heap H locs → ∀ ls : Array Slot, lv_has ls 5 [] → W p l e (headSpec wsX5_load rmX5_load).room s m (([.ref h_t, .int a1, .ref h_p2] : List Value).toArray) below meth c H locs 0 0 Q (F0 m 75 ls [])) → W p l e (headSpec wsX5_load rmX5_load).room s m (([.ref h_t, .int a1, .ref h_p2] : List Value).toArray) below meth c H locs 0 0 Q (F0 m 34 ls []) := by
      clear hm hP hD hS hl
      intro n
      induction n with
      | zero => intro _ _ _ _ _ hm; exact nomatch (show none = some _ from hm)
      | succ n ih =>
        intro v4_2 f_p2_places_2 f_p2_sets_1 f_p2_places_3 f_p2_sets_2 hm H locs hP hD hS ls hl KK
        unfold m_Rows_load_L34 at hm
        refine lv_iload hx hb dX5_load_34 (lv_at hl 3 rfl) ?_
        refine lv_aload_n hx hb dX5_load_36 rfl (lv_at hl 0 rfl) ?_
        refine va_get (D := (dC, dI)) (ci := 4) (v := .ref h_t_cells) (C := RX5) (T := TX5) (N := 2) hx hb hts uX5 hown hK hP 1 rfl rfl 1 (by decide) k1 (fun _ h9 => h9) rfl dX5_load_37 ?_
        refine lv_iload_n hx hb dX5_load_40 rfl (lv_at hl 2 rfl) ?_
        refine lv_iconst (v := 1) hx hb dX5_load_41 (by decide) ?_
        refine lv_iadd hx hb dX5_load_42 ?_
        obtain ⟨b43, hm⟩ := ck_go hm
        refine va_iald hx hb hK hP 3 0 rfl rfl b43 dX5_load_43 ?_
        refine lv_icmp_ge (tgt := 75) hx hb dX5_load_44 (by decide) (fun c44 => ?_) (fun c44 => ?_)
        · replace hm := if_t c44 hm
          cases hm
          exact KK _ _ hP hD hS _ (lv_sub hl [] rfl)
        · replace hm := if_f c44 hm
          refine lv_iload hx hb dX5_load_47 (lv_at hl 3 rfl) ?_
          refine lv_bipush (v := 8) hx hb dX5_load_49 (by decide) ?_
          refine lv_icmp_ge (tgt := 75) hx hb dX5_load_51 (by decide) (fun c51 => ?_) (fun c51 => ?_)
          · replace hm := if_t c51 hm
            cases hm
            exact KK _ _ hP hD hS _ (lv_sub hl [] rfl)
          · replace hm := if_f c51 hm
            refine lv_aload_n hx hb dX5_load_54 rfl (lv_at hl 1 rfl) ?_
            refine lv_aload_n hx hb dX5_load_55 rfl (lv_at hl 0 rfl) ?_
            refine va_get (D := (dC, dI)) (ci := 4) (v := .ref h_t_cells) (C := RX5) (T := TX5) (N := 2) hx hb hts uX5 hown hK hP 1 rfl rfl 1 (by decide) k1 (fun _ h9 => h9) rfl dX5_load_56 ?_
            refine lv_iload_n hx hb dX5_load_59 rfl (lv_at hl 2 rfl) ?_
            refine lv_iconst (v := 3) hx hb dX5_load_60 (by decide) ?_
            refine lv_iadd hx hb dX5_load_61 ?_
            refine lv_iload hx hb dX5_load_62 (lv_at hl 3 rfl) ?_
            refine lv_iadd hx hb dX5_load_64 ?_
            obtain ⟨b65, hm⟩ := ck_go hm
            refine va_iald hx hb hK hP 3 0 rfl rfl b65 dX5_load_65 ?_
            obtain ⟨f_p2_places_4, f_p2_sets_3, hc66, hm⟩ := bd2_go hm
            refine my_cVv (As := [.int (f_t_cells ((v3_1 + 3) + v4_2).toNatClampNeg)]) (rest := []) (WC := [(h_p2, .inr (6, [.int f_p2_size_1, .int f_p2_places_2, .int f_p2_drawn, .ref h_p2_sets])), (h_p2_sets, .inl (cA, 8, .inl f_p2_sets_1))]) (WC' := [(h_p2, .inr (6, [.int f_p2_size_1, .int f_p2_places_4, .int f_p2_drawn, .ref h_p2_sets])), (h_p2_sets, .inl (cA, 8, .inl f_p2_sets_3))]) (WR := [(h_t, .inr (4, [.int f_t_count, .ref h_t_cells])), (h_t_cells, .inl (cA, n_t_cells, .inl f_t_cells))]) (W' := [(h_p2, .inr (6, [.int f_p2_size_1, .int f_p2_places_4, .int f_p2_drawn, .ref h_p2_sets])), (h_t, .inr (4, [.int f_t_count, .ref h_t_cells])), (h_p2_sets, .inl (cA, 8, .inl f_p2_sets_3)), (h_t_cells, .inl (cA, n_t_cells, .inl f_t_cells))]) ⟨hx, hb, hml, hown, hts⟩ hK hP hD hS hA (c_Shelf_append l dC dI cA h_p2 h_p2_sets f_p2_size_1 f_p2_places_2 f_p2_drawn f_p2_sets_1 (f_t_cells ((v3_1 + 3) + v4_2).toNatClampNeg) f_p2_places_4 f_p2_sets_3 hc66) (cwV 1 hts gX5_load_X7_append rfl rfl rfl (by decide +kernel) ⟨Nat.le_of_ble_eq_true rfl, Nat.le_of_ble_eq_true rfl⟩) [0, 2] [1, 3] [2, 0, 3, 1] rfl rfl rfl rfl (ci := 6) (q0 := 0) rfl rfl rfl rfl hl.1 (Nat.le_of_ble_eq_true rfl) dX5_load_66 ⟨Nat.zero_le _, Nat.zero_le _⟩ (fun H locs hP hD hS => ?_)
            obtain ⟨v4_3, ev4_3⟩ : ∃ z : Int32, z = v4_2 + 1 := ⟨_, rfl⟩
            replace hm := lt_go ev4_3 hm
            refine lv_iinc (v := v4_3) (lv' := [(4, .int v4_3), (0, .ref h_t), (2, .ref h_p2), (3, .int v3_1)]) hx hb dX5_load_69 hl (k := 3) rfl (by rw [ev4_3]; rfl) (by decide) rfl (fun ls hl => ?_)
            refine lv_goto (tgt := 34) hx hb dX5_load_72 (by decide) ?_
            exact ih _ _ _ _ _ hm _ _ hP hD hS _ (lv_sub hl [1, 2, 3, 0] rfl) KK
    obtain ⟨f_p2_places_5, f_p2_sets_4, hl34, hm⟩ := bd2_go hm
    refine L34 _ _ _ _ _ _ hl34 _ _ hP hD hS _ (lv_sub hl [2, 4, 1, 0] rfl) (fun H locs hP hD hS ls hl => ?_)
    cases hm
    exact W_mono hQ (W.vret hx hb hr (fun t ht hW => ⟨⟨(), rfl, trivial, by rw [ht]; exact hP, va_K.moved hW.alike hK, hD⟩, hS.F ht⟩) hS.2.2 dX5_load_75)
  · replace hm := if_t c5 hm
    cases hm
    exact W_mono hQ (W.vret hx hb hr (fun t ht hW => ⟨⟨(), rfl, trivial, by rw [ht]; exact hP, va_K.moved hW.alike hK, hD⟩, hS.F ht⟩) hS.2.2 dX5_load_8)
abbrev rmX2_bringBack : Room := { frames := 3, cells := 0, slots := 0, locals := 66 }
theorem uX2_X2_bringBack : ∀ w ∈ wsX20, w ∈ wsX2_bringBack := fun _ h => List.mem_cons_of_mem _ (List.mem_append_left _ (List.mem_append_left _ (List.mem_append_right _ (h))))
set_option maxHeartbeats 40000000 in
set_option maxRecDepth 100000 in
theorem c_Past_bringBack (l : Launch) (dC : Nat → ClassId) (dI : Nat → Nat → Nat) (cA : ClassId) (fu : Nat) (h_p2 h_t h_t_rows h_p2_sets h_t_rows_cells : Nat) (f_p2_size : Int32) (f_p2_places : Int32) (f_p2_drawn : Int32) (f_t_deeds : Int32) (f_t_nextRow : Int32) (f_t_rows_count : Int32) (f_p2_sets : Nat → Int32) (f_t_rows_cells : Nat → Int32) (a1 : Int32) (f_p2_places_z : Int32) (f_p2_sets_z : Nat → Int32) (f_p2_size_z : Int32) (f_t_deeds_z : Int32) (f_t_nextRow_z : Int32) (hm : m_Past_bringBack fu f_p2_places f_p2_sets f_p2_size f_t_deeds f_t_nextRow f_t_rows_cells f_t_rows_count a1 = some (f_p2_places_z, f_p2_sets_z, f_p2_size_z, f_t_deeds_z, f_t_nextRow_z)) (sz : Nat) : Met l yX2_bringBack wsX2_bringBack rmX2_bringBack (mPre (dC, dI) cA [.ref h_t, .int a1, .ref h_p2] sz [(h_p2, .inr (6, [.int f_p2_size, .int f_p2_places, .int f_p2_drawn, .ref h_p2_sets])), (h_t, .inr (2, [.int f_t_deeds, .int f_t_nextRow, .ref h_t_rows])), (h_t_rows, .inr (4, [.int f_t_rows_count, .ref h_t_rows_cells])), (h_p2_sets, .inl (cA, 8, .inl f_p2_sets)), (h_t_rows_cells, .inl (cA, 176, .inl f_t_rows_cells))]) (mPosV (dC, dI) cA (va_A [(h_p2, .inr (6, [.int f_p2_size, .int f_p2_places, .int f_p2_drawn, .ref h_p2_sets])), (h_t, .inr (2, [.int f_t_deeds, .int f_t_nextRow, .ref h_t_rows])), (h_t_rows, .inr (4, [.int f_t_rows_count, .ref h_t_rows_cells])), (h_p2_sets, .inl (cA, 8, .inl f_p2_sets)), (h_t_rows_cells, .inl (cA, 176, .inl f_t_rows_cells))] sz) [(h_p2, .inr (6, [.int f_p2_size_z, .int f_p2_places_z, .int f_p2_drawn, .ref h_p2_sets])), (h_t, .inr (2, [.int f_t_deeds_z, .int f_t_nextRow_z, .ref h_t_rows])), (h_t_rows, .inr (4, [.int f_t_rows_count, .ref h_t_rows_cells])), (h_p2_sets, .inl (cA, 8, .inl f_p2_sets_z)), (h_t_rows_cells, .inl (cA, 176, .inl f_t_rows_cells))]) 0 0 (va_A [(h_p2, .inr (6, [.int f_p2_size, .int f_p2_places, .int f_p2_drawn, .ref h_p2_sets])), (h_t, .inr (2, [.int f_t_deeds, .int f_t_nextRow, .ref h_t_rows])), (h_t_rows, .inr (4, [.int f_t_rows_count, .ref h_t_rows_cells])), (h_p2_sets, .inl (cA, 8, .inl f_p2_sets)), (h_t_rows_cells, .inl (cA, 176, .inl f_t_rows_cells))] sz) := by
  refine Met.ofW (cc := cX2_bringBack) (maxL := 3) (ret := none) (by decide) rfl ?_
  intro p e s m args below meth c s₁ B hml hv
  obtain ⟨rfl, hsz, hP, hK, hD0⟩ := hv
  refine W_gen (fun Q hQ => ?_)
  have hx := B.exec
  have hb := B.bytes
  have hr := B.returns
  have hts := atoms_spec (ws := wsX2_bringBack) B.pre
  have hown : s.vm.findClass RX2 = some m.cls := findClass_of_methodNamed B.named
  have hlocks := B.notSynchronized
  subst hsz
  have hD := hD0.self (sz := s.heap.size)
  clear hD0
  generalize hAe : va_A [(h_p2, .inr (6, [.int f_p2_size, .int f_p2_places, .int f_p2_drawn, .ref h_p2_sets])), (h_t, .inr (2, [.int f_t_deeds, .int f_t_nextRow, .ref h_t_rows])), (h_t_rows, .inr (4, [.int f_t_rows_count, .ref h_t_rows_cells])), (h_p2_sets, .inl (cA, 8, .inl f_p2_sets)), (h_t_rows_cells, .inl (cA, 176, .inl f_t_rows_cells))] s.heap.size = A at hD hQ
  have hA : ∀ q : Nat, s.heap.size ≤ q → A q := fun q h => by rw [← hAe]; exact Or.inr h
  clear hAe
  have hS : va_S A s.heap s.heap [] := va_S.rf
  have hl := lv_entry ([.ref h_t, .int a1, .ref h_p2]) (n := 3) (Nat.le_of_ble_eq_true rfl)
  rw [lg_entry_eq]
  generalize (lg_sl ([.ref h_t, .int a1, .ref h_p2]) ++ List.replicate (3 - (lg_sl ([.ref h_t, .int a1, .ref h_p2])).length) Slot.unset).toArray = ls at hl ⊢
  have hl : lv_has ls 3 [(0, .ref h_t), (1, .int a1), (2, .ref h_p2)] := hl
  have k1 := hts (.fieldLink RX2 9 "ToneSets$Past" "deeds" "I") (List.mem_of_getElem? (i := 1) rfl)
  have k2 := hts (.fieldLink RX2 15 "ToneSets$Past" "nextRow" "I") (List.mem_of_getElem? (i := 2) rfl)
  have k3 := hts (.fieldLink RX2 23 "ToneSets$Past" "rows" "LToneSets$Rows;") (List.mem_of_getElem? (i := 3) rfl)
  have uX2 := uX2_X2_bringBack
  unfold m_Past_bringBack at hm
  refine lv_iload_n hx hb dX2_bringBack_0 rfl (lv_at hl 1 rfl) ?_
  refine lv_iconst (v := 1) hx hb dX2_bringBack_1 (by decide) ?_
  refine lv_icmp_lt (tgt := 13) hx hb dX2_bringBack_2 (by decide) (fun c2 => ?_) (fun c2 => ?_)
  · replace hm := if_t c2 hm
    cases hm
    exact W_mono hQ (W.vret hx hb hr (fun t ht hW => ⟨⟨(), rfl, trivial, by rw [ht]; exact hP, va_K.moved hW.alike hK, hD⟩, hS.F ht⟩) hS.2.2 dX2_bringBack_13)
  · replace hm := if_f c2 hm
    refine lv_iload_n hx hb dX2_bringBack_5 rfl (lv_at hl 1 rfl) ?_
    refine lv_aload_n hx hb dX2_bringBack_6 rfl (lv_at hl 0 rfl) ?_
    refine va_get (D := (dC, dI)) (ci := 2) (v := .int f_t_deeds) (C := RX2) (T := TX2) (N := 3) hx hb hts uX2 hown hK hP 1 rfl rfl 0 (by decide) k1 (fun _ h9 => h9) rfl dX2_bringBack_7 ?_
    refine lv_icmp_le (tgt := 14) hx hb dX2_bringBack_10 (by decide) (fun c10 => ?_) (fun c10 => ?_)
    · replace hm := if_t c10 hm
      refine lv_aload_n hx hb dX2_bringBack_14 rfl (lv_at hl 0 rfl) ?_
      refine lv_aload_n hx hb dX2_bringBack_15 rfl (lv_at hl 0 rfl) ?_
      refine va_get (D := (dC, dI)) (ci := 2) (v := .int f_t_nextRow) (C := RX2) (T := TX2) (N := 3) hx hb hts uX2 hown hK hP 1 rfl rfl 1 (by decide) k2 (fun _ h9 => h9) rfl dX2_bringBack_16 ?_
      refine lv_bipush (v := 16) hx hb dX2_bringBack_19 (by decide) ?_
      refine lv_iadd hx hb dX2_bringBack_21 ?_
      refine lv_iload_n hx hb dX2_bringBack_22 rfl (lv_at hl 1 rfl) ?_
      refine lv_isub hx hb dX2_bringBack_23 ?_
      refine lv_bipush (v := 16) hx hb dX2_bringBack_24 (by decide) ?_
      refine lv_irem hx hb dX2_bringBack_26 (by decide) ?_
      refine lv_topi (fun f_t_nextRow_1 ef_t_nextRow_1 => ?_)
      replace hm := lt_go ef_t_nextRow_1 hm
      refine my_put (W' := [(h_p2, .inr (6, [.int f_p2_size, .int f_p2_places, .int f_p2_drawn, .ref h_p2_sets])), (h_t, .inr (2, [.int f_t_deeds, .int f_t_nextRow_1, .ref h_t_rows])), (h_t_rows, .inr (4, [.int f_t_rows_count, .ref h_t_rows_cells])), (h_p2_sets, .inl (cA, 8, .inl f_p2_sets)), (h_t_rows_cells, .inl (cA, 176, .inl f_t_rows_cells))]) (ci := 2) (v := .int f_t_nextRow_1) (ty := .int) (C := RX2) (T := TX2) (N := 3) hx hb hts uX2 tyX2 tyX2_ok nmX2 hown hK hP hD hS 1 rfl rfl 1 (by decide) k2 (fun _ h9 => h9) rfl (by decide +kernel) rfl rfl (Nat.le_of_ble_eq_true rfl) dX2_bringBack_27 rfl (fun H locs hP hD hS => ?_)
      refine lv_aload_n hx hb dX2_bringBack_30 rfl (lv_at hl 0 rfl) ?_
      refine lv_dup hx hb dX2_bringBack_31 rfl ?_
      refine va_get (D := (dC, dI)) (ci := 2) (v := .int f_t_deeds) (C := RX2) (T := TX2) (N := 3) hx hb hts uX2 hown hK hP 1 rfl rfl 0 (by decide) k1 (fun _ h9 => h9) rfl dX2_bringBack_32 ?_
      refine lv_iload_n hx hb dX2_bringBack_35 rfl (lv_at hl 1 rfl) ?_
      refine lv_isub hx hb dX2_bringBack_36 ?_
      refine lv_topi (fun f_t_deeds_1 ef_t_deeds_1 => ?_)
      replace hm := lt_go ef_t_deeds_1 hm
      refine my_put (W' := [(h_p2, .inr (6, [.int f_p2_size, .int f_p2_places, .int f_p2_drawn, .ref h_p2_sets])), (h_t, .inr (2, [.int f_t_deeds_1, .int f_t_nextRow_1, .ref h_t_rows])), (h_t_rows, .inr (4, [.int f_t_rows_count, .ref h_t_rows_cells])), (h_p2_sets, .inl (cA, 8, .inl f_p2_sets)), (h_t_rows_cells, .inl (cA, 176, .inl f_t_rows_cells))]) (ci := 2) (v := .int f_t_deeds_1) (ty := .int) (C := RX2) (T := TX2) (N := 3) hx hb hts uX2 tyX2 tyX2_ok nmX2 hown hK hP hD hS 1 rfl rfl 0 (by decide) k1 (fun _ h9 => h9) rfl (by decide +kernel) rfl rfl (Nat.le_of_ble_eq_true rfl) dX2_bringBack_37 rfl (fun H locs hP hD hS => ?_)
      refine lv_aload_n hx hb dX2_bringBack_40 rfl (lv_at hl 0 rfl) ?_
      refine va_get (D := (dC, dI)) (ci := 2) (v := .ref h_t_rows) (C := RX2) (T := TX2) (N := 3) hx hb hts uX2 hown hK hP 1 rfl rfl 2 (by decide) k3 (fun _ h9 => h9) rfl dX2_bringBack_41 ?_
      refine lv_aload_n hx hb dX2_bringBack_44 rfl (lv_at hl 0 rfl) ?_
      refine va_get (D := (dC, dI)) (ci := 2) (v := .int f_t_nextRow_1) (C := RX2) (T := TX2) (N := 3) hx hb hts uX2 hown hK hP 1 rfl rfl 1 (by decide) k2 (fun _ h9 => h9) rfl dX2_bringBack_45 ?_
      refine lv_aload_n hx hb dX2_bringBack_48 rfl (lv_at hl 2 rfl) ?_
      obtain ⟨f_p2_places_1, f_p2_sets_1, f_p2_size_1, hc49, hm⟩ := bd3_go hm
      refine my_cVv (As := [.int f_t_nextRow_1, .ref h_p2]) (rest := []) (WC := [(h_p2, .inr (6, [.int f_p2_size, .int f_p2_places, .int f_p2_drawn, .ref h_p2_sets])), (h_t_rows, .inr (4, [.int f_t_rows_count, .ref h_t_rows_cells])), (h_p2_sets, .inl (cA, 8, .inl f_p2_sets)), (h_t_rows_cells, .inl (cA, 176, .inl f_t_rows_cells))]) (WC' := [(h_p2, .inr (6, [.int f_p2_size_1, .int f_p2_places_1, .int f_p2_drawn, .ref h_p2_sets])), (h_t_rows, .inr (4, [.int f_t_rows_count, .ref h_t_rows_cells])), (h_p2_sets, .inl (cA, 8, .inl f_p2_sets_1)), (h_t_rows_cells, .inl (cA, 176, .inl f_t_rows_cells))]) (WR := [(h_t, .inr (2, [.int f_t_deeds_1, .int f_t_nextRow_1, .ref h_t_rows]))]) (W' := [(h_p2, .inr (6, [.int f_p2_size_1, .int f_p2_places_1, .int f_p2_drawn, .ref h_p2_sets])), (h_t, .inr (2, [.int f_t_deeds_1, .int f_t_nextRow_1, .ref h_t_rows])), (h_t_rows, .inr (4, [.int f_t_rows_count, .ref h_t_rows_cells])), (h_p2_sets, .inl (cA, 8, .inl f_p2_sets_1)), (h_t_rows_cells, .inl (cA, 176, .inl f_t_rows_cells))]) ⟨hx, hb, hml, hown, hts⟩ hK hP hD hS hA (c_Rows_load l dC dI cA fu h_p2 h_t_rows h_p2_sets h_t_rows_cells 176 f_p2_size f_p2_places f_p2_drawn f_t_rows_count f_p2_sets f_t_rows_cells f_t_nextRow_1 f_p2_places_1 f_p2_sets_1 f_p2_size_1 hc49) (cwV 2 hts gX2_bringBack_X5_load rfl rfl rfl (by decide +kernel) ⟨Nat.le_of_ble_eq_true rfl, Nat.le_of_ble_eq_true rfl⟩) [0, 2, 3, 4] [1] [1, 0, 2, 3, 4] rfl rfl rfl rfl (ci := 4) (q0 := 1) rfl rfl rfl rfl hl.1 (Nat.le_of_ble_eq_true rfl) dX2_bringBack_49 ⟨Nat.zero_le _, Nat.zero_le _⟩ (fun H locs hP hD hS => ?_)
      cases hm
      exact W_mono hQ (W.vret hx hb hr (fun t ht hW => ⟨⟨(), rfl, trivial, by rw [ht]; exact hP, va_K.moved hW.alike hK, hD⟩, hS.F ht⟩) hS.2.2 dX2_bringBack_52)
    · replace hm := if_f c10 hm
      cases hm
      exact W_mono hQ (W.vret hx hb hr (fun t ht hW => ⟨⟨(), rfl, trivial, by rw [ht]; exact hP, va_K.moved hW.alike hK, hD⟩, hS.F ht⟩) hS.2.2 dX2_bringBack_13)
abbrev rmX5_store : Room := { frames := 2, cells := 0, slots := 0, locals := 42 }
theorem uX5_X5_store : ∀ w ∈ wsX50, w ∈ wsX5_store := fun _ h => List.mem_cons_of_mem _ (List.mem_append_left _ (List.mem_append_right _ (h)))
theorem uX7_X5_store : ∀ w ∈ wsX70, w ∈ wsX5_store := fun _ h => List.mem_cons_of_mem _ (List.mem_append_right _ (h))
set_option maxHeartbeats 40000000 in
set_option maxRecDepth 100000 in
theorem c_Rows_store (l : Launch) (dC : Nat → ClassId) (dI : Nat → Nat → Nat) (cA : ClassId) (fu : Nat) (h_p2 h_t h_p2_sets h_t_cells : Nat) (n_t_cells : Nat) (f_p2_size : Int32) (f_p2_places : Int32) (f_p2_drawn : Int32) (f_t_count : Int32) (f_p2_sets : Nat → Int32) (f_t_cells : Nat → Int32) (a1 : Int32) (f_t_cells_z : Nat → Int32) (hm : m_Rows_store fu n_t_cells f_p2_drawn f_p2_places f_p2_sets f_p2_size f_t_cells f_t_count a1 = some f_t_cells_z) (sz : Nat) : Met l yX5_store wsX5_store rmX5_store (mPre (dC, dI) cA [.ref h_t, .int a1, .ref h_p2] sz [(h_p2, .inr (6, [.int f_p2_size, .int f_p2_places, .int f_p2_drawn, .ref h_p2_sets])), (h_t, .inr (4, [.int f_t_count, .ref h_t_cells])), (h_p2_sets, .inl (cA, 8, .inl f_p2_sets)), (h_t_cells, .inl (cA, n_t_cells, .inl f_t_cells))]) (mPosV (dC, dI) cA (va_A [(h_p2, .inr (6, [.int f_p2_size, .int f_p2_places, .int f_p2_drawn, .ref h_p2_sets])), (h_t, .inr (4, [.int f_t_count, .ref h_t_cells])), (h_p2_sets, .inl (cA, 8, .inl f_p2_sets)), (h_t_cells, .inl (cA, n_t_cells, .inl f_t_cells))] sz) [(h_p2, .inr (6, [.int f_p2_size, .int f_p2_places, .int f_p2_drawn, .ref h_p2_sets])), (h_t, .inr (4, [.int f_t_count, .ref h_t_cells])), (h_p2_sets, .inl (cA, 8, .inl f_p2_sets)), (h_t_cells, .inl (cA, n_t_cells, .inl f_t_cells_z))]) 0 0 (va_A [(h_p2, .inr (6, [.int f_p2_size, .int f_p2_places, .int f_p2_drawn, .ref h_p2_sets])), (h_t, .inr (4, [.int f_t_count, .ref h_t_cells])), (h_p2_sets, .inl (cA, 8, .inl f_p2_sets)), (h_t_cells, .inl (cA, n_t_cells, .inl f_t_cells))] sz) := by
  refine Met.ofW (cc := cX5_store) (maxL := 5) (ret := none) (by decide) rfl ?_
  intro p e s m args below meth c s₁ B hml hv
  obtain ⟨rfl, hsz, hP, hK, hD0⟩ := hv
  refine W_gen (fun Q hQ => ?_)
  have hx := B.exec
  have hb := B.bytes
  have hr := B.returns
  have hts := atoms_spec (ws := wsX5_store) B.pre
  have hown : s.vm.findClass RX5 = some m.cls := findClass_of_methodNamed B.named
  have hlocks := B.notSynchronized
  subst hsz
  have hD := hD0.self (sz := s.heap.size)
  clear hD0
  generalize hAe : va_A [(h_p2, .inr (6, [.int f_p2_size, .int f_p2_places, .int f_p2_drawn, .ref h_p2_sets])), (h_t, .inr (4, [.int f_t_count, .ref h_t_cells])), (h_p2_sets, .inl (cA, 8, .inl f_p2_sets)), (h_t_cells, .inl (cA, n_t_cells, .inl f_t_cells))] s.heap.size = A at hD hQ
  have hA : ∀ q : Nat, s.heap.size ≤ q → A q := fun q h => by rw [← hAe]; exact Or.inr h
  clear hAe
  have hS : va_S A s.heap s.heap [] := va_S.rf
  have hl := lv_entry ([.ref h_t, .int a1, .ref h_p2]) (n := 5) (Nat.le_of_ble_eq_true rfl)
  rw [lg_entry_eq]
  generalize (lg_sl ([.ref h_t, .int a1, .ref h_p2]) ++ List.replicate (5 - (lg_sl ([.ref h_t, .int a1, .ref h_p2])).length) Slot.unset).toArray = ls at hl ⊢
  have hl : lv_has ls 5 [(0, .ref h_t), (1, .int a1), (2, .ref h_p2)] := hl
  have k1 := hts (.fieldLink RX5 24 "ToneSets$Rows" "cells" "[I") (List.mem_of_getElem? (i := 1) rfl)
  have k2 := hts (.fieldLink RX5 32 "ToneSets$Shelf" "size" "I") (List.mem_of_getElem? (i := 2) rfl)
  have k3 := hts (.fieldLink RX5 37 "ToneSets$Shelf" "places" "I") (List.mem_of_getElem? (i := 3) rfl)
  have k4 := hts (.fieldLink RX5 40 "ToneSets$Shelf" "drawn" "I") (List.mem_of_getElem? (i := 4) rfl)
  have uX5 := uX5_X5_store
  have uX7 := uX7_X5_store
  unfold m_Rows_store at hm
  refine lv_aload_n hx hb dX5_store_0 rfl (lv_at hl 0 rfl) ?_
  refine lv_iload_n hx hb dX5_store_1 rfl (lv_at hl 1 rfl) ?_
  obtain ⟨r_1, hc2, hm⟩ := bd1_go hm
  refine my_cVi (As := [.int a1]) (rest := []) (WC := [(h_t, .inr (4, [.int f_t_count, .ref h_t_cells]))]) (WC' := [(h_t, .inr (4, [.int f_t_count, .ref h_t_cells]))]) (WR := [(h_p2, .inr (6, [.int f_p2_size, .int f_p2_places, .int f_p2_drawn, .ref h_p2_sets])), (h_p2_sets, .inl (cA, 8, .inl f_p2_sets)), (h_t_cells, .inl (cA, n_t_cells, .inl f_t_cells))]) (W' := [(h_p2, .inr (6, [.int f_p2_size, .int f_p2_places, .int f_p2_drawn, .ref h_p2_sets])), (h_t, .inr (4, [.int f_t_count, .ref h_t_cells])), (h_p2_sets, .inl (cA, 8, .inl f_p2_sets)), (h_t_cells, .inl (cA, n_t_cells, .inl f_t_cells))]) ⟨hx, hb, hml, hown, hts⟩ hK hP hD hS hA (c_Rows_has l dC dI cA h_t h_t_cells f_t_count a1 r_1 hc2) (cwV 1 hts gX5_store_X5_has rfl rfl rfl (by decide +kernel) ⟨Nat.le_of_ble_eq_true rfl, Nat.le_of_ble_eq_true rfl⟩) [1] [0, 2, 3] [0, 3, 1, 2] rfl rfl rfl rfl (ci := 4) (q0 := 0) rfl rfl rfl rfl hl.1 (Nat.le_of_ble_eq_true rfl) dX5_store_2 ⟨Nat.zero_le _, Nat.zero_le _⟩ (fun H locs hP hD hS => ?_)
  refine lv_if_ne (tgt := 9) hx hb dX5_store_5 (by decide) (fun c5 => ?_) (fun c5 => ?_)
  · replace hm := if_f c5 hm
    refine lv_iload_n hx hb dX5_store_9 rfl (lv_at hl 1 rfl) ?_
    refine lv_bipush (v := 11) hx hb dX5_store_10 (by decide) ?_
    refine lv_imul hx hb dX5_store_12 ?_
    refine lv_topi (fun v3_1 ev3_1 => ?_)
    replace hm := lt_go ev3_1 hm
    refine lv_istore_n (lv' := [(3, .int v3_1), (0, .ref h_t), (1, .int a1), (2, .ref h_p2)]) hx hb dX5_store_13 rfl hl (by decide) rfl (fun ls hl => ?_)
    refine lv_aload_n hx hb dX5_store_14 rfl (lv_at hl 1 rfl) ?_
    refine va_get (D := (dC, dI)) (ci := 4) (v := .ref h_t_cells) (C := RX5) (T := TX5) (N := 2) hx hb hts uX5 hown hK hP 1 rfl rfl 1 (by decide) k1 (fun _ h9 => h9) rfl dX5_store_15 ?_
    refine lv_iload_n hx hb dX5_store_18 rfl (lv_at hl 0 rfl) ?_
    refine lv_iconst (v := 0) hx hb dX5_store_19 (by decide) ?_
    refine lv_iadd hx hb dX5_store_20 ?_
    refine lv_aload_n hx hb dX5_store_21 rfl (lv_at hl 3 rfl) ?_
    refine va_get (D := (dC, dI)) (ci := 6) (v := .int f_p2_size) (C := RX7) (T := TX7) (N := 4) hx hb hts uX7 hown hK hP 0 rfl rfl 0 (by decide) k2 (fun _ h9 => h9) rfl dX5_store_22 ?_
    obtain ⟨b25, hm⟩ := ck_go hm
    refine my_iast (W' := fun z' => [(h_p2, .inr (6, [.int f_p2_size, .int f_p2_places, .int f_p2_drawn, .ref h_p2_sets])), (h_t, .inr (4, [.int f_t_count, .ref h_t_cells])), (h_p2_sets, .inl (cA, 8, .inl f_p2_sets)), (h_t_cells, .inl (cA, n_t_cells, .inl z'))]) hx hb hK hP hD hS 3 0 rfl rfl b25 dX5_store_25 (fun _ => rfl) (fun f_t_cells_1 ef_t_cells_1 H locs hP hD hS => ?_)
    replace hm := lt_go ef_t_cells_1 hm
    refine lv_aload_n hx hb dX5_store_26 rfl (lv_at hl 1 rfl) ?_
    refine va_get (D := (dC, dI)) (ci := 4) (v := .ref h_t_cells) (C := RX5) (T := TX5) (N := 2) hx hb hts uX5 hown hK hP 1 rfl rfl 1 (by decide) k1 (fun _ h9 => h9) rfl dX5_store_27 ?_
    refine lv_iload_n hx hb dX5_store_30 rfl (lv_at hl 0 rfl) ?_
    refine lv_iconst (v := 1) hx hb dX5_store_31 (by decide) ?_
    refine lv_iadd hx hb dX5_store_32 ?_
    refine lv_aload_n hx hb dX5_store_33 rfl (lv_at hl 3 rfl) ?_
    refine va_get (D := (dC, dI)) (ci := 6) (v := .int f_p2_places) (C := RX7) (T := TX7) (N := 4) hx hb hts uX7 hown hK hP 0 rfl rfl 1 (by decide) k3 (fun _ h9 => h9) rfl dX5_store_34 ?_
    obtain ⟨b37, hm⟩ := ck_go hm
    refine my_iast (W' := fun z' => [(h_p2, .inr (6, [.int f_p2_size, .int f_p2_places, .int f_p2_drawn, .ref h_p2_sets])), (h_t, .inr (4, [.int f_t_count, .ref h_t_cells])), (h_p2_sets, .inl (cA, 8, .inl f_p2_sets)), (h_t_cells, .inl (cA, n_t_cells, .inl z'))]) hx hb hK hP hD hS 3 0 rfl rfl b37 dX5_store_37 (fun _ => rfl) (fun f_t_cells_2 ef_t_cells_2 H locs hP hD hS => ?_)
    replace hm := lt_go ef_t_cells_2 hm
    refine lv_aload_n hx hb dX5_store_38 rfl (lv_at hl 1 rfl) ?_
    refine va_get (D := (dC, dI)) (ci := 4) (v := .ref h_t_cells) (C := RX5) (T := TX5) (N := 2) hx hb hts uX5 hown hK hP 1 rfl rfl 1 (by decide) k1 (fun _ h9 => h9) rfl dX5_store_39 ?_
    refine lv_iload_n hx hb dX5_store_42 rfl (lv_at hl 0 rfl) ?_
    refine lv_iconst (v := 2) hx hb dX5_store_43 (by decide) ?_
    refine lv_iadd hx hb dX5_store_44 ?_
    refine lv_aload_n hx hb dX5_store_45 rfl (lv_at hl 3 rfl) ?_
    refine va_get (D := (dC, dI)) (ci := 6) (v := .int f_p2_drawn) (C := RX7) (T := TX7) (N := 4) hx hb hts uX7 hown hK hP 0 rfl rfl 2 (by decide) k4 (fun _ h9 => h9) rfl dX5_store_46 ?_
    obtain ⟨b49, hm⟩ := ck_go hm
    refine my_iast (W' := fun z' => [(h_p2, .inr (6, [.int f_p2_size, .int f_p2_places, .int f_p2_drawn, .ref h_p2_sets])), (h_t, .inr (4, [.int f_t_count, .ref h_t_cells])), (h_p2_sets, .inl (cA, 8, .inl f_p2_sets)), (h_t_cells, .inl (cA, n_t_cells, .inl z'))]) hx hb hK hP hD hS 3 0 rfl rfl b49 dX5_store_49 (fun _ => rfl) (fun f_t_cells_3 ef_t_cells_3 H locs hP hD hS => ?_)
    replace hm := lt_go ef_t_cells_3 hm
    refine lv_iconst (v := 0) hx hb dX5_store_50 (by decide) ?_
    refine lv_topi (fun v4_1 ev4_1 => ?_)
    replace hm := lt_go ev4_1 hm
    refine lv_istore (lv' := [(4, .int v4_1), (3, .int v3_1), (0, .ref h_t), (1, .int a1), (2, .ref h_p2)]) hx hb dX5_store_51 hl (by decide) rfl (fun ls hl => ?_)
    have L53 : ∀ (n : Nat) (v4_2 : Int32) (f_t_cells_4 : Nat → Int32) (f_t_cells_5 : Nat → Int32), m_Rows_store_L53 f_p2_places f_p2_sets v3_1 n_t_cells n v4_2 f_t_cells_4 = some f_t_cells_5 → ∀ (H : Heap) (locs : List Loc), va_P (dC, dI) vwCl [(h_p2, .inr (6, [.int f_p2_size, .int f_p2_places, .int f_p2_drawn, .ref h_p2_sets])), (h_t, .inr (4, [.int f_t_count, .ref h_t_cells])), (h_p2_sets, .inl (cA, 8, .inl f_p2_sets)), (h_t_cells, .inl (cA, n_t_cells, .inl f_t_cells_4))] H → va_D A [(h_p2, .inr (6, [.int f_p2_size, .int f_p2_places, .int f_p2_drawn, .ref h_p2_sets])), (h_t, .inr (4, [.int f_t_count, .ref h_t_cells])), (h_p2_sets, .inl (cA, 8, .inl f_p2_sets)), (h_t_cells, .inl (cA, n_t_cells, .inl f_t_cells_4))] → va_S A s.heap H locs → ∀ ls : Array Slot, lv_has ls 5 [(0, .ref h_t), (2, .ref h_p2), (3, .int v3_1), (4, .int v4_2)] → (∀ (H : Heap) (locs : List Loc), va_P (dC, dI) vwCl [(h_p2, .inr (6, [.int f_p2_size, .int f_p2_places, .int f_p2_drawn, .ref h_p2_sets])), (h_t, .inr (4, [.int f_t_count, .ref h_t_cells])), (h_p2_sets, .inl (cA, 8, .inl f_p2_sets)), (h_t_cells, .inl (cA, n_t_cells, .inl f_t_cells_5))] H → va_D A [(h_p2, .inr (6, [.int f_p2_size, .int f_p2_places, .int f_p2_drawn, .ref h_p2_sets])), (h_t, .inr (4, [.int f_t_count, .ref h_t_cells])), (h_p2_sets, .inl (cA, 8, .inl f_p2_sets)), (h_t_cells, .inl (cA, n_t_cells, .inl f_t_cells_5))] → va_S A s.heap H locs → ∀ ls : Array Slot, lv_has ls 5 [] → W p l e (headSpec wsX5_store rmX5_store).room s m (([.ref h_t, .int a1, .ref h_p2] : List Value).toArray) below meth c H locs 0 0 Q (F0 m 83 ls [])) → W p l e (headSpec wsX5_store rmX5_store).room s m (([.ref h_t, .int a1, .ref h_p2] : List Value).toArray) below meth c H locs 0 0 Q (F0 m 53 ls []) := by
      clear hm hP hD hS hl
      intro n
      induction n with
      | zero => intro _ _ _ hm; exact nomatch (show none = some _ from hm)
      | succ n ih =>
        intro v4_2 f_t_cells_4 f_t_cells_5 hm H locs hP hD hS ls hl KK
        unfold m_Rows_store_L53 at hm
        refine lv_iload hx hb dX5_store_53 (lv_at hl 3 rfl) ?_
        refine lv_bipush (v := 8) hx hb dX5_store_55 (by decide) ?_
        refine lv_icmp_ge (tgt := 83) hx hb dX5_store_57 (by decide) (fun c57 => ?_) (fun c57 => ?_)
        · replace hm := if_t c57 hm
          cases hm
          exact KK _ _ hP hD hS _ (lv_sub hl [] rfl)
        · replace hm := if_f c57 hm
          refine lv_aload_n hx hb dX5_store_60 rfl (lv_at hl 0 rfl) ?_
          refine va_get (D := (dC, dI)) (ci := 4) (v := .ref h_t_cells) (C := RX5) (T := TX5) (N := 2) hx hb hts uX5 hown hK hP 1 rfl rfl 1 (by decide) k1 (fun _ h9 => h9) rfl dX5_store_61 ?_
          refine lv_iload_n hx hb dX5_store_64 rfl (lv_at hl 2 rfl) ?_
          refine lv_iconst (v := 3) hx hb dX5_store_65 (by decide) ?_
          refine lv_iadd hx hb dX5_store_66 ?_
          refine lv_iload hx hb dX5_store_67 (lv_at hl 3 rfl) ?_
          refine lv_iadd hx hb dX5_store_69 ?_
          refine lv_aload_n hx hb dX5_store_70 rfl (lv_at hl 1 rfl) ?_
          refine lv_iload hx hb dX5_store_71 (lv_at hl 3 rfl) ?_
          obtain ⟨r_2, hc73, hm⟩ := bd1_go hm
          refine my_cVi (As := [.int v4_2]) (rest := [.int ((v3_1 + 3) + v4_2), .ref h_t_cells]) (WC := [(h_p2, .inr (6, [.int f_p2_size, .int f_p2_places, .int f_p2_drawn, .ref h_p2_sets])), (h_p2_sets, .inl (cA, 8, .inl f_p2_sets))]) (WC' := [(h_p2, .inr (6, [.int f_p2_size, .int f_p2_places, .int f_p2_drawn, .ref h_p2_sets])), (h_p2_sets, .inl (cA, 8, .inl f_p2_sets))]) (WR := [(h_t, .inr (4, [.int f_t_count, .ref h_t_cells])), (h_t_cells, .inl (cA, n_t_cells, .inl f_t_cells_4))]) (W' := [(h_p2, .inr (6, [.int f_p2_size, .int f_p2_places, .int f_p2_drawn, .ref h_p2_sets])), (h_t, .inr (4, [.int f_t_count, .ref h_t_cells])), (h_p2_sets, .inl (cA, 8, .inl f_p2_sets)), (h_t_cells, .inl (cA, n_t_cells, .inl f_t_cells_4))]) ⟨hx, hb, hml, hown, hts⟩ hK hP hD hS hA (c_Shelf_setAt l dC dI cA h_p2 h_p2_sets f_p2_size f_p2_places f_p2_drawn f_p2_sets v4_2 r_2 hc73) (cwV 1 hts gX5_store_X7_setAt rfl rfl rfl (by decide +kernel) ⟨Nat.le_of_ble_eq_true rfl, Nat.le_of_ble_eq_true rfl⟩) [0, 2] [1, 3] [2, 0, 3, 1] rfl rfl rfl rfl (ci := 6) (q0 := 0) rfl rfl rfl rfl hl.1 (Nat.le_of_ble_eq_true rfl) dX5_store_73 ⟨Nat.zero_le _, Nat.zero_le _⟩ (fun H locs hP hD hS => ?_)
          obtain ⟨b76, hm⟩ := ck_go hm
          refine my_iast (W' := fun z' => [(h_p2, .inr (6, [.int f_p2_size, .int f_p2_places, .int f_p2_drawn, .ref h_p2_sets])), (h_t, .inr (4, [.int f_t_count, .ref h_t_cells])), (h_p2_sets, .inl (cA, 8, .inl f_p2_sets)), (h_t_cells, .inl (cA, n_t_cells, .inl z'))]) hx hb hK hP hD hS 3 0 rfl rfl b76 dX5_store_76 (fun _ => rfl) (fun f_t_cells_6 ef_t_cells_6 H locs hP hD hS => ?_)
          replace hm := lt_go ef_t_cells_6 hm
          obtain ⟨v4_3, ev4_3⟩ : ∃ z : Int32, z = v4_2 + 1 := ⟨_, rfl⟩
          replace hm := lt_go ev4_3 hm
          refine lv_iinc (v := v4_3) (lv' := [(4, .int v4_3), (0, .ref h_t), (2, .ref h_p2), (3, .int v3_1)]) hx hb dX5_store_77 hl (k := 3) rfl (by rw [ev4_3]; rfl) (by decide) rfl (fun ls hl => ?_)
          refine lv_goto (tgt := 53) hx hb dX5_store_80 (by decide) ?_
          exact ih _ _ _ hm _ _ hP hD hS _ (lv_sub hl [1, 2, 3, 0] rfl) KK
    obtain ⟨f_t_cells_7, hl53, hm⟩ := bd1_go hm
    refine L53 _ _ _ _ hl53 _ _ hP hD hS _ (lv_sub hl [2, 4, 1, 0] rfl) (fun H locs hP hD hS ls hl => ?_)
    cases hm
    exact W_mono hQ (W.vret hx hb hr (fun t ht hW => ⟨⟨(), rfl, trivial, by rw [ht]; exact hP, va_K.moved hW.alike hK, hD⟩, hS.F ht⟩) hS.2.2 dX5_store_83)
  · replace hm := if_t c5 hm
    cases hm
    exact W_mono hQ (W.vret hx hb hr (fun t ht hW => ⟨⟨(), rfl, trivial, by rw [ht]; exact hP, va_K.moved hW.alike hK, hD⟩, hS.F ht⟩) hS.2.2 dX5_store_8)
abbrev rmX2_remember : Room := { frames := 3, cells := 0, slots := 0, locals := 66 }
theorem uX2_X2_remember : ∀ w ∈ wsX20, w ∈ wsX2_remember := fun _ h => List.mem_cons_of_mem _ (List.mem_append_left _ (List.mem_append_left _ (List.mem_append_right _ (h))))
set_option maxHeartbeats 40000000 in
set_option maxRecDepth 100000 in
theorem c_Past_remember (l : Launch) (dC : Nat → ClassId) (dI : Nat → Nat → Nat) (cA : ClassId) (fu : Nat) (h_p1 h_t h_t_rows h_p1_sets h_t_rows_cells : Nat) (f_p1_size : Int32) (f_p1_places : Int32) (f_p1_drawn : Int32) (f_t_deeds : Int32) (f_t_nextRow : Int32) (f_t_rows_count : Int32) (f_p1_sets : Nat → Int32) (f_t_rows_cells : Nat → Int32) (f_t_deeds_z : Int32) (f_t_nextRow_z : Int32) (f_t_rows_cells_z : Nat → Int32) (hm : m_Past_remember fu f_p1_drawn f_p1_places f_p1_sets f_p1_size f_t_deeds f_t_nextRow f_t_rows_cells f_t_rows_count = some (f_t_deeds_z, f_t_nextRow_z, f_t_rows_cells_z)) (sz : Nat) : Met l yX2_remember wsX2_remember rmX2_remember (mPre (dC, dI) cA [.ref h_t, .ref h_p1] sz [(h_p1, .inr (6, [.int f_p1_size, .int f_p1_places, .int f_p1_drawn, .ref h_p1_sets])), (h_t, .inr (2, [.int f_t_deeds, .int f_t_nextRow, .ref h_t_rows])), (h_t_rows, .inr (4, [.int f_t_rows_count, .ref h_t_rows_cells])), (h_p1_sets, .inl (cA, 8, .inl f_p1_sets)), (h_t_rows_cells, .inl (cA, 176, .inl f_t_rows_cells))]) (mPosV (dC, dI) cA (va_A [(h_p1, .inr (6, [.int f_p1_size, .int f_p1_places, .int f_p1_drawn, .ref h_p1_sets])), (h_t, .inr (2, [.int f_t_deeds, .int f_t_nextRow, .ref h_t_rows])), (h_t_rows, .inr (4, [.int f_t_rows_count, .ref h_t_rows_cells])), (h_p1_sets, .inl (cA, 8, .inl f_p1_sets)), (h_t_rows_cells, .inl (cA, 176, .inl f_t_rows_cells))] sz) [(h_p1, .inr (6, [.int f_p1_size, .int f_p1_places, .int f_p1_drawn, .ref h_p1_sets])), (h_t, .inr (2, [.int f_t_deeds_z, .int f_t_nextRow_z, .ref h_t_rows])), (h_t_rows, .inr (4, [.int f_t_rows_count, .ref h_t_rows_cells])), (h_p1_sets, .inl (cA, 8, .inl f_p1_sets)), (h_t_rows_cells, .inl (cA, 176, .inl f_t_rows_cells_z))]) 0 0 (va_A [(h_p1, .inr (6, [.int f_p1_size, .int f_p1_places, .int f_p1_drawn, .ref h_p1_sets])), (h_t, .inr (2, [.int f_t_deeds, .int f_t_nextRow, .ref h_t_rows])), (h_t_rows, .inr (4, [.int f_t_rows_count, .ref h_t_rows_cells])), (h_p1_sets, .inl (cA, 8, .inl f_p1_sets)), (h_t_rows_cells, .inl (cA, 176, .inl f_t_rows_cells))] sz) := by
  refine Met.ofW (cc := cX2_remember) (maxL := 2) (ret := none) (by decide) rfl ?_
  intro p e s m args below meth c s₁ B hml hv
  obtain ⟨rfl, hsz, hP, hK, hD0⟩ := hv
  refine W_gen (fun Q hQ => ?_)
  have hx := B.exec
  have hb := B.bytes
  have hr := B.returns
  have hts := atoms_spec (ws := wsX2_remember) B.pre
  have hown : s.vm.findClass RX2 = some m.cls := findClass_of_methodNamed B.named
  have hlocks := B.notSynchronized
  subst hsz
  have hD := hD0.self (sz := s.heap.size)
  clear hD0
  generalize hAe : va_A [(h_p1, .inr (6, [.int f_p1_size, .int f_p1_places, .int f_p1_drawn, .ref h_p1_sets])), (h_t, .inr (2, [.int f_t_deeds, .int f_t_nextRow, .ref h_t_rows])), (h_t_rows, .inr (4, [.int f_t_rows_count, .ref h_t_rows_cells])), (h_p1_sets, .inl (cA, 8, .inl f_p1_sets)), (h_t_rows_cells, .inl (cA, 176, .inl f_t_rows_cells))] s.heap.size = A at hD hQ
  have hA : ∀ q : Nat, s.heap.size ≤ q → A q := fun q h => by rw [← hAe]; exact Or.inr h
  clear hAe
  have hS : va_S A s.heap s.heap [] := va_S.rf
  have hl := lv_entry ([.ref h_t, .ref h_p1]) (n := 2) (Nat.le_of_ble_eq_true rfl)
  rw [lg_entry_eq]
  generalize (lg_sl ([.ref h_t, .ref h_p1]) ++ List.replicate (2 - (lg_sl ([.ref h_t, .ref h_p1])).length) Slot.unset).toArray = ls at hl ⊢
  have hl : lv_has ls 2 [(0, .ref h_t), (1, .ref h_p1)] := hl
  have k1 := hts (.fieldLink RX2 23 "ToneSets$Past" "rows" "LToneSets$Rows;") (List.mem_of_getElem? (i := 1) rfl)
  have k2 := hts (.fieldLink RX2 15 "ToneSets$Past" "nextRow" "I") (List.mem_of_getElem? (i := 2) rfl)
  have k3 := hts (.fieldLink RX2 9 "ToneSets$Past" "deeds" "I") (List.mem_of_getElem? (i := 3) rfl)
  have k4 := hts (.methodLink RX2 31 Lib.Math.min.name) (List.mem_of_getElem? (i := 4) rfl)
  have k5 := hts (.static Lib.Math.min.name) (List.mem_of_getElem? (i := 5) rfl)
  have k6 := hts (.initialized "java/lang/Math") (List.mem_of_getElem? (i := 6) rfl)
  have k7 := hts (.code Lib.Math.min.name Lib.Math.min.code 2 (some .int)) (List.mem_of_getElem? (i := 7) rfl)
  have uX2 := uX2_X2_remember
  unfold m_Past_remember at hm
  refine lv_aload_n hx hb dX2_remember_0 rfl (lv_at hl 0 rfl) ?_
  refine va_get (D := (dC, dI)) (ci := 2) (v := .ref h_t_rows) (C := RX2) (T := TX2) (N := 3) hx hb hts uX2 hown hK hP 1 rfl rfl 2 (by decide) k1 (fun _ h9 => h9) rfl dX2_remember_1 ?_
  refine lv_aload_n hx hb dX2_remember_4 rfl (lv_at hl 0 rfl) ?_
  refine va_get (D := (dC, dI)) (ci := 2) (v := .int f_t_nextRow) (C := RX2) (T := TX2) (N := 3) hx hb hts uX2 hown hK hP 1 rfl rfl 1 (by decide) k2 (fun _ h9 => h9) rfl dX2_remember_5 ?_
  refine lv_aload_n hx hb dX2_remember_8 rfl (lv_at hl 1 rfl) ?_
  obtain ⟨f_t_rows_cells_1, hc9, hm⟩ := bd1_go hm
  refine my_cVv (As := [.int f_t_nextRow, .ref h_p1]) (rest := []) (WC := [(h_p1, .inr (6, [.int f_p1_size, .int f_p1_places, .int f_p1_drawn, .ref h_p1_sets])), (h_t_rows, .inr (4, [.int f_t_rows_count, .ref h_t_rows_cells])), (h_p1_sets, .inl (cA, 8, .inl f_p1_sets)), (h_t_rows_cells, .inl (cA, 176, .inl f_t_rows_cells))]) (WC' := [(h_p1, .inr (6, [.int f_p1_size, .int f_p1_places, .int f_p1_drawn, .ref h_p1_sets])), (h_t_rows, .inr (4, [.int f_t_rows_count, .ref h_t_rows_cells])), (h_p1_sets, .inl (cA, 8, .inl f_p1_sets)), (h_t_rows_cells, .inl (cA, 176, .inl f_t_rows_cells_1))]) (WR := [(h_t, .inr (2, [.int f_t_deeds, .int f_t_nextRow, .ref h_t_rows]))]) (W' := [(h_p1, .inr (6, [.int f_p1_size, .int f_p1_places, .int f_p1_drawn, .ref h_p1_sets])), (h_t, .inr (2, [.int f_t_deeds, .int f_t_nextRow, .ref h_t_rows])), (h_t_rows, .inr (4, [.int f_t_rows_count, .ref h_t_rows_cells])), (h_p1_sets, .inl (cA, 8, .inl f_p1_sets)), (h_t_rows_cells, .inl (cA, 176, .inl f_t_rows_cells_1))]) ⟨hx, hb, hml, hown, hts⟩ hK hP hD hS hA (c_Rows_store l dC dI cA fu h_p1 h_t_rows h_p1_sets h_t_rows_cells 176 f_p1_size f_p1_places f_p1_drawn f_t_rows_count f_p1_sets f_t_rows_cells f_t_nextRow f_t_rows_cells_1 hc9) (cwV 2 hts gX2_remember_X5_store rfl rfl rfl (by decide +kernel) ⟨Nat.le_of_ble_eq_true rfl, Nat.le_of_ble_eq_true rfl⟩) [0, 2, 3, 4] [1] [1, 0, 2, 3, 4] rfl rfl rfl rfl (ci := 4) (q0 := 1) rfl rfl rfl rfl hl.1 (Nat.le_of_ble_eq_true rfl) dX2_remember_9 ⟨Nat.zero_le _, Nat.zero_le _⟩ (fun H locs hP hD hS => ?_)
  refine lv_aload_n hx hb dX2_remember_12 rfl (lv_at hl 0 rfl) ?_
  refine lv_aload_n hx hb dX2_remember_13 rfl (lv_at hl 0 rfl) ?_
  refine va_get (D := (dC, dI)) (ci := 2) (v := .int f_t_nextRow) (C := RX2) (T := TX2) (N := 3) hx hb hts uX2 hown hK hP 1 rfl rfl 1 (by decide) k2 (fun _ h9 => h9) rfl dX2_remember_14 ?_
  refine lv_iconst (v := 1) hx hb dX2_remember_17 (by decide) ?_
  refine lv_iadd hx hb dX2_remember_18 ?_
  refine lv_bipush (v := 16) hx hb dX2_remember_19 (by decide) ?_
  refine lv_irem hx hb dX2_remember_21 (by decide) ?_
  refine lv_topi (fun f_t_nextRow_1 ef_t_nextRow_1 => ?_)
  replace hm := lt_go ef_t_nextRow_1 hm
  refine my_put (W' := [(h_p1, .inr (6, [.int f_p1_size, .int f_p1_places, .int f_p1_drawn, .ref h_p1_sets])), (h_t, .inr (2, [.int f_t_deeds, .int f_t_nextRow_1, .ref h_t_rows])), (h_t_rows, .inr (4, [.int f_t_rows_count, .ref h_t_rows_cells])), (h_p1_sets, .inl (cA, 8, .inl f_p1_sets)), (h_t_rows_cells, .inl (cA, 176, .inl f_t_rows_cells_1))]) (ci := 2) (v := .int f_t_nextRow_1) (ty := .int) (C := RX2) (T := TX2) (N := 3) hx hb hts uX2 tyX2 tyX2_ok nmX2 hown hK hP hD hS 1 rfl rfl 1 (by decide) k2 (fun _ h9 => h9) rfl (by decide +kernel) rfl rfl (Nat.le_of_ble_eq_true rfl) dX2_remember_22 rfl (fun H locs hP hD hS => ?_)
  refine lv_aload_n hx hb dX2_remember_25 rfl (lv_at hl 0 rfl) ?_
  refine lv_aload_n hx hb dX2_remember_26 rfl (lv_at hl 0 rfl) ?_
  refine va_get (D := (dC, dI)) (ci := 2) (v := .int f_t_deeds) (C := RX2) (T := TX2) (N := 3) hx hb hts uX2 hown hK hP 1 rfl rfl 0 (by decide) k3 (fun _ h9 => h9) rfl dX2_remember_27 ?_
  refine lv_iconst (v := 1) hx hb dX2_remember_30 (by decide) ?_
  refine lv_iadd hx hb dX2_remember_31 ?_
  refine lv_bipush (v := 16) hx hb dX2_remember_32 (by decide) ?_
  refine va_mmin hx hb (hml.trans hl.1.symm) hown k4 k5 k6 k7 (Nat.le_of_ble_eq_true rfl) (Nat.le_of_ble_eq_true rfl) (Nat.zero_le _) (Nat.zero_le _) dX2_remember_34 ?_
  refine lv_topi (fun f_t_deeds_1 ef_t_deeds_1 => ?_)
  replace hm := lt_go ef_t_deeds_1 hm
  refine my_put (W' := [(h_p1, .inr (6, [.int f_p1_size, .int f_p1_places, .int f_p1_drawn, .ref h_p1_sets])), (h_t, .inr (2, [.int f_t_deeds_1, .int f_t_nextRow_1, .ref h_t_rows])), (h_t_rows, .inr (4, [.int f_t_rows_count, .ref h_t_rows_cells])), (h_p1_sets, .inl (cA, 8, .inl f_p1_sets)), (h_t_rows_cells, .inl (cA, 176, .inl f_t_rows_cells_1))]) (ci := 2) (v := .int f_t_deeds_1) (ty := .int) (C := RX2) (T := TX2) (N := 3) hx hb hts uX2 tyX2 tyX2_ok nmX2 hown hK hP hD hS 1 rfl rfl 0 (by decide) k3 (fun _ h9 => h9) rfl (by decide +kernel) rfl rfl (Nat.le_of_ble_eq_true rfl) dX2_remember_37 rfl (fun H locs hP hD hS => ?_)
  cases hm
  exact W_mono hQ (W.vret hx hb hr (fun t ht hW => ⟨⟨(), rfl, trivial, by rw [ht]; exact hP, va_K.moved hW.alike hK, hD⟩, hS.F ht⟩) hS.2.2 dX2_remember_40)
abbrev rmX3_haveCommonDivisor : Room := { frames := 0, cells := 0, slots := 0, locals := 0 }
set_option maxHeartbeats 40000000 in
set_option maxRecDepth 100000 in
theorem c_Ring_haveCommonDivisor (l : Launch) (dC : Nat → ClassId) (dI : Nat → Nat → Nat) (cA : ClassId) (fu : Nat) (a0 : Int32) (a1 : Int32) (r0 : Int32) (hm : m_Ring_haveCommonDivisor fu a0 a1 = some r0) (sz : Nat) : Met l yX3_haveCommonDivisor wsX3_haveCommonDivisor rmX3_haveCommonDivisor (mPre (dC, dI) cA [.int a0, .int a1] sz []) (mPosI (dC, dI) cA r0 (va_A [] sz) []) 0 0 (va_A [] sz) := by
  refine Met.ofW (cc := cX3_haveCommonDivisor) (maxL := 3) (ret := (some .boolean)) (by decide) rfl ?_
  intro p e s m args below meth c s₁ B hml hv
  obtain ⟨rfl, hsz, hP, hK, hD0⟩ := hv
  refine W_gen (fun Q hQ => ?_)
  have hx := B.exec
  have hb := B.bytes
  have hr := B.returns
  have hts := atoms_spec (ws := wsX3_haveCommonDivisor) B.pre
  have hown : s.vm.findClass RX3 = some m.cls := findClass_of_methodNamed B.named
  have hlocks := B.notSynchronized
  subst hsz
  have hD := hD0.self (sz := s.heap.size)
  clear hD0
  generalize hAe : va_A [] s.heap.size = A at hD hQ
  have hA : ∀ q : Nat, s.heap.size ≤ q → A q := fun q h => by rw [← hAe]; exact Or.inr h
  clear hAe
  have hS : va_S A s.heap s.heap [] := va_S.rf
  have hl := lv_entry ([.int a0, .int a1]) (n := 3) (Nat.le_of_ble_eq_true rfl)
  rw [lg_entry_eq]
  generalize (lg_sl ([.int a0, .int a1]) ++ List.replicate (3 - (lg_sl ([.int a0, .int a1])).length) Slot.unset).toArray = ls at hl ⊢
  have hl : lv_has ls 3 [(0, .int a0), (1, .int a1)] := hl
  unfold m_Ring_haveCommonDivisor at hm
  refine lv_iconst (v := 2) hx hb dX3_haveCommonDivisor_0 (by decide) ?_
  refine lv_topi (fun v2_1 ev2_1 => ?_)
  replace hm := lt_go ev2_1 hm
  refine lv_istore_n (lv' := [(2, .int v2_1), (0, .int a0), (1, .int a1)]) hx hb dX3_haveCommonDivisor_1 rfl hl (by decide) rfl (fun ls hl => ?_)
  have L2 : ∀ (n : Nat) (v2_2 : Int32), m_Ring_haveCommonDivisor_L2 a0 a1 n v2_2 = some r0 → ∀ (H : Heap) (locs : List Loc), va_P (dC, dI) vwCl [] H → va_D A [] → va_S A s.heap H locs → ∀ ls : Array Slot, lv_has ls 3 [(0, .int a0), (1, .int a1), (2, .int v2_2)] → W p l e (headSpec wsX3_haveCommonDivisor rmX3_haveCommonDivisor).room s m (([.int a0, .int a1] : List Value).toArray) below meth c H locs 0 0 Q (F0 m 2 ls []) := by
    clear hm hP hD hS hl
    intro n
    induction n with
    | zero => intro _ hm; exact nomatch (show none = some _ from hm)
    | succ n ih =>
      intro v2_2 hm H locs hP hD hS ls hl
      unfold m_Ring_haveCommonDivisor_L2 at hm
      refine lv_iload_n hx hb dX3_haveCommonDivisor_2 rfl (lv_at hl 2 rfl) ?_
      refine lv_iload_n hx hb dX3_haveCommonDivisor_3 rfl (lv_at hl 0 rfl) ?_
      refine lv_icmp_gt (tgt := 27) hx hb dX3_haveCommonDivisor_4 (by decide) (fun c4 => ?_) (fun c4 => ?_)
      · replace hm := if_t c4 hm
        refine lv_iconst (v := 0) hx hb dX3_haveCommonDivisor_27 (by decide) ?_
        cases hm
        exact W_mono hQ (W.zret hx hb hr rfl (fun t ht hW => ⟨⟨_, (), rfl, rfl, by rw [ht]; exact hP, va_K.moved hW.alike hK, hD⟩, hS.F ht⟩) hS.2.2 dX3_haveCommonDivisor_28)
      · replace hm := if_f c4 hm
        refine lv_iload_n hx hb dX3_haveCommonDivisor_7 rfl (lv_at hl 0 rfl) ?_
        refine lv_iload_n hx hb dX3_haveCommonDivisor_8 rfl (lv_at hl 2 rfl) ?_
        obtain ⟨d9, hm⟩ := dv_go hm
        refine lv_irem hx hb dX3_haveCommonDivisor_9 d9 ?_
        refine lv_if_ne (tgt := 21) hx hb dX3_haveCommonDivisor_10 (by decide) (fun c10 => ?_) (fun c10 => ?_)
        · replace hm := if_f c10 hm
          obtain ⟨v2_3, ev2_3⟩ : ∃ z : Int32, z = v2_2 + 1 := ⟨_, rfl⟩
          replace hm := lt_go ev2_3 hm
          refine lv_iinc (v := v2_3) (lv' := [(2, .int v2_3), (0, .int a0), (1, .int a1)]) hx hb dX3_haveCommonDivisor_21 hl (k := 2) rfl (by rw [ev2_3]; rfl) (by decide) rfl (fun ls hl => ?_)
          refine lv_goto (tgt := 2) hx hb dX3_haveCommonDivisor_24 (by decide) ?_
          exact ih _ hm _ _ hP hD hS _ (lv_sub hl [1, 2, 0] rfl)
        · replace hm := if_t c10 hm
          refine lv_iload_n hx hb dX3_haveCommonDivisor_13 rfl (lv_at hl 1 rfl) ?_
          refine lv_iload_n hx hb dX3_haveCommonDivisor_14 rfl (lv_at hl 2 rfl) ?_
          obtain ⟨d15, hm⟩ := dv_go hm
          refine lv_irem hx hb dX3_haveCommonDivisor_15 d15 ?_
          refine lv_if_ne (tgt := 21) hx hb dX3_haveCommonDivisor_16 (by decide) (fun c16 => ?_) (fun c16 => ?_)
          · replace hm := if_f c16 hm
            obtain ⟨v2_4, ev2_4⟩ : ∃ z : Int32, z = v2_2 + 1 := ⟨_, rfl⟩
            replace hm := lt_go ev2_4 hm
            refine lv_iinc (v := v2_4) (lv' := [(2, .int v2_4), (0, .int a0), (1, .int a1)]) hx hb dX3_haveCommonDivisor_21 hl (k := 2) rfl (by rw [ev2_4]; rfl) (by decide) rfl (fun ls hl => ?_)
            refine lv_goto (tgt := 2) hx hb dX3_haveCommonDivisor_24 (by decide) ?_
            exact ih _ hm _ _ hP hD hS _ (lv_sub hl [1, 2, 0] rfl)
          · replace hm := if_t c16 hm
            refine lv_iconst (v := 1) hx hb dX3_haveCommonDivisor_19 (by decide) ?_
            cases hm
            exact W_mono hQ (W.zret hx hb hr rfl (fun t ht hW => ⟨⟨_, (), rfl, rfl, by rw [ht]; exact hP, va_K.moved hW.alike hK, hD⟩, hS.F ht⟩) hS.2.2 dX3_haveCommonDivisor_20)
  exact L2 _ _ hm _ _ hP hD hS _ (lv_sub hl [1, 2, 0] rfl)
abbrev rmX3_multiplied : Room := { frames := 0, cells := 0, slots := 0, locals := 0 }
set_option maxHeartbeats 40000000 in
set_option maxRecDepth 100000 in
theorem c_Ring_multiplied (l : Launch) (dC : Nat → ClassId) (dI : Nat → Nat → Nat) (cA : ClassId) (fu : Nat) (a0 : Int32) (a1 : Int32) (a2 : Int32) (r0 : Int32) (hm : m_Ring_multiplied fu a0 a1 a2 = some r0) (sz : Nat) : Met l yX3_multiplied wsX3_multiplied rmX3_multiplied (mPre (dC, dI) cA [.int a0, .int a1, .int a2] sz []) (mPosI (dC, dI) cA r0 (va_A [] sz) []) 0 0 (va_A [] sz) := by
  refine Met.ofW (cc := cX3_multiplied) (maxL := 6) (ret := (some .int)) (by decide) rfl ?_
  intro p e s m args below meth c s₁ B hml hv
  obtain ⟨rfl, hsz, hP, hK, hD0⟩ := hv
  refine W_gen (fun Q hQ => ?_)
  have hx := B.exec
  have hb := B.bytes
  have hr := B.returns
  have hts := atoms_spec (ws := wsX3_multiplied) B.pre
  have hown : s.vm.findClass RX3 = some m.cls := findClass_of_methodNamed B.named
  have hlocks := B.notSynchronized
  subst hsz
  have hD := hD0.self (sz := s.heap.size)
  clear hD0
  generalize hAe : va_A [] s.heap.size = A at hD hQ
  have hA : ∀ q : Nat, s.heap.size ≤ q → A q := fun q h => by rw [← hAe]; exact Or.inr h
  clear hAe
  have hS : va_S A s.heap s.heap [] := va_S.rf
  have hl := lv_entry ([.int a0, .int a1, .int a2]) (n := 6) (Nat.le_of_ble_eq_true rfl)
  rw [lg_entry_eq]
  generalize (lg_sl ([.int a0, .int a1, .int a2]) ++ List.replicate (6 - (lg_sl ([.int a0, .int a1, .int a2])).length) Slot.unset).toArray = ls at hl ⊢
  have hl : lv_has ls 6 [(0, .int a0), (1, .int a1), (2, .int a2)] := hl
  unfold m_Ring_multiplied at hm
  refine lv_iconst (v := 0) hx hb dX3_multiplied_0 (by decide) ?_
  refine lv_topi (fun v3_1 ev3_1 => ?_)
  replace hm := lt_go ev3_1 hm
  refine lv_istore_n (lv' := [(3, .int v3_1), (0, .int a0), (1, .int a1), (2, .int a2)]) hx hb dX3_multiplied_1 rfl hl (by decide) rfl (fun ls hl => ?_)
  refine lv_iconst (v := 0) hx hb dX3_multiplied_2 (by decide) ?_
  refine lv_topi (fun v4_1 ev4_1 => ?_)
  replace hm := lt_go ev4_1 hm
  refine lv_istore (lv' := [(4, .int v4_1), (3, .int v3_1), (0, .int a0), (1, .int a1), (2, .int a2)]) hx hb dX3_multiplied_3 hl (by decide) rfl (fun ls hl => ?_)
  refine lv_iconst (v := 0) hx hb dX3_multiplied_5 (by decide) ?_
  refine lv_topi (fun v5_1 ev5_1 => ?_)
  replace hm := lt_go ev5_1 hm
  refine lv_istore (lv' := [(5, .int v5_1), (4, .int v4_1), (3, .int v3_1), (0, .int a0), (1, .int a1), (2, .int a2)]) hx hb dX3_multiplied_6 hl (by decide) rfl (fun ls hl => ?_)
  have L8 : ∀ (n : Nat) (v3_2 : Int32) (v4_2 : Int32) (v5_2 : Int32) (v3_3 : Int32), m_Ring_multiplied_L8 a2 a0 a1 n v3_2 v4_2 v5_2 = some v3_3 → ∀ (H : Heap) (locs : List Loc), va_P (dC, dI) vwCl [] H → va_D A [] → va_S A s.heap H locs → ∀ ls : Array Slot, lv_has ls 6 [(0, .int a0), (1, .int a1), (2, .int a2), (3, .int v3_2), (4, .int v4_2), (5, .int v5_2)] → (∀ (H : Heap) (locs : List Loc), va_P (dC, dI) vwCl [] H → va_D A [] → va_S A s.heap H locs → ∀ ls : Array Slot, lv_has ls 6 [(3, .int v3_3)] → W p l e (headSpec wsX3_multiplied rmX3_multiplied).room s m (([.int a0, .int a1, .int a2] : List Value).toArray) below meth c H locs 0 0 Q (F0 m 50 ls [])) → W p l e (headSpec wsX3_multiplied rmX3_multiplied).room s m (([.int a0, .int a1, .int a2] : List Value).toArray) below meth c H locs 0 0 Q (F0 m 8 ls []) := by
    clear hm hP hD hS hl
    intro n
    induction n with
    | zero => intro _ _ _ _ hm; exact nomatch (show none = some _ from hm)
    | succ n ih =>
      intro v3_2 v4_2 v5_2 v3_3 hm H locs hP hD hS ls hl KK
      unfold m_Ring_multiplied_L8 at hm
      refine lv_iload hx hb dX3_multiplied_8 (lv_at hl 5 rfl) ?_
      refine lv_iload_n hx hb dX3_multiplied_10 rfl (lv_at hl 2 rfl) ?_
      refine lv_icmp_ge (tgt := 50) hx hb dX3_multiplied_11 (by decide) (fun c11 => ?_) (fun c11 => ?_)
      · replace hm := if_t c11 hm
        cases hm
        exact KK _ _ hP hD hS _ (lv_sub hl [3] rfl)
      · replace hm := if_f c11 hm
        refine lv_iload_n hx hb dX3_multiplied_14 rfl (lv_at hl 3 rfl) ?_
        refine lv_iload_n hx hb dX3_multiplied_15 rfl (lv_at hl 0 rfl) ?_
        refine lv_iload hx hb dX3_multiplied_16 (lv_at hl 5 rfl) ?_
        refine lv_ishr hx hb dX3_multiplied_18 ?_
        refine lv_iconst (v := 1) hx hb dX3_multiplied_19 (by decide) ?_
        refine lv_iand hx hb dX3_multiplied_20 ?_
        refine lv_iload hx hb dX3_multiplied_21 (lv_at hl 4 rfl) ?_
        refine lv_ishl hx hb dX3_multiplied_23 ?_
        refine lv_ior hx hb dX3_multiplied_24 ?_
        refine lv_topi (fun v3_4 ev3_4 => ?_)
        replace hm := lt_go ev3_4 hm
        refine lv_istore_n (lv' := [(3, .int v3_4), (0, .int a0), (1, .int a1), (2, .int a2), (4, .int v4_2), (5, .int v5_2)]) hx hb dX3_multiplied_25 rfl hl (by decide) rfl (fun ls hl => ?_)
        refine lv_iload hx hb dX3_multiplied_26 (lv_at hl 4 rfl) ?_
        refine lv_iload_n hx hb dX3_multiplied_28 rfl (lv_at hl 2 rfl) ?_
        refine lv_iadd hx hb dX3_multiplied_29 ?_
        refine lv_topi (fun v4_3 ev4_3 => ?_)
        replace hm := lt_go ev4_3 hm
        refine lv_istore (lv' := [(4, .int v4_3), (3, .int v3_4), (0, .int a0), (1, .int a1), (2, .int a2), (5, .int v5_2)]) hx hb dX3_multiplied_30 hl (by decide) rfl (fun ls hl => ?_)
        refine lv_iload hx hb dX3_multiplied_32 (lv_at hl 0 rfl) ?_
        refine lv_iload_n hx hb dX3_multiplied_34 rfl (lv_at hl 4 rfl) ?_
        obtain ⟨v4_4, hqJ_1, hm⟩ := bd1_go hm
        have J_1 : ∀ (H : Heap) (locs : List Loc), va_P (dC, dI) vwCl [] H → va_D A [] → va_S A s.heap H locs → ∀ ls : Array Slot, lv_has ls 6 [(0, .int a0), (1, .int a1), (2, .int a2), (3, .int v3_4), (4, .int v4_4), (5, .int v5_2)] → W p l e (headSpec wsX3_multiplied rmX3_multiplied).room s m (([.int a0, .int a1, .int a2] : List Value).toArray) below meth c H locs 0 0 Q (F0 m 44 ls []) := by
          intro H locs hP hD hS ls hl
          clear hqJ_1
          obtain ⟨v5_3, ev5_3⟩ : ∃ z : Int32, z = v5_2 + 1 := ⟨_, rfl⟩
          replace hm := lt_go ev5_3 hm
          refine lv_iinc (v := v5_3) (lv' := [(5, .int v5_3), (0, .int a0), (1, .int a1), (2, .int a2), (3, .int v3_4), (4, .int v4_4)]) hx hb dX3_multiplied_44 hl (k := 5) rfl (by rw [ev5_3]; rfl) (by decide) rfl (fun ls hl => ?_)
          refine lv_goto (tgt := 8) hx hb dX3_multiplied_47 (by decide) ?_
          exact ih _ _ _ _ hm _ _ hP hD hS _ (lv_sub hl [1, 2, 3, 4, 5, 0] rfl) KK
        clear hm
        refine lv_icmp_lt (tgt := 44) hx hb dX3_multiplied_35 (by decide) (fun c35 => ?_) (fun c35 => ?_)
        · replace hqJ_1 := if_t c35 hqJ_1
          cases hqJ_1
          exact J_1 _ _ hP hD hS _ (lv_sub hl [2, 3, 4, 1, 0, 5] rfl)
        · replace hqJ_1 := if_f c35 hqJ_1
          refine lv_iload hx hb dX3_multiplied_38 (lv_at hl 0 rfl) ?_
          refine lv_iload_n hx hb dX3_multiplied_40 rfl (lv_at hl 4 rfl) ?_
          refine lv_isub hx hb dX3_multiplied_41 ?_
          refine lv_topi (fun v4_5 ev4_5 => ?_)
          replace hqJ_1 := lt_go ev4_5 hqJ_1
          refine lv_istore (lv' := [(4, .int v4_5), (3, .int v3_4), (0, .int a0), (1, .int a1), (2, .int a2), (5, .int v5_2)]) hx hb dX3_multiplied_42 hl (by decide) rfl (fun ls hl => ?_)
          cases hqJ_1
          exact J_1 _ _ hP hD hS _ (lv_sub hl [2, 3, 4, 1, 0, 5] rfl)
  obtain ⟨v3_5, hl8, hm⟩ := bd1_go hm
  refine L8 _ _ _ _ _ hl8 _ _ hP hD hS _ (lv_sub hl [3, 4, 5, 2, 1, 0] rfl) (fun H locs hP hD hS ls hl => ?_)
  refine lv_iload_n hx hb dX3_multiplied_50 rfl (lv_at hl 0 rfl) ?_
  cases hm
  exact W_mono hQ (W.iret hx hb hr (fun t ht hW => ⟨⟨_, (), rfl, rfl, by rw [ht]; exact hP, va_K.moved hW.alike hK, hD⟩, hS.F ht⟩) hS.2.2 dX3_multiplied_51)
abbrev rmX3_formOf : Room := { frames := 2, cells := 0, slots := 0, locals := 42 }
set_option maxHeartbeats 40000000 in
set_option maxRecDepth 100000 in
theorem c_Ring_formOf (l : Launch) (dC : Nat → ClassId) (dI : Nat → Nat → Nat) (cA : ClassId) (fu : Nat) (a0 : Int32) (a1 : Int32) (r0 : Int32) (hm : m_Ring_formOf fu a0 a1 = some r0) (sz : Nat) : Met l yX3_formOf wsX3_formOf rmX3_formOf (mPre (dC, dI) cA [.int a0, .int a1] sz []) (mPosI (dC, dI) cA r0 (va_A [] sz) []) 0 0 (va_A [] sz) := by
  refine Met.ofW (cc := cX3_formOf) (maxL := 5) (ret := (some .int)) (by decide) rfl ?_
  intro p e s m args below meth c s₁ B hml hv
  obtain ⟨rfl, hsz, hP, hK, hD0⟩ := hv
  refine W_gen (fun Q hQ => ?_)
  have hx := B.exec
  have hb := B.bytes
  have hr := B.returns
  have hts := atoms_spec (ws := wsX3_formOf) B.pre
  have hown : s.vm.findClass RX3 = some m.cls := findClass_of_methodNamed B.named
  have hlocks := B.notSynchronized
  subst hsz
  have hD := hD0.self (sz := s.heap.size)
  clear hD0
  generalize hAe : va_A [] s.heap.size = A at hD hQ
  have hA : ∀ q : Nat, s.heap.size ≤ q → A q := fun q h => by rw [← hAe]; exact Or.inr h
  clear hAe
  have hS : va_S A s.heap s.heap [] := va_S.rf
  have hl := lv_entry ([.int a0, .int a1]) (n := 5) (Nat.le_of_ble_eq_true rfl)
  rw [lg_entry_eq]
  generalize (lg_sl ([.int a0, .int a1]) ++ List.replicate (5 - (lg_sl ([.int a0, .int a1])).length) Slot.unset).toArray = ls at hl ⊢
  have hl : lv_has ls 5 [(0, .int a0), (1, .int a1)] := hl
  have k1 := hts (.methodLink RX3 23 Lib.Math.min.name) (List.mem_of_getElem? (i := 1) rfl)
  have k2 := hts (.static Lib.Math.min.name) (List.mem_of_getElem? (i := 2) rfl)
  have k3 := hts (.initialized "java/lang/Math") (List.mem_of_getElem? (i := 3) rfl)
  have k4 := hts (.code Lib.Math.min.name Lib.Math.min.code 2 (some .int)) (List.mem_of_getElem? (i := 4) rfl)
  unfold m_Ring_formOf at hm
  refine lv_iload_n hx hb dX3_formOf_0 rfl (lv_at hl 0 rfl) ?_
  refine lv_iload_n hx hb dX3_formOf_1 rfl (lv_at hl 1 rfl) ?_
  obtain ⟨r_1, hc2, hm⟩ := bd1_go hm
  refine my_cSi (As := [.int a0, .int a1]) (rest := []) (WC := []) (WC' := []) (WR := []) (W' := []) ⟨hx, hb, hml, hown, hts⟩ hK hP hD hS hA (c_Ring_mirrored l dC dI cA fu a0 a1 r_1 hc2) (va_cwS 2 hts gX3_formOf_X3_mirrored rfl rfl rfl (by decide +kernel) ⟨Nat.le_of_ble_eq_true rfl, Nat.le_of_ble_eq_true rfl⟩) [] [] [] rfl rfl rfl rfl rfl rfl hl.1 (Nat.le_of_ble_eq_true rfl) dX3_formOf_2 ⟨Nat.zero_le _, Nat.zero_le _⟩ (fun H locs hP hD hS => ?_)
  refine lv_topi (fun v2_1 ev2_1 => ?_)
  replace hm := lt_go ev2_1 hm
  refine lv_istore_n (lv' := [(2, .int v2_1), (0, .int a0), (1, .int a1)]) hx hb dX3_formOf_5 rfl hl (by decide) rfl (fun ls hl => ?_)
  refine lv_iload_n hx hb dX3_formOf_6 rfl (lv_at hl 1 rfl) ?_
  refine lv_topi (fun v3_1 ev3_1 => ?_)
  replace hm := lt_go ev3_1 hm
  refine lv_istore_n (lv' := [(3, .int v3_1), (2, .int v2_1), (0, .int a0), (1, .int a1)]) hx hb dX3_formOf_7 rfl hl (by decide) rfl (fun ls hl => ?_)
  refine lv_iconst (v := 0) hx hb dX3_formOf_8 (by decide) ?_
  refine lv_topi (fun v4_1 ev4_1 => ?_)
  replace hm := lt_go ev4_1 hm
  refine lv_istore (lv' := [(4, .int v4_1), (3, .int v3_1), (2, .int v2_1), (0, .int a0), (1, .int a1)]) hx hb dX3_formOf_9 hl (by decide) rfl (fun ls hl => ?_)
  have L11 : ∀ (n : Nat) (v3_2 : Int32) (v4_2 : Int32) (v3_3 : Int32), m_Ring_formOf_L11 a1 a0 v2_1 n v3_2 v4_2 = some v3_3 → ∀ (H : Heap) (locs : List Loc), va_P (dC, dI) vwCl [] H → va_D A [] → va_S A s.heap H locs → ∀ ls : Array Slot, lv_has ls 5 [(0, .int a0), (1, .int a1), (2, .int v2_1), (3, .int v3_2), (4, .int v4_2)] → (∀ (H : Heap) (locs : List Loc), va_P (dC, dI) vwCl [] H → va_D A [] → va_S A s.heap H locs → ∀ ls : Array Slot, lv_has ls 5 [(3, .int v3_3)] → W p l e (headSpec wsX3_formOf rmX3_formOf).room s m (([.int a0, .int a1] : List Value).toArray) below meth c H locs 0 0 Q (F0 m 47 ls [])) → W p l e (headSpec wsX3_formOf rmX3_formOf).room s m (([.int a0, .int a1] : List Value).toArray) below meth c H locs 0 0 Q (F0 m 11 ls []) := by
    clear hm hP hD hS hl
    intro n
    induction n with
    | zero => intro _ _ _ hm; exact nomatch (show none = some _ from hm)
    | succ n ih =>
      intro v3_2 v4_2 v3_3 hm H locs hP hD hS ls hl KK
      unfold m_Ring_formOf_L11 at hm
      refine lv_iload hx hb dX3_formOf_11 (lv_at hl 4 rfl) ?_
      refine lv_iload_n hx hb dX3_formOf_13 rfl (lv_at hl 1 rfl) ?_
      refine lv_icmp_ge (tgt := 47) hx hb dX3_formOf_14 (by decide) (fun c14 => ?_) (fun c14 => ?_)
      · replace hm := if_t c14 hm
        cases hm
        exact KK _ _ hP hD hS _ (lv_sub hl [3] rfl)
      · replace hm := if_f c14 hm
        refine lv_iload_n hx hb dX3_formOf_17 rfl (lv_at hl 3 rfl) ?_
        refine lv_iload_n hx hb dX3_formOf_18 rfl (lv_at hl 0 rfl) ?_
        refine lv_iload hx hb dX3_formOf_19 (lv_at hl 4 rfl) ?_
        refine lv_iload_n hx hb dX3_formOf_21 rfl (lv_at hl 1 rfl) ?_
        obtain ⟨r_2, hc22, hm⟩ := bd1_go hm
        refine my_cSi (As := [.int a0, .int v4_2, .int a1]) (rest := [.int v3_2]) (WC := []) (WC' := []) (WR := []) (W' := []) ⟨hx, hb, hml, hown, hts⟩ hK hP hD hS hA (c_Ring_turned l dC dI cA a0 v4_2 a1 r_2 hc22) (va_cwS 3 hts gX3_formOf_X3_turned rfl rfl rfl (by decide +kernel) ⟨Nat.le_of_ble_eq_true rfl, Nat.le_of_ble_eq_true rfl⟩) [] [] [] rfl rfl rfl rfl rfl rfl hl.1 (Nat.le_of_ble_eq_true rfl) dX3_formOf_22 ⟨Nat.zero_le _, Nat.zero_le _⟩ (fun H locs hP hD hS => ?_)
        refine va_mmin hx hb (hml.trans hl.1.symm) hown k1 k2 k3 k4 (Nat.le_of_ble_eq_true rfl) (Nat.le_of_ble_eq_true rfl) (Nat.zero_le _) (Nat.zero_le _) dX3_formOf_25 ?_
        refine lv_topi (fun v3_4 ev3_4 => ?_)
        replace hm := lt_go ev3_4 hm
        refine lv_istore_n (lv' := [(3, .int v3_4), (0, .int a0), (1, .int a1), (2, .int v2_1), (4, .int v4_2)]) hx hb dX3_formOf_28 rfl hl (by decide) rfl (fun ls hl => ?_)
        refine lv_iload_n hx hb dX3_formOf_29 rfl (lv_at hl 0 rfl) ?_
        refine lv_iload_n hx hb dX3_formOf_30 rfl (lv_at hl 3 rfl) ?_
        refine lv_iload hx hb dX3_formOf_31 (lv_at hl 4 rfl) ?_
        refine lv_iload_n hx hb dX3_formOf_33 rfl (lv_at hl 2 rfl) ?_
        obtain ⟨r_3, hc34, hm⟩ := bd1_go hm
        refine my_cSi (As := [.int v2_1, .int v4_2, .int a1]) (rest := [.int v3_4]) (WC := []) (WC' := []) (WR := []) (W' := []) ⟨hx, hb, hml, hown, hts⟩ hK hP hD hS hA (c_Ring_turned l dC dI cA v2_1 v4_2 a1 r_3 hc34) (va_cwS 3 hts gX3_formOf_X3_turned rfl rfl rfl (by decide +kernel) ⟨Nat.le_of_ble_eq_true rfl, Nat.le_of_ble_eq_true rfl⟩) [] [] [] rfl rfl rfl rfl rfl rfl hl.1 (Nat.le_of_ble_eq_true rfl) dX3_formOf_34 ⟨Nat.zero_le _, Nat.zero_le _⟩ (fun H locs hP hD hS => ?_)
        refine va_mmin hx hb (hml.trans hl.1.symm) hown k1 k2 k3 k4 (Nat.le_of_ble_eq_true rfl) (Nat.le_of_ble_eq_true rfl) (Nat.zero_le _) (Nat.zero_le _) dX3_formOf_37 ?_
        refine lv_topi (fun v3_5 ev3_5 => ?_)
        replace hm := lt_go ev3_5 hm
        refine lv_istore_n (lv' := [(3, .int v3_5), (0, .int a0), (1, .int a1), (2, .int v2_1), (4, .int v4_2)]) hx hb dX3_formOf_40 rfl hl (by decide) rfl (fun ls hl => ?_)
        obtain ⟨v4_3, ev4_3⟩ : ∃ z : Int32, z = v4_2 + 1 := ⟨_, rfl⟩
        replace hm := lt_go ev4_3 hm
        refine lv_iinc (v := v4_3) (lv' := [(4, .int v4_3), (3, .int v3_5), (0, .int a0), (1, .int a1), (2, .int v2_1)]) hx hb dX3_formOf_41 hl (k := 4) rfl (by rw [ev4_3]; rfl) (by decide) rfl (fun ls hl => ?_)
        refine lv_goto (tgt := 11) hx hb dX3_formOf_44 (by decide) ?_
        exact ih _ _ _ hm _ _ hP hD hS _ (lv_sub hl [2, 3, 4, 1, 0] rfl) KK
  obtain ⟨v3_6, hl11, hm⟩ := bd1_go hm
  refine L11 _ _ _ _ hl11 _ _ hP hD hS _ (lv_sub hl [3, 4, 2, 1, 0] rfl) (fun H locs hP hD hS ls hl => ?_)
  refine lv_iload_n hx hb dX3_formOf_47 rfl (lv_at hl 0 rfl) ?_
  cases hm
  exact W_mono hQ (W.iret hx hb hr (fun t ht hW => ⟨⟨_, (), rfl, rfl, by rw [ht]; exact hP, va_K.moved hW.alike hK, hD⟩, hS.F ht⟩) hS.2.2 dX3_formOf_48)
abbrev rmX3_changed : Room := { frames := 3, cells := 0, slots := 0, locals := 66 }
set_option maxHeartbeats 40000000 in
set_option maxRecDepth 100000 in
theorem c_Ring_changed (l : Launch) (dC : Nat → ClassId) (dI : Nat → Nat → Nat) (cA : ClassId) (fu : Nat) (a0 : Int32) (a1 : Int32) (a2 : Int32) (a3 : Int32) (r0 : Int32) (hm : m_Ring_changed fu a0 a1 a2 a3 = some r0) (sz : Nat) : Met l yX3_changed wsX3_changed rmX3_changed (mPre (dC, dI) cA [.int a0, .int a1, .int a2, .int a3] sz []) (mPosI (dC, dI) cA r0 (va_A [] sz) []) 0 0 (va_A [] sz) := by
  refine Met.ofW (cc := cX3_changed) (maxL := 4) (ret := (some .int)) (by decide) rfl ?_
  intro p e s m args below meth c s₁ B hml hv
  obtain ⟨rfl, hsz, hP, hK, hD0⟩ := hv
  refine W_gen (fun Q hQ => ?_)
  have hx := B.exec
  have hb := B.bytes
  have hr := B.returns
  have hts := atoms_spec (ws := wsX3_changed) B.pre
  have hown : s.vm.findClass RX3 = some m.cls := findClass_of_methodNamed B.named
  have hlocks := B.notSynchronized
  subst hsz
  have hD := hD0.self (sz := s.heap.size)
  clear hD0
  generalize hAe : va_A [] s.heap.size = A at hD hQ
  have hA : ∀ q : Nat, s.heap.size ≤ q → A q := fun q h => by rw [← hAe]; exact Or.inr h
  clear hAe
  have hS : va_S A s.heap s.heap [] := va_S.rf
  have hl := lv_entry ([.int a0, .int a1, .int a2, .int a3]) (n := 4) (Nat.le_of_ble_eq_true rfl)
  rw [lg_entry_eq]
  generalize (lg_sl ([.int a0, .int a1, .int a2, .int a3]) ++ List.replicate (4 - (lg_sl ([.int a0, .int a1, .int a2, .int a3])).length) Slot.unset).toArray = ls at hl ⊢
  have hl : lv_has ls 4 [(0, .int a0), (1, .int a1), (2, .int a2), (3, .int a3)] := hl
  have k1 := hts (.constant RX3 42 (-1000000002)) (List.mem_of_getElem? (i := 1) rfl)
  have k2 := hts (.constant RX3 47 (-1000000003)) (List.mem_of_getElem? (i := 2) rfl)
  unfold m_Ring_changed at hm
  refine lv_iload_n hx hb dX3_changed_0 rfl (lv_at hl 1 rfl) ?_
  by_cases s1_0 : a1 = 0
  · replace hm := if_t s1_0 hm
    refine lv_tableIn (tgt := 40) hx hb dX3_changed_1 (by rw [s1_0]; decide) (by rw [s1_0]; decide) (by rw [s1_0]; rfl) (by decide) ?_
    refine lv_iload_n hx hb dX3_changed_40 rfl (lv_at hl 2 rfl) ?_
    refine lv_if_lt (tgt := 49) hx hb dX3_changed_41 (by decide) (fun c41 => ?_) (fun c41 => ?_)
    · replace hm := if_t c41 hm
      refine lv_ldc (v := (-1000000002)) hx hb hown k1 dX3_changed_49 ?_
      refine lv_goto (tgt := 60) hx hb dX3_changed_51 (by decide) ?_
      cases hm
      exact W_mono hQ (W.iret hx hb hr (fun t ht hW => ⟨⟨_, (), rfl, rfl, by rw [ht]; exact hP, va_K.moved hW.alike hK, hD⟩, hS.F ht⟩) hS.2.2 dX3_changed_60)
    · replace hm := if_f c41 hm
      refine lv_iload_n hx hb dX3_changed_44 rfl (lv_at hl 2 rfl) ?_
      refine lv_iload_n hx hb dX3_changed_45 rfl (lv_at hl 3 rfl) ?_
      refine lv_icmp_lt (tgt := 54) hx hb dX3_changed_46 (by decide) (fun c46 => ?_) (fun c46 => ?_)
      · replace hm := if_t c46 hm
        refine lv_iload_n hx hb dX3_changed_54 rfl (lv_at hl 0 rfl) ?_
        refine lv_iload_n hx hb dX3_changed_55 rfl (lv_at hl 2 rfl) ?_
        refine lv_iload_n hx hb dX3_changed_56 rfl (lv_at hl 3 rfl) ?_
        obtain ⟨r_1, hc57, hm⟩ := bd1_go hm
        refine my_cSi (As := [.int a0, .int a2, .int a3]) (rest := []) (WC := []) (WC' := []) (WR := []) (W' := []) ⟨hx, hb, hml, hown, hts⟩ hK hP hD hS hA (c_Ring_turned l dC dI cA a0 a2 a3 r_1 hc57) (va_cwS 3 hts gX3_changed_X3_turned rfl rfl rfl (by decide +kernel) ⟨Nat.le_of_ble_eq_true rfl, Nat.le_of_ble_eq_true rfl⟩) [] [] [] rfl rfl rfl rfl rfl rfl hl.1 (Nat.le_of_ble_eq_true rfl) dX3_changed_57 ⟨Nat.zero_le _, Nat.zero_le _⟩ (fun H locs hP hD hS => ?_)
        cases hm
        exact W_mono hQ (W.iret hx hb hr (fun t ht hW => ⟨⟨_, (), rfl, rfl, by rw [ht]; exact hP, va_K.moved hW.alike hK, hD⟩, hS.F ht⟩) hS.2.2 dX3_changed_60)
      · replace hm := if_f c46 hm
        refine lv_ldc (v := (-1000000002)) hx hb hown k1 dX3_changed_49 ?_
        refine lv_goto (tgt := 60) hx hb dX3_changed_51 (by decide) ?_
        cases hm
        exact W_mono hQ (W.iret hx hb hr (fun t ht hW => ⟨⟨_, (), rfl, rfl, by rw [ht]; exact hP, va_K.moved hW.alike hK, hD⟩, hS.F ht⟩) hS.2.2 dX3_changed_60)
  replace hm := if_f s1_0 hm
  by_cases s1_1 : a1 = 1
  · replace hm := if_t s1_1 hm
    refine lv_tableIn (tgt := 61) hx hb dX3_changed_1 (by rw [s1_1]; decide) (by rw [s1_1]; decide) (by rw [s1_1]; rfl) (by decide) ?_
    refine lv_iload_n hx hb dX3_changed_61 rfl (lv_at hl 0 rfl) ?_
    refine lv_iload_n hx hb dX3_changed_62 rfl (lv_at hl 3 rfl) ?_
    obtain ⟨r_2, hc63, hm⟩ := bd1_go hm
    refine my_cSi (As := [.int a0, .int a3]) (rest := []) (WC := []) (WC' := []) (WR := []) (W' := []) ⟨hx, hb, hml, hown, hts⟩ hK hP hD hS hA (c_Ring_mirrored l dC dI cA fu a0 a3 r_2 hc63) (va_cwS 2 hts gX3_changed_X3_mirrored rfl rfl rfl (by decide +kernel) ⟨Nat.le_of_ble_eq_true rfl, Nat.le_of_ble_eq_true rfl⟩) [] [] [] rfl rfl rfl rfl rfl rfl hl.1 (Nat.le_of_ble_eq_true rfl) dX3_changed_63 ⟨Nat.zero_le _, Nat.zero_le _⟩ (fun H locs hP hD hS => ?_)
    cases hm
    exact W_mono hQ (W.iret hx hb hr (fun t ht hW => ⟨⟨_, (), rfl, rfl, by rw [ht]; exact hP, va_K.moved hW.alike hK, hD⟩, hS.F ht⟩) hS.2.2 dX3_changed_66)
  replace hm := if_f s1_1 hm
  by_cases s1_2 : a1 = 2
  · replace hm := if_t s1_2 hm
    refine lv_tableIn (tgt := 67) hx hb dX3_changed_1 (by rw [s1_2]; decide) (by rw [s1_2]; decide) (by rw [s1_2]; rfl) (by decide) ?_
    refine lv_iload_n hx hb dX3_changed_67 rfl (lv_at hl 2 rfl) ?_
    refine lv_iconst (v := 1) hx hb dX3_changed_68 (by decide) ?_
    refine lv_icmp_lt (tgt := 77) hx hb dX3_changed_69 (by decide) (fun c69 => ?_) (fun c69 => ?_)
    · replace hm := if_t c69 hm
      refine lv_ldc (v := (-1000000002)) hx hb hown k1 dX3_changed_77 ?_
      cases hm
      exact W_mono hQ (W.iret hx hb hr (fun t ht hW => ⟨⟨_, (), rfl, rfl, by rw [ht]; exact hP, va_K.moved hW.alike hK, hD⟩, hS.F ht⟩) hS.2.2 dX3_changed_79)
    · replace hm := if_f c69 hm
      refine lv_iload_n hx hb dX3_changed_72 rfl (lv_at hl 2 rfl) ?_
      refine lv_iload_n hx hb dX3_changed_73 rfl (lv_at hl 3 rfl) ?_
      refine lv_icmp_lt (tgt := 80) hx hb dX3_changed_74 (by decide) (fun c74 => ?_) (fun c74 => ?_)
      · replace hm := if_t c74 hm
        refine lv_iload_n hx hb dX3_changed_80 rfl (lv_at hl 2 rfl) ?_
        refine lv_iload_n hx hb dX3_changed_81 rfl (lv_at hl 3 rfl) ?_
        obtain ⟨r_3, hc82, hm⟩ := bd1_go hm
        refine my_cSi (As := [.int a2, .int a3]) (rest := []) (WC := []) (WC' := []) (WR := []) (W' := []) ⟨hx, hb, hml, hown, hts⟩ hK hP hD hS hA (c_Ring_haveCommonDivisor l dC dI cA fu a2 a3 r_3 hc82) (va_cwS 2 hts gX3_changed_X3_haveCommonDivisor rfl rfl rfl (by decide +kernel) ⟨Nat.le_of_ble_eq_true rfl, Nat.le_of_ble_eq_true rfl⟩) [] [] [] rfl rfl rfl rfl rfl rfl hl.1 (Nat.le_of_ble_eq_true rfl) dX3_changed_82 ⟨Nat.zero_le _, Nat.zero_le _⟩ (fun H locs hP hD hS => ?_)
        refine lv_if_eq (tgt := 93) hx hb dX3_changed_85 (by decide) (fun c85 => ?_) (fun c85 => ?_)
        · replace hm := if_t c85 hm
          refine lv_iload_n hx hb dX3_changed_93 rfl (lv_at hl 0 rfl) ?_
          refine lv_iload_n hx hb dX3_changed_94 rfl (lv_at hl 2 rfl) ?_
          refine lv_iload_n hx hb dX3_changed_95 rfl (lv_at hl 3 rfl) ?_
          obtain ⟨r_4, hc96, hm⟩ := bd1_go hm
          refine my_cSi (As := [.int a0, .int a2, .int a3]) (rest := []) (WC := []) (WC' := []) (WR := []) (W' := []) ⟨hx, hb, hml, hown, hts⟩ hK hP hD hS hA (c_Ring_multiplied l dC dI cA fu a0 a2 a3 r_4 hc96) (va_cwS 3 hts gX3_changed_X3_multiplied rfl rfl rfl (by decide +kernel) ⟨Nat.le_of_ble_eq_true rfl, Nat.le_of_ble_eq_true rfl⟩) [] [] [] rfl rfl rfl rfl rfl rfl hl.1 (Nat.le_of_ble_eq_true rfl) dX3_changed_96 ⟨Nat.zero_le _, Nat.zero_le _⟩ (fun H locs hP hD hS => ?_)
          cases hm
          exact W_mono hQ (W.iret hx hb hr (fun t ht hW => ⟨⟨_, (), rfl, rfl, by rw [ht]; exact hP, va_K.moved hW.alike hK, hD⟩, hS.F ht⟩) hS.2.2 dX3_changed_99)
        · replace hm := if_f c85 hm
          refine lv_ldc (v := (-1000000003)) hx hb hown k2 dX3_changed_88 ?_
          refine lv_goto (tgt := 99) hx hb dX3_changed_90 (by decide) ?_
          cases hm
          exact W_mono hQ (W.iret hx hb hr (fun t ht hW => ⟨⟨_, (), rfl, rfl, by rw [ht]; exact hP, va_K.moved hW.alike hK, hD⟩, hS.F ht⟩) hS.2.2 dX3_changed_99)
      · replace hm := if_f c74 hm
        refine lv_ldc (v := (-1000000002)) hx hb hown k1 dX3_changed_77 ?_
        cases hm
        exact W_mono hQ (W.iret hx hb hr (fun t ht hW => ⟨⟨_, (), rfl, rfl, by rw [ht]; exact hP, va_K.moved hW.alike hK, hD⟩, hS.F ht⟩) hS.2.2 dX3_changed_79)
  replace hm := if_f s1_2 hm
  by_cases s1_3 : a1 = 3
  · replace hm := if_t s1_3 hm
    refine lv_tableIn (tgt := 100) hx hb dX3_changed_1 (by rw [s1_3]; decide) (by rw [s1_3]; decide) (by rw [s1_3]; rfl) (by decide) ?_
    refine lv_iload_n hx hb dX3_changed_100 rfl (lv_at hl 3 rfl) ?_
    obtain ⟨r_5, hc101, hm⟩ := bd1_go hm
    refine my_cSi (As := [.int a3]) (rest := []) (WC := []) (WC' := []) (WR := []) (W' := []) ⟨hx, hb, hml, hown, hts⟩ hK hP hD hS hA (c_Ring_allTones l dC dI cA a3 r_5 hc101) (va_cwS 1 hts gX3_changed_X3_allTones rfl rfl rfl (by decide +kernel) ⟨Nat.le_of_ble_eq_true rfl, Nat.le_of_ble_eq_true rfl⟩) [] [] [] rfl rfl rfl rfl rfl rfl hl.1 (Nat.le_of_ble_eq_true rfl) dX3_changed_101 ⟨Nat.zero_le _, Nat.zero_le _⟩ (fun H locs hP hD hS => ?_)
    refine lv_iload_n hx hb dX3_changed_104 rfl (lv_at hl 0 rfl) ?_
    refine lv_iconst (v := (-1)) hx hb dX3_changed_105 (by decide) ?_
    refine lv_ixor hx hb dX3_changed_106 ?_
    refine lv_iand hx hb dX3_changed_107 ?_
    cases hm
    exact W_mono hQ (W.iret hx hb hr (fun t ht hW => ⟨⟨_, (), rfl, rfl, by rw [ht]; exact hP, va_K.moved hW.alike hK, hD⟩, hS.F ht⟩) hS.2.2 dX3_changed_108)
  replace hm := if_f s1_3 hm
  by_cases s1_4 : a1 = 4
  · replace hm := if_t s1_4 hm
    refine lv_tableIn (tgt := 109) hx hb dX3_changed_1 (by rw [s1_4]; decide) (by rw [s1_4]; decide) (by rw [s1_4]; rfl) (by decide) ?_
    refine lv_iload_n hx hb dX3_changed_109 rfl (lv_at hl 2 rfl) ?_
    refine lv_if_lt (tgt := 118) hx hb dX3_changed_110 (by decide) (fun c110 => ?_) (fun c110 => ?_)
    · replace hm := if_t c110 hm
      refine lv_ldc (v := (-1000000002)) hx hb hown k1 dX3_changed_118 ?_
      refine lv_goto (tgt := 128) hx hb dX3_changed_120 (by decide) ?_
      cases hm
      exact W_mono hQ (W.iret hx hb hr (fun t ht hW => ⟨⟨_, (), rfl, rfl, by rw [ht]; exact hP, va_K.moved hW.alike hK, hD⟩, hS.F ht⟩) hS.2.2 dX3_changed_128)
    · replace hm := if_f c110 hm
      refine lv_iload_n hx hb dX3_changed_113 rfl (lv_at hl 2 rfl) ?_
      refine lv_iload_n hx hb dX3_changed_114 rfl (lv_at hl 3 rfl) ?_
      refine lv_icmp_lt (tgt := 123) hx hb dX3_changed_115 (by decide) (fun c115 => ?_) (fun c115 => ?_)
      · replace hm := if_t c115 hm
        refine lv_iload_n hx hb dX3_changed_123 rfl (lv_at hl 0 rfl) ?_
        refine lv_iconst (v := 1) hx hb dX3_changed_124 (by decide) ?_
        refine lv_iload_n hx hb dX3_changed_125 rfl (lv_at hl 2 rfl) ?_
        refine lv_ishl hx hb dX3_changed_126 ?_
        refine lv_ixor hx hb dX3_changed_127 ?_
        cases hm
        exact W_mono hQ (W.iret hx hb hr (fun t ht hW => ⟨⟨_, (), rfl, rfl, by rw [ht]; exact hP, va_K.moved hW.alike hK, hD⟩, hS.F ht⟩) hS.2.2 dX3_changed_128)
      · replace hm := if_f c115 hm
        refine lv_ldc (v := (-1000000002)) hx hb hown k1 dX3_changed_118 ?_
        refine lv_goto (tgt := 128) hx hb dX3_changed_120 (by decide) ?_
        cases hm
        exact W_mono hQ (W.iret hx hb hr (fun t ht hW => ⟨⟨_, (), rfl, rfl, by rw [ht]; exact hP, va_K.moved hW.alike hK, hD⟩, hS.F ht⟩) hS.2.2 dX3_changed_128)
  replace hm := if_f s1_4 hm
  by_cases s1_5 : a1 = 5
  · replace hm := if_t s1_5 hm
    refine lv_tableIn (tgt := 129) hx hb dX3_changed_1 (by rw [s1_5]; decide) (by rw [s1_5]; decide) (by rw [s1_5]; rfl) (by decide) ?_
    refine lv_iload_n hx hb dX3_changed_129 rfl (lv_at hl 0 rfl) ?_
    refine lv_iload_n hx hb dX3_changed_130 rfl (lv_at hl 3 rfl) ?_
    obtain ⟨r_6, hc131, hm⟩ := bd1_go hm
    refine my_cSi (As := [.int a0, .int a3]) (rest := []) (WC := []) (WC' := []) (WR := []) (W' := []) ⟨hx, hb, hml, hown, hts⟩ hK hP hD hS hA (c_Ring_formOf l dC dI cA fu a0 a3 r_6 hc131) (va_cwS 2 hts gX3_changed_X3_formOf rfl rfl rfl (by decide +kernel) ⟨Nat.le_of_ble_eq_true rfl, Nat.le_of_ble_eq_true rfl⟩) [] [] [] rfl rfl rfl rfl rfl rfl hl.1 (Nat.le_of_ble_eq_true rfl) dX3_changed_131 ⟨Nat.zero_le _, Nat.zero_le _⟩ (fun H locs hP hD hS => ?_)
    cases hm
    exact W_mono hQ (W.iret hx hb hr (fun t ht hW => ⟨⟨_, (), rfl, rfl, by rw [ht]; exact hP, va_K.moved hW.alike hK, hD⟩, hS.F ht⟩) hS.2.2 dX3_changed_134)
  replace hm := if_f s1_5 hm
  refine lv_tableOut (tgt := 135) hx hb dX3_changed_1 (sw_6 s1_0 s1_1 s1_2 s1_3 s1_4 s1_5) (by decide) ?_
  refine lv_ldc (v := (-1000000002)) hx hb hown k1 dX3_changed_135 ?_
  cases hm
  exact W_mono hQ (W.iret hx hb hr (fun t ht hW => ⟨⟨_, (), rfl, rfl, by rw [ht]; exact hP, va_K.moved hW.alike hK, hD⟩, hS.F ht⟩) hS.2.2 dX3_changed_137)
abbrev rmX3_firstImageThatIsForm : Room := { frames := 3, cells := 0, slots := 0, locals := 66 }
set_option maxHeartbeats 40000000 in
set_option maxRecDepth 100000 in
theorem c_Ring_firstImageThatIsForm (l : Launch) (dC : Nat → ClassId) (dI : Nat → Nat → Nat) (cA : ClassId) (fu : Nat) (a0 : Int32) (a1 : Int32) (r0 : Int32) (hm : m_Ring_firstImageThatIsForm fu a0 a1 = some r0) (sz : Nat) : Met l yX3_firstImageThatIsForm wsX3_firstImageThatIsForm rmX3_firstImageThatIsForm (mPre (dC, dI) cA [.int a0, .int a1] sz []) (mPosI (dC, dI) cA r0 (va_A [] sz) []) 0 0 (va_A [] sz) := by
  refine Met.ofW (cc := cX3_firstImageThatIsForm) (maxL := 5) (ret := (some .int)) (by decide) rfl ?_
  intro p e s m args below meth c s₁ B hml hv
  obtain ⟨rfl, hsz, hP, hK, hD0⟩ := hv
  refine W_gen (fun Q hQ => ?_)
  have hx := B.exec
  have hb := B.bytes
  have hr := B.returns
  have hts := atoms_spec (ws := wsX3_firstImageThatIsForm) B.pre
  have hown : s.vm.findClass RX3 = some m.cls := findClass_of_methodNamed B.named
  have hlocks := B.notSynchronized
  subst hsz
  have hD := hD0.self (sz := s.heap.size)
  clear hD0
  generalize hAe : va_A [] s.heap.size = A at hD hQ
  have hA : ∀ q : Nat, s.heap.size ≤ q → A q := fun q h => by rw [← hAe]; exact Or.inr h
  clear hAe
  have hS : va_S A s.heap s.heap [] := va_S.rf
  have hl := lv_entry ([.int a0, .int a1]) (n := 5) (Nat.le_of_ble_eq_true rfl)
  rw [lg_entry_eq]
  generalize (lg_sl ([.int a0, .int a1]) ++ List.replicate (5 - (lg_sl ([.int a0, .int a1])).length) Slot.unset).toArray = ls at hl ⊢
  have hl : lv_has ls 5 [(0, .int a0), (1, .int a1)] := hl
  unfold m_Ring_firstImageThatIsForm at hm
  refine lv_iload_n hx hb dX3_firstImageThatIsForm_0 rfl (lv_at hl 0 rfl) ?_
  refine lv_iload_n hx hb dX3_firstImageThatIsForm_1 rfl (lv_at hl 1 rfl) ?_
  obtain ⟨r_1, hc2, hm⟩ := bd1_go hm
  refine my_cSi (As := [.int a0, .int a1]) (rest := []) (WC := []) (WC' := []) (WR := []) (W' := []) ⟨hx, hb, hml, hown, hts⟩ hK hP hD hS hA (c_Ring_formOf l dC dI cA fu a0 a1 r_1 hc2) (va_cwS 2 hts gX3_firstImageThatIsForm_X3_formOf rfl rfl rfl (by decide +kernel) ⟨Nat.le_of_ble_eq_true rfl, Nat.le_of_ble_eq_true rfl⟩) [] [] [] rfl rfl rfl rfl rfl rfl hl.1 (Nat.le_of_ble_eq_true rfl) dX3_firstImageThatIsForm_2 ⟨Nat.zero_le _, Nat.zero_le _⟩ (fun H locs hP hD hS => ?_)
  refine lv_topi (fun v2_1 ev2_1 => ?_)
  replace hm := lt_go ev2_1 hm
  refine lv_istore_n (lv' := [(2, .int v2_1), (0, .int a0), (1, .int a1)]) hx hb dX3_firstImageThatIsForm_5 rfl hl (by decide) rfl (fun ls hl => ?_)
  refine lv_iload_n hx hb dX3_firstImageThatIsForm_6 rfl (lv_at hl 1 rfl) ?_
  refine lv_iload_n hx hb dX3_firstImageThatIsForm_7 rfl (lv_at hl 2 rfl) ?_
  obtain ⟨r_2, hc8, hm⟩ := bd1_go hm
  refine my_cSi (As := [.int a0, .int a1]) (rest := []) (WC := []) (WC' := []) (WR := []) (W' := []) ⟨hx, hb, hml, hown, hts⟩ hK hP hD hS hA (c_Ring_mirrored l dC dI cA fu a0 a1 r_2 hc8) (va_cwS 2 hts gX3_firstImageThatIsForm_X3_mirrored rfl rfl rfl (by decide +kernel) ⟨Nat.le_of_ble_eq_true rfl, Nat.le_of_ble_eq_true rfl⟩) [] [] [] rfl rfl rfl rfl rfl rfl hl.1 (Nat.le_of_ble_eq_true rfl) dX3_firstImageThatIsForm_8 ⟨Nat.zero_le _, Nat.zero_le _⟩ (fun H locs hP hD hS => ?_)
  refine lv_topi (fun v3_1 ev3_1 => ?_)
  replace hm := lt_go ev3_1 hm
  refine lv_istore_n (lv' := [(3, .int v3_1), (2, .int v2_1), (0, .int a0), (1, .int a1)]) hx hb dX3_firstImageThatIsForm_11 rfl hl (by decide) rfl (fun ls hl => ?_)
  refine lv_iconst (v := 0) hx hb dX3_firstImageThatIsForm_12 (by decide) ?_
  refine lv_topi (fun v4_1 ev4_1 => ?_)
  replace hm := lt_go ev4_1 hm
  refine lv_istore (lv' := [(4, .int v4_1), (3, .int v3_1), (2, .int v2_1), (0, .int a0), (1, .int a1)]) hx hb dX3_firstImageThatIsForm_13 hl (by decide) rfl (fun ls hl => ?_)
  have L15 : ∀ (n : Nat) (v4_2 : Int32), m_Ring_firstImageThatIsForm_L15 fu a1 v3_1 v2_1 a0 n v4_2 = some r0 → ∀ (H : Heap) (locs : List Loc), va_P (dC, dI) vwCl [] H → va_D A [] → va_S A s.heap H locs → ∀ ls : Array Slot, lv_has ls 5 [(0, .int a0), (1, .int a1), (2, .int v2_1), (3, .int v3_1), (4, .int v4_2)] → W p l e (headSpec wsX3_firstImageThatIsForm rmX3_firstImageThatIsForm).room s m (([.int a0, .int a1] : List Value).toArray) below meth c H locs 0 0 Q (F0 m 15 ls []) := by
    clear hm hP hD hS hl
    intro n
    induction n with
    | zero => intro _ hm; exact nomatch (show none = some _ from hm)
    | succ n ih =>
      intro v4_2 hm H locs hP hD hS ls hl
      unfold m_Ring_firstImageThatIsForm_L15 at hm
      refine lv_iload hx hb dX3_firstImageThatIsForm_15 (lv_at hl 4 rfl) ?_
      refine lv_iload_n hx hb dX3_firstImageThatIsForm_17 rfl (lv_at hl 1 rfl) ?_
      refine lv_icmp_ge (tgt := 41) hx hb dX3_firstImageThatIsForm_18 (by decide) (fun c18 => ?_) (fun c18 => ?_)
      · replace hm := if_t c18 hm
        refine lv_iconst (v := 0) hx hb dX3_firstImageThatIsForm_41 (by decide) ?_
        refine lv_topi (fun v4_3 ev4_3 => ?_)
        replace hm := lt_go ev4_3 hm
        refine lv_istore (lv' := [(4, .int v4_3), (0, .int a0), (1, .int a1), (2, .int v2_1), (3, .int v3_1)]) hx hb dX3_firstImageThatIsForm_42 hl (by decide) rfl (fun ls hl => ?_)
        have L44 : ∀ (n : Nat) (v4_4 : Int32), m_Ring_firstImageThatIsForm_L44 a1 v3_1 v2_1 n v4_4 = some r0 → ∀ (H : Heap) (locs : List Loc), va_P (dC, dI) vwCl [] H → va_D A [] → va_S A s.heap H locs → ∀ ls : Array Slot, lv_has ls 5 [(1, .int a1), (2, .int v2_1), (3, .int v3_1), (4, .int v4_4)] → W p l e (headSpec wsX3_firstImageThatIsForm rmX3_firstImageThatIsForm).room s m (([.int a0, .int a1] : List Value).toArray) below meth c H locs 0 0 Q (F0 m 44 ls []) := by
          clear hm hP hD hS hl
          intro n
          induction n with
          | zero => intro _ hm; exact nomatch (show none = some _ from hm)
          | succ n ih =>
            intro v4_4 hm H locs hP hD hS ls hl
            unfold m_Ring_firstImageThatIsForm_L44 at hm
            refine lv_iload hx hb dX3_firstImageThatIsForm_44 (lv_at hl 3 rfl) ?_
            refine lv_iload_n hx hb dX3_firstImageThatIsForm_46 rfl (lv_at hl 0 rfl) ?_
            refine lv_icmp_ge (tgt := 72) hx hb dX3_firstImageThatIsForm_47 (by decide) (fun c47 => ?_) (fun c47 => ?_)
            · replace hm := if_t c47 hm
              refine lv_iconst (v := (-1)) hx hb dX3_firstImageThatIsForm_72 (by decide) ?_
              cases hm
              exact W_mono hQ (W.iret hx hb hr (fun t ht hW => ⟨⟨_, (), rfl, rfl, by rw [ht]; exact hP, va_K.moved hW.alike hK, hD⟩, hS.F ht⟩) hS.2.2 dX3_firstImageThatIsForm_73)
            · replace hm := if_f c47 hm
              refine lv_iload_n hx hb dX3_firstImageThatIsForm_50 rfl (lv_at hl 2 rfl) ?_
              refine lv_iload hx hb dX3_firstImageThatIsForm_51 (lv_at hl 3 rfl) ?_
              refine lv_iload_n hx hb dX3_firstImageThatIsForm_53 rfl (lv_at hl 0 rfl) ?_
              obtain ⟨r_3, hc54, hm⟩ := bd1_go hm
              refine my_cSi (As := [.int v3_1, .int v4_4, .int a1]) (rest := []) (WC := []) (WC' := []) (WR := []) (W' := []) ⟨hx, hb, hml, hown, hts⟩ hK hP hD hS hA (c_Ring_turned l dC dI cA v3_1 v4_4 a1 r_3 hc54) (va_cwS 3 hts gX3_firstImageThatIsForm_X3_turned rfl rfl rfl (by decide +kernel) ⟨Nat.le_of_ble_eq_true rfl, Nat.le_of_ble_eq_true rfl⟩) [] [] [] rfl rfl rfl rfl rfl rfl hl.1 (Nat.le_of_ble_eq_true rfl) dX3_firstImageThatIsForm_54 ⟨Nat.zero_le _, Nat.zero_le _⟩ (fun H locs hP hD hS => ?_)
              refine lv_iload_n hx hb dX3_firstImageThatIsForm_57 rfl (lv_at hl 1 rfl) ?_
              refine lv_icmp_ne (tgt := 66) hx hb dX3_firstImageThatIsForm_58 (by decide) (fun c58 => ?_) (fun c58 => ?_)
              · replace hm := if_f c58 hm
                obtain ⟨v4_5, ev4_5⟩ : ∃ z : Int32, z = v4_4 + 1 := ⟨_, rfl⟩
                replace hm := lt_go ev4_5 hm
                refine lv_iinc (v := v4_5) (lv' := [(4, .int v4_5), (1, .int a1), (2, .int v2_1), (3, .int v3_1)]) hx hb dX3_firstImageThatIsForm_66 hl (k := 3) rfl (by rw [ev4_5]; rfl) (by decide) rfl (fun ls hl => ?_)
                refine lv_goto (tgt := 44) hx hb dX3_firstImageThatIsForm_69 (by decide) ?_
                exact ih _ hm _ _ hP hD hS _ (lv_sub hl [1, 2, 3, 0] rfl)
              · replace hm := if_t c58 hm
                refine lv_iload_n hx hb dX3_firstImageThatIsForm_61 rfl (lv_at hl 0 rfl) ?_
                refine lv_iload hx hb dX3_firstImageThatIsForm_62 (lv_at hl 3 rfl) ?_
                refine lv_iadd hx hb dX3_firstImageThatIsForm_64 ?_
                cases hm
                exact W_mono hQ (W.iret hx hb hr (fun t ht hW => ⟨⟨_, (), rfl, rfl, by rw [ht]; exact hP, va_K.moved hW.alike hK, hD⟩, hS.F ht⟩) hS.2.2 dX3_firstImageThatIsForm_65)
        exact L44 _ _ hm _ _ hP hD hS _ (lv_sub hl [2, 3, 4, 0] rfl)
      · replace hm := if_f c18 hm
        refine lv_iload_n hx hb dX3_firstImageThatIsForm_21 rfl (lv_at hl 0 rfl) ?_
        refine lv_iload hx hb dX3_firstImageThatIsForm_22 (lv_at hl 4 rfl) ?_
        refine lv_iload_n hx hb dX3_firstImageThatIsForm_24 rfl (lv_at hl 1 rfl) ?_
        obtain ⟨r_4, hc25, hm⟩ := bd1_go hm
        refine my_cSi (As := [.int a0, .int v4_2, .int a1]) (rest := []) (WC := []) (WC' := []) (WR := []) (W' := []) ⟨hx, hb, hml, hown, hts⟩ hK hP hD hS hA (c_Ring_turned l dC dI cA a0 v4_2 a1 r_4 hc25) (va_cwS 3 hts gX3_firstImageThatIsForm_X3_turned rfl rfl rfl (by decide +kernel) ⟨Nat.le_of_ble_eq_true rfl, Nat.le_of_ble_eq_true rfl⟩) [] [] [] rfl rfl rfl rfl rfl rfl hl.1 (Nat.le_of_ble_eq_true rfl) dX3_firstImageThatIsForm_25 ⟨Nat.zero_le _, Nat.zero_le _⟩ (fun H locs hP hD hS => ?_)
        refine lv_iload_n hx hb dX3_firstImageThatIsForm_28 rfl (lv_at hl 2 rfl) ?_
        refine lv_icmp_ne (tgt := 35) hx hb dX3_firstImageThatIsForm_29 (by decide) (fun c29 => ?_) (fun c29 => ?_)
        · replace hm := if_f c29 hm
          obtain ⟨v4_6, ev4_6⟩ : ∃ z : Int32, z = v4_2 + 1 := ⟨_, rfl⟩
          replace hm := lt_go ev4_6 hm
          refine lv_iinc (v := v4_6) (lv' := [(4, .int v4_6), (0, .int a0), (1, .int a1), (2, .int v2_1), (3, .int v3_1)]) hx hb dX3_firstImageThatIsForm_35 hl (k := 4) rfl (by rw [ev4_6]; rfl) (by decide) rfl (fun ls hl => ?_)
          refine lv_goto (tgt := 15) hx hb dX3_firstImageThatIsForm_38 (by decide) ?_
          exact ih _ hm _ _ hP hD hS _ (lv_sub hl [1, 2, 3, 4, 0] rfl)
        · replace hm := if_t c29 hm
          refine lv_iload hx hb dX3_firstImageThatIsForm_32 (lv_at hl 4 rfl) ?_
          cases hm
          exact W_mono hQ (W.iret hx hb hr (fun t ht hW => ⟨⟨_, (), rfl, rfl, by rw [ht]; exact hP, va_K.moved hW.alike hK, hD⟩, hS.F ht⟩) hS.2.2 dX3_firstImageThatIsForm_34)
  exact L15 _ _ hm _ _ hP hD hS _ (lv_sub hl [3, 4, 2, 1, 0] rfl)
abbrev rmX3_joined : Room := { frames := 0, cells := 0, slots := 0, locals := 0 }
set_option maxHeartbeats 40000000 in
set_option maxRecDepth 100000 in
theorem c_Ring_joined (l : Launch) (dC : Nat → ClassId) (dI : Nat → Nat → Nat) (cA : ClassId) (a0 : Int32) (a1 : Int32) (a2 : Int32) (r0 : Int32) (hm : m_Ring_joined a0 a1 a2 = some r0) (sz : Nat) : Met l yX3_joined wsX3_joined rmX3_joined (mPre (dC, dI) cA [.int a0, .int a1, .int a2] sz []) (mPosI (dC, dI) cA r0 (va_A [] sz) []) 0 0 (va_A [] sz) := by
  refine Met.ofW (cc := cX3_joined) (maxL := 3) (ret := (some .int)) (by decide) rfl ?_
  intro p e s m args below meth c s₁ B hml hv
  obtain ⟨rfl, hsz, hP, hK, hD0⟩ := hv
  refine W_gen (fun Q hQ => ?_)
  have hx := B.exec
  have hb := B.bytes
  have hr := B.returns
  have hts := atoms_spec (ws := wsX3_joined) B.pre
  have hown : s.vm.findClass RX3 = some m.cls := findClass_of_methodNamed B.named
  have hlocks := B.notSynchronized
  subst hsz
  have hD := hD0.self (sz := s.heap.size)
  clear hD0
  generalize hAe : va_A [] s.heap.size = A at hD hQ
  have hA : ∀ q : Nat, s.heap.size ≤ q → A q := fun q h => by rw [← hAe]; exact Or.inr h
  clear hAe
  have hS : va_S A s.heap s.heap [] := va_S.rf
  have hl := lv_entry ([.int a0, .int a1, .int a2]) (n := 3) (Nat.le_of_ble_eq_true rfl)
  rw [lg_entry_eq]
  generalize (lg_sl ([.int a0, .int a1, .int a2]) ++ List.replicate (3 - (lg_sl ([.int a0, .int a1, .int a2])).length) Slot.unset).toArray = ls at hl ⊢
  have hl : lv_has ls 3 [(0, .int a0), (1, .int a1), (2, .int a2)] := hl
  have k1 := hts (.constant RX3 42 (-1000000002)) (List.mem_of_getElem? (i := 1) rfl)
  unfold m_Ring_joined at hm
  refine lv_iload_n hx hb dX3_joined_0 rfl (lv_at hl 2 rfl) ?_
  by_cases s1_0 : a2 = 0
  · replace hm := if_t s1_0 hm
    refine lv_tableIn (tgt := 32) hx hb dX3_joined_1 (by rw [s1_0]; decide) (by rw [s1_0]; decide) (by rw [s1_0]; rfl) (by decide) ?_
    refine lv_iload_n hx hb dX3_joined_32 rfl (lv_at hl 0 rfl) ?_
    refine lv_iload_n hx hb dX3_joined_33 rfl (lv_at hl 1 rfl) ?_
    refine lv_iand hx hb dX3_joined_34 ?_
    cases hm
    exact W_mono hQ (W.iret hx hb hr (fun t ht hW => ⟨⟨_, (), rfl, rfl, by rw [ht]; exact hP, va_K.moved hW.alike hK, hD⟩, hS.F ht⟩) hS.2.2 dX3_joined_35)
  replace hm := if_f s1_0 hm
  by_cases s1_1 : a2 = 1
  · replace hm := if_t s1_1 hm
    refine lv_tableIn (tgt := 36) hx hb dX3_joined_1 (by rw [s1_1]; decide) (by rw [s1_1]; decide) (by rw [s1_1]; rfl) (by decide) ?_
    refine lv_iload_n hx hb dX3_joined_36 rfl (lv_at hl 0 rfl) ?_
    refine lv_iload_n hx hb dX3_joined_37 rfl (lv_at hl 1 rfl) ?_
    refine lv_ior hx hb dX3_joined_38 ?_
    cases hm
    exact W_mono hQ (W.iret hx hb hr (fun t ht hW => ⟨⟨_, (), rfl, rfl, by rw [ht]; exact hP, va_K.moved hW.alike hK, hD⟩, hS.F ht⟩) hS.2.2 dX3_joined_39)
  replace hm := if_f s1_1 hm
  by_cases s1_2 : a2 = 2
  · replace hm := if_t s1_2 hm
    refine lv_tableIn (tgt := 40) hx hb dX3_joined_1 (by rw [s1_2]; decide) (by rw [s1_2]; decide) (by rw [s1_2]; rfl) (by decide) ?_
    refine lv_iload_n hx hb dX3_joined_40 rfl (lv_at hl 0 rfl) ?_
    refine lv_iload_n hx hb dX3_joined_41 rfl (lv_at hl 1 rfl) ?_
    refine lv_ixor hx hb dX3_joined_42 ?_
    cases hm
    exact W_mono hQ (W.iret hx hb hr (fun t ht hW => ⟨⟨_, (), rfl, rfl, by rw [ht]; exact hP, va_K.moved hW.alike hK, hD⟩, hS.F ht⟩) hS.2.2 dX3_joined_43)
  replace hm := if_f s1_2 hm
  by_cases s1_3 : a2 = 3
  · replace hm := if_t s1_3 hm
    refine lv_tableIn (tgt := 44) hx hb dX3_joined_1 (by rw [s1_3]; decide) (by rw [s1_3]; decide) (by rw [s1_3]; rfl) (by decide) ?_
    refine lv_iload_n hx hb dX3_joined_44 rfl (lv_at hl 0 rfl) ?_
    refine lv_iload_n hx hb dX3_joined_45 rfl (lv_at hl 1 rfl) ?_
    refine lv_iconst (v := (-1)) hx hb dX3_joined_46 (by decide) ?_
    refine lv_ixor hx hb dX3_joined_47 ?_
    refine lv_iand hx hb dX3_joined_48 ?_
    cases hm
    exact W_mono hQ (W.iret hx hb hr (fun t ht hW => ⟨⟨_, (), rfl, rfl, by rw [ht]; exact hP, va_K.moved hW.alike hK, hD⟩, hS.F ht⟩) hS.2.2 dX3_joined_49)
  replace hm := if_f s1_3 hm
  refine lv_tableOut (tgt := 50) hx hb dX3_joined_1 (sw_4 s1_0 s1_1 s1_2 s1_3) (by decide) ?_
  refine lv_ldc (v := (-1000000002)) hx hb hown k1 dX3_joined_50 ?_
  cases hm
  exact W_mono hQ (W.iret hx hb hr (fun t ht hW => ⟨⟨_, (), rfl, rfl, by rw [ht]; exact hP, va_K.moved hW.alike hK, hD⟩, hS.F ht⟩) hS.2.2 dX3_joined_52)
abbrev rmX3_kinOf : Room := { frames := 2, cells := 0, slots := 0, locals := 42 }
set_option maxHeartbeats 40000000 in
set_option maxRecDepth 100000 in
theorem c_Ring_kinOf (l : Launch) (dC : Nat → ClassId) (dI : Nat → Nat → Nat) (cA : ClassId) (fu : Nat) (a0 : Int32) (a1 : Int32) (r0 : Int32) (hm : m_Ring_kinOf fu a0 a1 = some r0) (sz : Nat) : Met l yX3_kinOf wsX3_kinOf rmX3_kinOf (mPre (dC, dI) cA [.int a0, .int a1] sz []) (mPosI (dC, dI) cA r0 (va_A [] sz) []) 0 0 (va_A [] sz) := by
  refine Met.ofW (cc := cX3_kinOf) (maxL := 5) (ret := (some .int)) (by decide) rfl ?_
  intro p e s m args below meth c s₁ B hml hv
  obtain ⟨rfl, hsz, hP, hK, hD0⟩ := hv
  refine W_gen (fun Q hQ => ?_)
  have hx := B.exec
  have hb := B.bytes
  have hr := B.returns
  have hts := atoms_spec (ws := wsX3_kinOf) B.pre
  have hown : s.vm.findClass RX3 = some m.cls := findClass_of_methodNamed B.named
  have hlocks := B.notSynchronized
  subst hsz
  have hD := hD0.self (sz := s.heap.size)
  clear hD0
  generalize hAe : va_A [] s.heap.size = A at hD hQ
  have hA : ∀ q : Nat, s.heap.size ≤ q → A q := fun q h => by rw [← hAe]; exact Or.inr h
  clear hAe
  have hS : va_S A s.heap s.heap [] := va_S.rf
  have hl := lv_entry ([.int a0, .int a1]) (n := 5) (Nat.le_of_ble_eq_true rfl)
  rw [lg_entry_eq]
  generalize (lg_sl ([.int a0, .int a1]) ++ List.replicate (5 - (lg_sl ([.int a0, .int a1])).length) Slot.unset).toArray = ls at hl ⊢
  have hl : lv_has ls 5 [(0, .int a0), (1, .int a1)] := hl
  unfold m_Ring_kinOf at hm
  refine lv_iload_n hx hb dX3_kinOf_0 rfl (lv_at hl 0 rfl) ?_
  refine lv_iload_n hx hb dX3_kinOf_1 rfl (lv_at hl 1 rfl) ?_
  obtain ⟨r_1, hc2, hm⟩ := bd1_go hm
  refine my_cSi (As := [.int a0, .int a1]) (rest := []) (WC := []) (WC' := []) (WR := []) (W' := []) ⟨hx, hb, hml, hown, hts⟩ hK hP hD hS hA (c_Ring_mirrored l dC dI cA fu a0 a1 r_1 hc2) (va_cwS 2 hts gX3_kinOf_X3_mirrored rfl rfl rfl (by decide +kernel) ⟨Nat.le_of_ble_eq_true rfl, Nat.le_of_ble_eq_true rfl⟩) [] [] [] rfl rfl rfl rfl rfl rfl hl.1 (Nat.le_of_ble_eq_true rfl) dX3_kinOf_2 ⟨Nat.zero_le _, Nat.zero_le _⟩ (fun H locs hP hD hS => ?_)
  refine lv_topi (fun v2_1 ev2_1 => ?_)
  replace hm := lt_go ev2_1 hm
  refine lv_istore_n (lv' := [(2, .int v2_1), (0, .int a0), (1, .int a1)]) hx hb dX3_kinOf_5 rfl hl (by decide) rfl (fun ls hl => ?_)
  refine lv_iconst (v := 0) hx hb dX3_kinOf_6 (by decide) ?_
  refine lv_topi (fun v3_1 ev3_1 => ?_)
  replace hm := lt_go ev3_1 hm
  refine lv_istore_n (lv' := [(3, .int v3_1), (2, .int v2_1), (0, .int a0), (1, .int a1)]) hx hb dX3_kinOf_7 rfl hl (by decide) rfl (fun ls hl => ?_)
  refine lv_iconst (v := 0) hx hb dX3_kinOf_8 (by decide) ?_
  refine lv_topi (fun v4_1 ev4_1 => ?_)
  replace hm := lt_go ev4_1 hm
  refine lv_istore (lv' := [(4, .int v4_1), (3, .int v3_1), (2, .int v2_1), (0, .int a0), (1, .int a1)]) hx hb dX3_kinOf_9 hl (by decide) rfl (fun ls hl => ?_)
  have L11 : ∀ (n : Nat) (v3_2 : Int32) (v4_2 : Int32) (v3_3 : Int32), m_Ring_kinOf_L11 a1 a0 v2_1 n v3_2 v4_2 = some v3_3 → ∀ (H : Heap) (locs : List Loc), va_P (dC, dI) vwCl [] H → va_D A [] → va_S A s.heap H locs → ∀ ls : Array Slot, lv_has ls 5 [(0, .int a0), (1, .int a1), (2, .int v2_1), (3, .int v3_2), (4, .int v4_2)] → (∀ (H : Heap) (locs : List Loc), va_P (dC, dI) vwCl [] H → va_D A [] → va_S A s.heap H locs → ∀ ls : Array Slot, lv_has ls 5 [(3, .int v3_3)] → W p l e (headSpec wsX3_kinOf rmX3_kinOf).room s m (([.int a0, .int a1] : List Value).toArray) below meth c H locs 0 0 Q (F0 m 51 ls [])) → W p l e (headSpec wsX3_kinOf rmX3_kinOf).room s m (([.int a0, .int a1] : List Value).toArray) below meth c H locs 0 0 Q (F0 m 11 ls []) := by
    clear hm hP hD hS hl
    intro n
    induction n with
    | zero => intro _ _ _ hm; exact nomatch (show none = some _ from hm)
    | succ n ih =>
      intro v3_2 v4_2 v3_3 hm H locs hP hD hS ls hl KK
      unfold m_Ring_kinOf_L11 at hm
      refine lv_iload hx hb dX3_kinOf_11 (lv_at hl 4 rfl) ?_
      refine lv_iload_n hx hb dX3_kinOf_13 rfl (lv_at hl 1 rfl) ?_
      refine lv_icmp_ge (tgt := 51) hx hb dX3_kinOf_14 (by decide) (fun c14 => ?_) (fun c14 => ?_)
      · replace hm := if_t c14 hm
        cases hm
        exact KK _ _ hP hD hS _ (lv_sub hl [3] rfl)
      · replace hm := if_f c14 hm
        refine lv_iload_n hx hb dX3_kinOf_17 rfl (lv_at hl 0 rfl) ?_
        refine lv_iload hx hb dX3_kinOf_18 (lv_at hl 4 rfl) ?_
        refine lv_iload_n hx hb dX3_kinOf_20 rfl (lv_at hl 1 rfl) ?_
        obtain ⟨r_2, hc21, hm⟩ := bd1_go hm
        refine my_cSi (As := [.int a0, .int v4_2, .int a1]) (rest := []) (WC := []) (WC' := []) (WR := []) (W' := []) ⟨hx, hb, hml, hown, hts⟩ hK hP hD hS hA (c_Ring_turned l dC dI cA a0 v4_2 a1 r_2 hc21) (va_cwS 3 hts gX3_kinOf_X3_turned rfl rfl rfl (by decide +kernel) ⟨Nat.le_of_ble_eq_true rfl, Nat.le_of_ble_eq_true rfl⟩) [] [] [] rfl rfl rfl rfl rfl rfl hl.1 (Nat.le_of_ble_eq_true rfl) dX3_kinOf_21 ⟨Nat.zero_le _, Nat.zero_le _⟩ (fun H locs hP hD hS => ?_)
        refine lv_iload_n hx hb dX3_kinOf_24 rfl (lv_at hl 0 rfl) ?_
        obtain ⟨v3_4, hqJ_1, hm⟩ := bd1_go hm
        have J_1 : ∀ (H : Heap) (locs : List Loc), va_P (dC, dI) vwCl [] H → va_D A [] → va_S A s.heap H locs → ∀ ls : Array Slot, lv_has ls 5 [(0, .int a0), (1, .int a1), (2, .int v2_1), (3, .int v3_4), (4, .int v4_2)] → W p l e (headSpec wsX3_kinOf rmX3_kinOf).room s m (([.int a0, .int a1] : List Value).toArray) below meth c H locs 0 0 Q (F0 m 31 ls []) := by
          intro H locs hP hD hS ls hl
          clear hqJ_1
          refine lv_iload_n hx hb dX3_kinOf_31 rfl (lv_at hl 2 rfl) ?_
          refine lv_iload hx hb dX3_kinOf_32 (lv_at hl 4 rfl) ?_
          refine lv_iload_n hx hb dX3_kinOf_34 rfl (lv_at hl 1 rfl) ?_
          obtain ⟨r_3, hc35, hm⟩ := bd1_go hm
          refine my_cSi (As := [.int v2_1, .int v4_2, .int a1]) (rest := []) (WC := []) (WC' := []) (WR := []) (W' := []) ⟨hx, hb, hml, hown, hts⟩ hK hP hD hS hA (c_Ring_turned l dC dI cA v2_1 v4_2 a1 r_3 hc35) (va_cwS 3 hts gX3_kinOf_X3_turned rfl rfl rfl (by decide +kernel) ⟨Nat.le_of_ble_eq_true rfl, Nat.le_of_ble_eq_true rfl⟩) [] [] [] rfl rfl rfl rfl rfl rfl hl.1 (Nat.le_of_ble_eq_true rfl) dX3_kinOf_35 ⟨Nat.zero_le _, Nat.zero_le _⟩ (fun H locs hP hD hS => ?_)
          refine lv_iload_n hx hb dX3_kinOf_38 rfl (lv_at hl 0 rfl) ?_
          obtain ⟨v3_6, hqJ_2, hm⟩ := bd1_go hm
          have J_2 : ∀ (H : Heap) (locs : List Loc), va_P (dC, dI) vwCl [] H → va_D A [] → va_S A s.heap H locs → ∀ ls : Array Slot, lv_has ls 5 [(0, .int a0), (1, .int a1), (2, .int v2_1), (3, .int v3_6), (4, .int v4_2)] → W p l e (headSpec wsX3_kinOf rmX3_kinOf).room s m (([.int a0, .int a1] : List Value).toArray) below meth c H locs 0 0 Q (F0 m 45 ls []) := by
            intro H locs hP hD hS ls hl
            clear hqJ_2
            obtain ⟨v4_3, ev4_3⟩ : ∃ z : Int32, z = v4_2 + 1 := ⟨_, rfl⟩
            replace hm := lt_go ev4_3 hm
            refine lv_iinc (v := v4_3) (lv' := [(4, .int v4_3), (0, .int a0), (1, .int a1), (2, .int v2_1), (3, .int v3_6)]) hx hb dX3_kinOf_45 hl (k := 4) rfl (by rw [ev4_3]; rfl) (by decide) rfl (fun ls hl => ?_)
            refine lv_goto (tgt := 11) hx hb dX3_kinOf_48 (by decide) ?_
            exact ih _ _ _ hm _ _ hP hD hS _ (lv_sub hl [1, 2, 3, 4, 0] rfl) KK
          clear hm
          refine lv_icmp_ne (tgt := 45) hx hb dX3_kinOf_39 (by decide) (fun c39 => ?_) (fun c39 => ?_)
          · replace hqJ_2 := if_f c39 hqJ_2
            cases hqJ_2
            exact J_2 _ _ hP hD hS _ (lv_sub hl [0, 1, 2, 3, 4] rfl)
          · replace hqJ_2 := if_t c39 hqJ_2
            obtain ⟨v3_7, ev3_7⟩ : ∃ z : Int32, z = v3_4 + 1 := ⟨_, rfl⟩
            replace hqJ_2 := lt_go ev3_7 hqJ_2
            refine lv_iinc (v := v3_7) (lv' := [(3, .int v3_7), (0, .int a0), (1, .int a1), (2, .int v2_1), (4, .int v4_2)]) hx hb dX3_kinOf_42 hl (k := 3) rfl (by rw [ev3_7]; rfl) (by decide) rfl (fun ls hl => ?_)
            cases hqJ_2
            exact J_2 _ _ hP hD hS _ (lv_sub hl [1, 2, 3, 0, 4] rfl)
        clear hm
        refine lv_icmp_ne (tgt := 31) hx hb dX3_kinOf_25 (by decide) (fun c25 => ?_) (fun c25 => ?_)
        · replace hqJ_1 := if_f c25 hqJ_1
          cases hqJ_1
          exact J_1 _ _ hP hD hS _ (lv_sub hl [0, 1, 2, 3, 4] rfl)
        · replace hqJ_1 := if_t c25 hqJ_1
          obtain ⟨v3_5, ev3_5⟩ : ∃ z : Int32, z = v3_2 + 1 := ⟨_, rfl⟩
          replace hqJ_1 := lt_go ev3_5 hqJ_1
          refine lv_iinc (v := v3_5) (lv' := [(3, .int v3_5), (0, .int a0), (1, .int a1), (2, .int v2_1), (4, .int v4_2)]) hx hb dX3_kinOf_28 hl (k := 3) rfl (by rw [ev3_5]; rfl) (by decide) rfl (fun ls hl => ?_)
          cases hqJ_1
          exact J_1 _ _ hP hD hS _ (lv_sub hl [1, 2, 3, 0, 4] rfl)
  obtain ⟨v3_8, hl11, hm⟩ := bd1_go hm
  refine L11 _ _ _ _ hl11 _ _ hP hD hS _ (lv_sub hl [3, 4, 2, 1, 0] rfl) (fun H locs hP hD hS ls hl => ?_)
  refine lv_iload_n hx hb dX3_kinOf_51 rfl (lv_at hl 0 rfl) ?_
  cases hm
  exact W_mono hQ (W.iret hx hb hr (fun t ht hW => ⟨⟨_, (), rfl, rfl, by rw [ht]; exact hP, va_K.moved hW.alike hK, hD⟩, hS.F ht⟩) hS.2.2 dX3_kinOf_52)
abbrev rmX3_partsLike : Room := { frames := 3, cells := 0, slots := 0, locals := 66 }
set_option maxHeartbeats 40000000 in
set_option maxRecDepth 100000 in
theorem c_Ring_partsLike (l : Launch) (dC : Nat → ClassId) (dI : Nat → Nat → Nat) (cA : ClassId) (fu : Nat) (a0 : Int32) (a1 : Int32) (a2 : Int32) (r0 : Int32) (hm : m_Ring_partsLike fu a0 a1 a2 = some r0) (sz : Nat) : Met l yX3_partsLike wsX3_partsLike rmX3_partsLike (mPre (dC, dI) cA [.int a0, .int a1, .int a2] sz []) (mPosI (dC, dI) cA r0 (va_A [] sz) []) 0 0 (va_A [] sz) := by
  refine Met.ofW (cc := cX3_partsLike) (maxL := 6) (ret := (some .int)) (by decide) rfl ?_
  intro p e s m args below meth c s₁ B hml hv
  obtain ⟨rfl, hsz, hP, hK, hD0⟩ := hv
  refine W_gen (fun Q hQ => ?_)
  have hx := B.exec
  have hb := B.bytes
  have hr := B.returns
  have hts := atoms_spec (ws := wsX3_partsLike) B.pre
  have hown : s.vm.findClass RX3 = some m.cls := findClass_of_methodNamed B.named
  have hlocks := B.notSynchronized
  subst hsz
  have hD := hD0.self (sz := s.heap.size)
  clear hD0
  generalize hAe : va_A [] s.heap.size = A at hD hQ
  have hA : ∀ q : Nat, s.heap.size ≤ q → A q := fun q h => by rw [← hAe]; exact Or.inr h
  clear hAe
  have hS : va_S A s.heap s.heap [] := va_S.rf
  have hl := lv_entry ([.int a0, .int a1, .int a2]) (n := 6) (Nat.le_of_ble_eq_true rfl)
  rw [lg_entry_eq]
  generalize (lg_sl ([.int a0, .int a1, .int a2]) ++ List.replicate (6 - (lg_sl ([.int a0, .int a1, .int a2])).length) Slot.unset).toArray = ls at hl ⊢
  have hl : lv_has ls 6 [(0, .int a0), (1, .int a1), (2, .int a2)] := hl
  unfold m_Ring_partsLike at hm
  refine lv_iload_n hx hb dX3_partsLike_0 rfl (lv_at hl 1 rfl) ?_
  refine lv_iload_n hx hb dX3_partsLike_1 rfl (lv_at hl 2 rfl) ?_
  obtain ⟨r_1, hc2, hm⟩ := bd1_go hm
  refine my_cSi (As := [.int a1, .int a2]) (rest := []) (WC := []) (WC' := []) (WR := []) (W' := []) ⟨hx, hb, hml, hown, hts⟩ hK hP hD hS hA (c_Ring_mirrored l dC dI cA fu a1 a2 r_1 hc2) (va_cwS 2 hts gX3_partsLike_X3_mirrored rfl rfl rfl (by decide +kernel) ⟨Nat.le_of_ble_eq_true rfl, Nat.le_of_ble_eq_true rfl⟩) [] [] [] rfl rfl rfl rfl rfl rfl hl.1 (Nat.le_of_ble_eq_true rfl) dX3_partsLike_2 ⟨Nat.zero_le _, Nat.zero_le _⟩ (fun H locs hP hD hS => ?_)
  refine lv_topi (fun v3_1 ev3_1 => ?_)
  replace hm := lt_go ev3_1 hm
  refine lv_istore_n (lv' := [(3, .int v3_1), (0, .int a0), (1, .int a1), (2, .int a2)]) hx hb dX3_partsLike_5 rfl hl (by decide) rfl (fun ls hl => ?_)
  refine lv_iconst (v := 0) hx hb dX3_partsLike_6 (by decide) ?_
  refine lv_topi (fun v4_1 ev4_1 => ?_)
  replace hm := lt_go ev4_1 hm
  refine lv_istore (lv' := [(4, .int v4_1), (3, .int v3_1), (0, .int a0), (1, .int a1), (2, .int a2)]) hx hb dX3_partsLike_7 hl (by decide) rfl (fun ls hl => ?_)
  refine lv_iconst (v := 0) hx hb dX3_partsLike_9 (by decide) ?_
  refine lv_topi (fun v5_1 ev5_1 => ?_)
  replace hm := lt_go ev5_1 hm
  refine lv_istore (lv' := [(5, .int v5_1), (4, .int v4_1), (3, .int v3_1), (0, .int a0), (1, .int a1), (2, .int a2)]) hx hb dX3_partsLike_10 hl (by decide) rfl (fun ls hl => ?_)
  have L12 : ∀ (n : Nat) (v4_2 : Int32) (v5_2 : Int32) (v4_3 : Int32), m_Ring_partsLike_L12 a2 a1 a0 v3_1 n v4_2 v5_2 = some v4_3 → ∀ (H : Heap) (locs : List Loc), va_P (dC, dI) vwCl [] H → va_D A [] → va_S A s.heap H locs → ∀ ls : Array Slot, lv_has ls 6 [(0, .int a0), (1, .int a1), (2, .int a2), (3, .int v3_1), (4, .int v4_2), (5, .int v5_2)] → (∀ (H : Heap) (locs : List Loc), va_P (dC, dI) vwCl [] H → va_D A [] → va_S A s.heap H locs → ∀ ls : Array Slot, lv_has ls 6 [(1, .int a1), (2, .int a2), (4, .int v4_3)] → W p l e (headSpec wsX3_partsLike rmX3_partsLike).room s m (([.int a0, .int a1, .int a2] : List Value).toArray) below meth c H locs 0 0 Q (F0 m 58 ls [])) → W p l e (headSpec wsX3_partsLike rmX3_partsLike).room s m (([.int a0, .int a1, .int a2] : List Value).toArray) below meth c H locs 0 0 Q (F0 m 12 ls []) := by
    clear hm hP hD hS hl
    intro n
    induction n with
    | zero => intro _ _ _ hm; exact nomatch (show none = some _ from hm)
    | succ n ih =>
      intro v4_2 v5_2 v4_3 hm H locs hP hD hS ls hl KK
      unfold m_Ring_partsLike_L12 at hm
      refine lv_iload hx hb dX3_partsLike_12 (lv_at hl 5 rfl) ?_
      refine lv_iload_n hx hb dX3_partsLike_14 rfl (lv_at hl 2 rfl) ?_
      refine lv_icmp_ge (tgt := 58) hx hb dX3_partsLike_15 (by decide) (fun c15 => ?_) (fun c15 => ?_)
      · replace hm := if_t c15 hm
        cases hm
        exact KK _ _ hP hD hS _ (lv_sub hl [1, 2, 4] rfl)
      · replace hm := if_f c15 hm
        refine lv_iload_n hx hb dX3_partsLike_18 rfl (lv_at hl 1 rfl) ?_
        refine lv_iload hx hb dX3_partsLike_19 (lv_at hl 5 rfl) ?_
        refine lv_iload_n hx hb dX3_partsLike_21 rfl (lv_at hl 2 rfl) ?_
        obtain ⟨r_2, hc22, hm⟩ := bd1_go hm
        refine my_cSi (As := [.int a1, .int v5_2, .int a2]) (rest := []) (WC := []) (WC' := []) (WR := []) (W' := []) ⟨hx, hb, hml, hown, hts⟩ hK hP hD hS hA (c_Ring_turned l dC dI cA a1 v5_2 a2 r_2 hc22) (va_cwS 3 hts gX3_partsLike_X3_turned rfl rfl rfl (by decide +kernel) ⟨Nat.le_of_ble_eq_true rfl, Nat.le_of_ble_eq_true rfl⟩) [] [] [] rfl rfl rfl rfl rfl rfl hl.1 (Nat.le_of_ble_eq_true rfl) dX3_partsLike_22 ⟨Nat.zero_le _, Nat.zero_le _⟩ (fun H locs hP hD hS => ?_)
        refine lv_iload_n hx hb dX3_partsLike_25 rfl (lv_at hl 0 rfl) ?_
        refine lv_iconst (v := (-1)) hx hb dX3_partsLike_26 (by decide) ?_
        refine lv_ixor hx hb dX3_partsLike_27 ?_
        refine lv_iand hx hb dX3_partsLike_28 ?_
        obtain ⟨v4_4, hqJ_1, hm⟩ := bd1_go hm
        have J_1 : ∀ (H : Heap) (locs : List Loc), va_P (dC, dI) vwCl [] H → va_D A [] → va_S A s.heap H locs → ∀ ls : Array Slot, lv_has ls 6 [(0, .int a0), (1, .int a1), (2, .int a2), (3, .int v3_1), (4, .int v4_4), (5, .int v5_2)] → W p l e (headSpec wsX3_partsLike rmX3_partsLike).room s m (([.int a0, .int a1, .int a2] : List Value).toArray) below meth c H locs 0 0 Q (F0 m 35 ls []) := by
          intro H locs hP hD hS ls hl
          clear hqJ_1
          refine lv_iload_n hx hb dX3_partsLike_35 rfl (lv_at hl 3 rfl) ?_
          refine lv_iload hx hb dX3_partsLike_36 (lv_at hl 5 rfl) ?_
          refine lv_iload_n hx hb dX3_partsLike_38 rfl (lv_at hl 2 rfl) ?_
          obtain ⟨r_3, hc39, hm⟩ := bd1_go hm
          refine my_cSi (As := [.int v3_1, .int v5_2, .int a2]) (rest := []) (WC := []) (WC' := []) (WR := []) (W' := []) ⟨hx, hb, hml, hown, hts⟩ hK hP hD hS hA (c_Ring_turned l dC dI cA v3_1 v5_2 a2 r_3 hc39) (va_cwS 3 hts gX3_partsLike_X3_turned rfl rfl rfl (by decide +kernel) ⟨Nat.le_of_ble_eq_true rfl, Nat.le_of_ble_eq_true rfl⟩) [] [] [] rfl rfl rfl rfl rfl rfl hl.1 (Nat.le_of_ble_eq_true rfl) dX3_partsLike_39 ⟨Nat.zero_le _, Nat.zero_le _⟩ (fun H locs hP hD hS => ?_)
          refine lv_iload_n hx hb dX3_partsLike_42 rfl (lv_at hl 0 rfl) ?_
          refine lv_iconst (v := (-1)) hx hb dX3_partsLike_43 (by decide) ?_
          refine lv_ixor hx hb dX3_partsLike_44 ?_
          refine lv_iand hx hb dX3_partsLike_45 ?_
          obtain ⟨v4_6, hqJ_2, hm⟩ := bd1_go hm
          have J_2 : ∀ (H : Heap) (locs : List Loc), va_P (dC, dI) vwCl [] H → va_D A [] → va_S A s.heap H locs → ∀ ls : Array Slot, lv_has ls 6 [(0, .int a0), (1, .int a1), (2, .int a2), (3, .int v3_1), (4, .int v4_6), (5, .int v5_2)] → W p l e (headSpec wsX3_partsLike rmX3_partsLike).room s m (([.int a0, .int a1, .int a2] : List Value).toArray) below meth c H locs 0 0 Q (F0 m 52 ls []) := by
            intro H locs hP hD hS ls hl
            clear hqJ_2
            obtain ⟨v5_3, ev5_3⟩ : ∃ z : Int32, z = v5_2 + 1 := ⟨_, rfl⟩
            replace hm := lt_go ev5_3 hm
            refine lv_iinc (v := v5_3) (lv' := [(5, .int v5_3), (0, .int a0), (1, .int a1), (2, .int a2), (3, .int v3_1), (4, .int v4_6)]) hx hb dX3_partsLike_52 hl (k := 5) rfl (by rw [ev5_3]; rfl) (by decide) rfl (fun ls hl => ?_)
            refine lv_goto (tgt := 12) hx hb dX3_partsLike_55 (by decide) ?_
            exact ih _ _ _ hm _ _ hP hD hS _ (lv_sub hl [1, 2, 3, 4, 5, 0] rfl) KK
          clear hm
          refine lv_if_ne (tgt := 52) hx hb dX3_partsLike_46 (by decide) (fun c46 => ?_) (fun c46 => ?_)
          · replace hqJ_2 := if_f c46 hqJ_2
            cases hqJ_2
            exact J_2 _ _ hP hD hS _ (lv_sub hl [0, 1, 2, 3, 4, 5] rfl)
          · replace hqJ_2 := if_t c46 hqJ_2
            obtain ⟨v4_7, ev4_7⟩ : ∃ z : Int32, z = v4_4 + 1 := ⟨_, rfl⟩
            replace hqJ_2 := lt_go ev4_7 hqJ_2
            refine lv_iinc (v := v4_7) (lv' := [(4, .int v4_7), (0, .int a0), (1, .int a1), (2, .int a2), (3, .int v3_1), (5, .int v5_2)]) hx hb dX3_partsLike_49 hl (k := 4) rfl (by rw [ev4_7]; rfl) (by decide) rfl (fun ls hl => ?_)
            cases hqJ_2
            exact J_2 _ _ hP hD hS _ (lv_sub hl [1, 2, 3, 4, 0, 5] rfl)
        clear hm
        refine lv_if_ne (tgt := 35) hx hb dX3_partsLike_29 (by decide) (fun c29 => ?_) (fun c29 => ?_)
        · replace hqJ_1 := if_f c29 hqJ_1
          cases hqJ_1
          exact J_1 _ _ hP hD hS _ (lv_sub hl [0, 1, 2, 3, 4, 5] rfl)
        · replace hqJ_1 := if_t c29 hqJ_1
          obtain ⟨v4_5, ev4_5⟩ : ∃ z : Int32, z = v4_2 + 1 := ⟨_, rfl⟩
          replace hqJ_1 := lt_go ev4_5 hqJ_1
          refine lv_iinc (v := v4_5) (lv' := [(4, .int v4_5), (0, .int a0), (1, .int a1), (2, .int a2), (3, .int v3_1), (5, .int v5_2)]) hx hb dX3_partsLike_32 hl (k := 4) rfl (by rw [ev4_5]; rfl) (by decide) rfl (fun ls hl => ?_)
          cases hqJ_1
          exact J_1 _ _ hP hD hS _ (lv_sub hl [1, 2, 3, 4, 0, 5] rfl)
  obtain ⟨v4_8, hl12, hm⟩ := bd1_go hm
  refine L12 _ _ _ _ hl12 _ _ hP hD hS _ (lv_sub hl [3, 4, 5, 2, 1, 0] rfl) (fun H locs hP hD hS ls hl => ?_)
  refine lv_iload_n hx hb dX3_partsLike_58 rfl (lv_at hl 0 rfl) ?_
  refine lv_iload_n hx hb dX3_partsLike_59 rfl (lv_at hl 1 rfl) ?_
  obtain ⟨r_4, hc60, hm⟩ := bd1_go hm
  refine my_cSi (As := [.int a1, .int a2]) (rest := []) (WC := []) (WC' := []) (WR := []) (W' := []) ⟨hx, hb, hml, hown, hts⟩ hK hP hD hS hA (c_Ring_kinOf l dC dI cA fu a1 a2 r_4 hc60) (va_cwS 2 hts gX3_partsLike_X3_kinOf rfl rfl rfl (by decide +kernel) ⟨Nat.le_of_ble_eq_true rfl, Nat.le_of_ble_eq_true rfl⟩) [] [] [] rfl rfl rfl rfl rfl rfl hl.1 (Nat.le_of_ble_eq_true rfl) dX3_partsLike_60 ⟨Nat.zero_le _, Nat.zero_le _⟩ (fun H locs hP hD hS => ?_)
  refine lv_topi (fun v5_4 ev5_4 => ?_)
  replace hm := lt_go ev5_4 hm
  refine lv_istore (lv' := [(5, .int v5_4), (1, .int a1), (2, .int a2), (4, .int v4_8)]) hx hb dX3_partsLike_63 hl (by decide) rfl (fun ls hl => ?_)
  refine lv_iload hx hb dX3_partsLike_65 (lv_at hl 0 rfl) ?_
  refine lv_if_le (tgt := 78) hx hb dX3_partsLike_67 (by decide) (fun c67 => ?_) (fun c67 => ?_)
  · replace hm := if_t c67 hm
    refine lv_iconst (v := 0) hx hb dX3_partsLike_78 (by decide) ?_
    cases hm
    exact W_mono hQ (W.iret hx hb hr (fun t ht hW => ⟨⟨_, (), rfl, rfl, by rw [ht]; exact hP, va_K.moved hW.alike hK, hD⟩, hS.F ht⟩) hS.2.2 dX3_partsLike_79)
  · replace hm := if_f c67 hm
    refine lv_iload hx hb dX3_partsLike_70 (lv_at hl 3 rfl) ?_
    refine lv_iload hx hb dX3_partsLike_72 (lv_at hl 0 rfl) ?_
    obtain ⟨d74, hm⟩ := dv_go hm
    refine lv_idiv hx hb dX3_partsLike_74 d74 ?_
    refine lv_goto (tgt := 79) hx hb dX3_partsLike_75 (by decide) ?_
    cases hm
    exact W_mono hQ (W.iret hx hb hr (fun t ht hW => ⟨⟨_, (), rfl, rfl, by rw [ht]; exact hP, va_K.moved hW.alike hK, hD⟩, hS.F ht⟩) hS.2.2 dX3_partsLike_79)
abbrev rmX4_listStops : Room := { frames := 2, cells := 0, slots := 0, locals := 42 }
theorem uX4_X4_listStops : ∀ w ∈ wsX40, w ∈ wsX4_listStops := fun _ h => List.mem_cons_of_mem _ (List.mem_append_left _ (List.mem_append_right _ (h)))
theorem uX7_X4_listStops : ∀ w ∈ wsX70, w ∈ wsX4_listStops := fun _ h => List.mem_cons_of_mem _ (List.mem_append_right _ (h))
set_option maxHeartbeats 40000000 in
set_option maxRecDepth 100000 in
theorem c_Round_listStops (l : Launch) (dC : Nat → ClassId) (dI : Nat → Nat → Nat) (cA : ClassId) (fu : Nat) (h_p1 h_t h_p1_sets h_t_stopSets h_t_lengths h_t_best : Nat) (f_p1_size : Int32) (f_p1_places : Int32) (f_p1_drawn : Int32) (f_t_stops : Int32) (f_p1_sets : Nat → Int32) (f_t_stopSets : Nat → Int32) (f_t_stopSets_z : Nat → Int32) (f_t_stops_z : Int32) (hm : m_Round_listStops fu f_p1_places f_p1_sets f_t_stopSets f_t_stops = some (f_t_stopSets_z, f_t_stops_z)) (sz : Nat) : Met l yX4_listStops wsX4_listStops rmX4_listStops (mPre (dC, dI) cA [.ref h_t, .ref h_p1] sz [(h_p1, .inr (6, [.int f_p1_size, .int f_p1_places, .int f_p1_drawn, .ref h_p1_sets])), (h_t, .inr (3, [.int f_t_stops, .ref h_t_stopSets, .ref h_t_lengths, .ref h_t_best])), (h_p1_sets, .inl (cA, 8, .inl f_p1_sets)), (h_t_stopSets, .inl (cA, 8, .inl f_t_stopSets))]) (mPosV (dC, dI) cA (va_A [(h_p1, .inr (6, [.int f_p1_size, .int f_p1_places, .int f_p1_drawn, .ref h_p1_sets])), (h_t, .inr (3, [.int f_t_stops, .ref h_t_stopSets, .ref h_t_lengths, .ref h_t_best])), (h_p1_sets, .inl (cA, 8, .inl f_p1_sets)), (h_t_stopSets, .inl (cA, 8, .inl f_t_stopSets))] sz) [(h_p1, .inr (6, [.int f_p1_size, .int f_p1_places, .int f_p1_drawn, .ref h_p1_sets])), (h_t, .inr (3, [.int f_t_stops_z, .ref h_t_stopSets, .ref h_t_lengths, .ref h_t_best])), (h_p1_sets, .inl (cA, 8, .inl f_p1_sets)), (h_t_stopSets, .inl (cA, 8, .inl f_t_stopSets_z))]) 0 0 (va_A [(h_p1, .inr (6, [.int f_p1_size, .int f_p1_places, .int f_p1_drawn, .ref h_p1_sets])), (h_t, .inr (3, [.int f_t_stops, .ref h_t_stopSets, .ref h_t_lengths, .ref h_t_best])), (h_p1_sets, .inl (cA, 8, .inl f_p1_sets)), (h_t_stopSets, .inl (cA, 8, .inl f_t_stopSets))] sz) := by
  refine Met.ofW (cc := cX4_listStops) (maxL := 3) (ret := none) (by decide) rfl ?_
  intro p e s m args below meth c s₁ B hml hv
  obtain ⟨rfl, hsz, hP, hK, hD0⟩ := hv
  refine W_gen (fun Q hQ => ?_)
  have hx := B.exec
  have hb := B.bytes
  have hr := B.returns
  have hts := atoms_spec (ws := wsX4_listStops) B.pre
  have hown : s.vm.findClass RX4 = some m.cls := findClass_of_methodNamed B.named
  have hlocks := B.notSynchronized
  subst hsz
  have hD := hD0.self (sz := s.heap.size)
  clear hD0
  generalize hAe : va_A [(h_p1, .inr (6, [.int f_p1_size, .int f_p1_places, .int f_p1_drawn, .ref h_p1_sets])), (h_t, .inr (3, [.int f_t_stops, .ref h_t_stopSets, .ref h_t_lengths, .ref h_t_best])), (h_p1_sets, .inl (cA, 8, .inl f_p1_sets)), (h_t_stopSets, .inl (cA, 8, .inl f_t_stopSets))] s.heap.size = A at hD hQ
  have hA : ∀ q : Nat, s.heap.size ≤ q → A q := fun q h => by rw [← hAe]; exact Or.inr h
  clear hAe
  have hS : va_S A s.heap s.heap [] := va_S.rf
  have hl := lv_entry ([.ref h_t, .ref h_p1]) (n := 3) (Nat.le_of_ble_eq_true rfl)
  rw [lg_entry_eq]
  generalize (lg_sl ([.ref h_t, .ref h_p1]) ++ List.replicate (3 - (lg_sl ([.ref h_t, .ref h_p1])).length) Slot.unset).toArray = ls at hl ⊢
  have hl : lv_has ls 3 [(0, .ref h_t), (1, .ref h_p1)] := hl
  have k1 := hts (.fieldLink RX4 9 "ToneSets$Round" "stops" "I") (List.mem_of_getElem? (i := 1) rfl)
  have k2 := hts (.fieldLink RX4 48 "ToneSets$Shelf" "places" "I") (List.mem_of_getElem? (i := 2) rfl)
  have k3 := hts (.fieldLink RX4 15 "ToneSets$Round" "stopSets" "[I") (List.mem_of_getElem? (i := 3) rfl)
  have uX4 := uX4_X4_listStops
  have uX7 := uX7_X4_listStops
  unfold m_Round_listStops at hm
  refine lv_aload_n hx hb dX4_listStops_0 rfl (lv_at hl 0 rfl) ?_
  refine lv_iconst (v := 0) hx hb dX4_listStops_1 (by decide) ?_
  refine lv_topi (fun f_t_stops_1 ef_t_stops_1 => ?_)
  replace hm := lt_go ef_t_stops_1 hm
  refine my_put (W' := [(h_p1, .inr (6, [.int f_p1_size, .int f_p1_places, .int f_p1_drawn, .ref h_p1_sets])), (h_t, .inr (3, [.int f_t_stops_1, .ref h_t_stopSets, .ref h_t_lengths, .ref h_t_best])), (h_p1_sets, .inl (cA, 8, .inl f_p1_sets)), (h_t_stopSets, .inl (cA, 8, .inl f_t_stopSets))]) (ci := 3) (v := .int f_t_stops_1) (ty := .int) (C := RX4) (T := TX4) (N := 4) hx hb hts uX4 tyX4 tyX4_ok nmX4 hown hK hP hD hS 1 rfl rfl 0 (by decide) k1 (fun _ h9 => h9) rfl (by decide +kernel) rfl rfl (Nat.le_of_ble_eq_true rfl) dX4_listStops_2 rfl (fun H locs hP hD hS => ?_)
  refine lv_iconst (v := 0) hx hb dX4_listStops_5 (by decide) ?_
  refine lv_topi (fun v2_1 ev2_1 => ?_)
  replace hm := lt_go ev2_1 hm
  refine lv_istore_n (lv' := [(2, .int v2_1), (0, .ref h_t), (1, .ref h_p1)]) hx hb dX4_listStops_6 rfl hl (by decide) rfl (fun ls hl => ?_)
  have L7 : ∀ (n : Nat) (v2_2 : Int32) (f_t_stopSets_1 : Nat → Int32) (f_t_stops_2 : Int32) (f_t_stopSets_2 : Nat → Int32) (f_t_stops_3 : Int32), m_Round_listStops_L7 f_p1_places f_p1_sets n v2_2 f_t_stopSets_1 f_t_stops_2 = some (f_t_stopSets_2, f_t_stops_3) → ∀ (H : Heap) (locs : List Loc), va_P (dC, dI) vwCl [(h_p1, .inr (6, [.int f_p1_size, .int f_p1_places, .int f_p1_drawn, .ref h_p1_sets])), (h_t, .inr (3, [.int f_t_stops_2, .ref h_t_stopSets, .ref h_t_lengths, .ref h_t_best])), (h_p1_sets, .inl (cA, 8, .inl f_p1_sets)), (h_t_stopSets, .inl (cA, 8, .inl f_t_stopSets_1))] H → va_D A [(h_p1, .inr (6, [.int f_p1_size, .int f_p1_places, .int f_p1_drawn, .ref h_p1_sets])), (h_t, .inr (3, [.int f_t_stops_2, .ref h_t_stopSets, .ref h_t_lengths, .ref h_t_best])), (h_p1_sets, .inl (cA, 8, .inl f_p1_sets)), (h_t_stopSets, .inl (cA, 8, .inl f_t_stopSets_1))] → va_S A s.heap H locs → ∀ ls : Array Slot, lv_has ls 3 [(0, .ref h_t), (1, .ref h_p1), (2, .int v2_2)] → (∀ (H : Heap) (locs : List Loc), va_P (dC, dI) vwCl [(h_p1, .inr (6, [.int f_p1_size, .int f_p1_places, .int f_p1_drawn, .ref h_p1_sets])), (h_t, .inr (3, [.int f_t_stops_3, .ref h_t_stopSets, .ref h_t_lengths, .ref h_t_best])), (h_p1_sets, .inl (cA, 8, .inl f_p1_sets)), (h_t_stopSets, .inl (cA, 8, .inl f_t_stopSets_2))] H → va_D A [(h_p1, .inr (6, [.int f_p1_size, .int f_p1_places, .int f_p1_drawn, .ref h_p1_sets])), (h_t, .inr (3, [.int f_t_stops_3, .ref h_t_stopSets, .ref h_t_lengths, .ref h_t_best])), (h_p1_sets, .inl (cA, 8, .inl f_p1_sets)), (h_t_stopSets, .inl (cA, 8, .inl f_t_stopSets_2))] → va_S A s.heap H locs → ∀ ls : Array Slot, lv_has ls 3 [] → W p l e (headSpec wsX4_listStops rmX4_listStops).room s m (([.ref h_t, .ref h_p1] : List Value).toArray) below meth c H locs 0 0 Q (F0 m 59 ls [])) → W p l e (headSpec wsX4_listStops rmX4_listStops).room s m (([.ref h_t, .ref h_p1] : List Value).toArray) below meth c H locs 0 0 Q (F0 m 7 ls []) := by
    clear hm hP hD hS hl
    intro n
    induction n with
    | zero => intro _ _ _ _ _ hm; exact nomatch (show none = some _ from hm)
    | succ n ih =>
      intro v2_2 f_t_stopSets_1 f_t_stops_2 f_t_stopSets_2 f_t_stops_3 hm H locs hP hD hS ls hl KK
      unfold m_Round_listStops_L7 at hm
      refine lv_iload_n hx hb dX4_listStops_7 rfl (lv_at hl 2 rfl) ?_
      refine lv_aload_n hx hb dX4_listStops_8 rfl (lv_at hl 1 rfl) ?_
      refine va_get (D := (dC, dI)) (ci := 6) (v := .int f_p1_places) (C := RX7) (T := TX7) (N := 4) hx hb hts uX7 hown hK hP 0 rfl rfl 1 (by decide) k2 (fun _ h9 => h9) rfl dX4_listStops_9 ?_
      refine lv_icmp_ge (tgt := 59) hx hb dX4_listStops_12 (by decide) (fun c12 => ?_) (fun c12 => ?_)
      · replace hm := if_t c12 hm
        cases hm
        exact KK _ _ hP hD hS _ (lv_sub hl [] rfl)
      · replace hm := if_f c12 hm
        refine lv_iload_n hx hb dX4_listStops_15 rfl (lv_at hl 2 rfl) ?_
        refine lv_bipush (v := 8) hx hb dX4_listStops_16 (by decide) ?_
        refine lv_icmp_ge (tgt := 59) hx hb dX4_listStops_18 (by decide) (fun c18 => ?_) (fun c18 => ?_)
        · replace hm := if_t c18 hm
          cases hm
          exact KK _ _ hP hD hS _ (lv_sub hl [] rfl)
        · replace hm := if_f c18 hm
          refine lv_aload_n hx hb dX4_listStops_21 rfl (lv_at hl 1 rfl) ?_
          refine lv_iload_n hx hb dX4_listStops_22 rfl (lv_at hl 2 rfl) ?_
          obtain ⟨r_1, hc23, hm⟩ := bd1_go hm
          refine my_cVi (As := [.int v2_2]) (rest := []) (WC := [(h_p1, .inr (6, [.int f_p1_size, .int f_p1_places, .int f_p1_drawn, .ref h_p1_sets])), (h_p1_sets, .inl (cA, 8, .inl f_p1_sets))]) (WC' := [(h_p1, .inr (6, [.int f_p1_size, .int f_p1_places, .int f_p1_drawn, .ref h_p1_sets])), (h_p1_sets, .inl (cA, 8, .inl f_p1_sets))]) (WR := [(h_t, .inr (3, [.int f_t_stops_2, .ref h_t_stopSets, .ref h_t_lengths, .ref h_t_best])), (h_t_stopSets, .inl (cA, 8, .inl f_t_stopSets_1))]) (W' := [(h_p1, .inr (6, [.int f_p1_size, .int f_p1_places, .int f_p1_drawn, .ref h_p1_sets])), (h_t, .inr (3, [.int f_t_stops_2, .ref h_t_stopSets, .ref h_t_lengths, .ref h_t_best])), (h_p1_sets, .inl (cA, 8, .inl f_p1_sets)), (h_t_stopSets, .inl (cA, 8, .inl f_t_stopSets_1))]) ⟨hx, hb, hml, hown, hts⟩ hK hP hD hS hA (c_Shelf_setAt l dC dI cA h_p1 h_p1_sets f_p1_size f_p1_places f_p1_drawn f_p1_sets v2_2 r_1 hc23) (cwV 1 hts gX4_listStops_X7_setAt rfl rfl rfl (by decide +kernel) ⟨Nat.le_of_ble_eq_true rfl, Nat.le_of_ble_eq_true rfl⟩) [0, 2] [1, 3] [2, 0, 3, 1] rfl rfl rfl rfl (ci := 6) (q0 := 0) rfl rfl rfl rfl hl.1 (Nat.le_of_ble_eq_true rfl) dX4_listStops_23 ⟨Nat.zero_le _, Nat.zero_le _⟩ (fun H locs hP hD hS => ?_)
          obtain ⟨f_t_stopSets_3, f_t_stops_4, hqJ_1, hm⟩ := bd2_go hm
          have J_1 : ∀ (H : Heap) (locs : List Loc), va_P (dC, dI) vwCl [(h_p1, .inr (6, [.int f_p1_size, .int f_p1_places, .int f_p1_drawn, .ref h_p1_sets])), (h_t, .inr (3, [.int f_t_stops_4, .ref h_t_stopSets, .ref h_t_lengths, .ref h_t_best])), (h_p1_sets, .inl (cA, 8, .inl f_p1_sets)), (h_t_stopSets, .inl (cA, 8, .inl f_t_stopSets_3))] H → va_D A [(h_p1, .inr (6, [.int f_p1_size, .int f_p1_places, .int f_p1_drawn, .ref h_p1_sets])), (h_t, .inr (3, [.int f_t_stops_4, .ref h_t_stopSets, .ref h_t_lengths, .ref h_t_best])), (h_p1_sets, .inl (cA, 8, .inl f_p1_sets)), (h_t_stopSets, .inl (cA, 8, .inl f_t_stopSets_3))] → va_S A s.heap H locs → ∀ ls : Array Slot, lv_has ls 3 [(0, .ref h_t), (1, .ref h_p1), (2, .int v2_2)] → W p l e (headSpec wsX4_listStops rmX4_listStops).room s m (([.ref h_t, .ref h_p1] : List Value).toArray) below meth c H locs 0 0 Q (F0 m 53 ls []) := by
            intro H locs hP hD hS ls hl
            clear hqJ_1
            obtain ⟨v2_3, ev2_3⟩ : ∃ z : Int32, z = v2_2 + 1 := ⟨_, rfl⟩
            replace hm := lt_go ev2_3 hm
            refine lv_iinc (v := v2_3) (lv' := [(2, .int v2_3), (0, .ref h_t), (1, .ref h_p1)]) hx hb dX4_listStops_53 hl (k := 2) rfl (by rw [ev2_3]; rfl) (by decide) rfl (fun ls hl => ?_)
            refine lv_goto (tgt := 7) hx hb dX4_listStops_56 (by decide) ?_
            exact ih _ _ _ _ _ hm _ _ hP hD hS _ (lv_sub hl [1, 2, 0] rfl) KK
          clear hm
          refine lv_if_eq (tgt := 53) hx hb dX4_listStops_26 (by decide) (fun c26 => ?_) (fun c26 => ?_)
          · replace hqJ_1 := if_t c26 hqJ_1
            cases hqJ_1
            exact J_1 _ _ hP hD hS _ (lv_sub hl [0, 1, 2] rfl)
          · replace hqJ_1 := if_f c26 hqJ_1
            refine lv_aload_n hx hb dX4_listStops_29 rfl (lv_at hl 0 rfl) ?_
            refine va_get (D := (dC, dI)) (ci := 3) (v := .ref h_t_stopSets) (C := RX4) (T := TX4) (N := 4) hx hb hts uX4 hown hK hP 1 rfl rfl 1 (by decide) k3 (fun _ h9 => h9) rfl dX4_listStops_30 ?_
            refine lv_aload_n hx hb dX4_listStops_33 rfl (lv_at hl 0 rfl) ?_
            refine va_get (D := (dC, dI)) (ci := 3) (v := .int f_t_stops_2) (C := RX4) (T := TX4) (N := 4) hx hb hts uX4 hown hK hP 1 rfl rfl 0 (by decide) k1 (fun _ h9 => h9) rfl dX4_listStops_34 ?_
            refine lv_aload_n hx hb dX4_listStops_37 rfl (lv_at hl 1 rfl) ?_
            refine lv_iload_n hx hb dX4_listStops_38 rfl (lv_at hl 2 rfl) ?_
            obtain ⟨r_2, hc39, hqJ_1⟩ := bd1_go hqJ_1
            refine my_cVi (As := [.int v2_2]) (rest := [.int f_t_stops_2, .ref h_t_stopSets]) (WC := [(h_p1, .inr (6, [.int f_p1_size, .int f_p1_places, .int f_p1_drawn, .ref h_p1_sets])), (h_p1_sets, .inl (cA, 8, .inl f_p1_sets))]) (WC' := [(h_p1, .inr (6, [.int f_p1_size, .int f_p1_places, .int f_p1_drawn, .ref h_p1_sets])), (h_p1_sets, .inl (cA, 8, .inl f_p1_sets))]) (WR := [(h_t, .inr (3, [.int f_t_stops_2, .ref h_t_stopSets, .ref h_t_lengths, .ref h_t_best])), (h_t_stopSets, .inl (cA, 8, .inl f_t_stopSets_1))]) (W' := [(h_p1, .inr (6, [.int f_p1_size, .int f_p1_places, .int f_p1_drawn, .ref h_p1_sets])), (h_t, .inr (3, [.int f_t_stops_2, .ref h_t_stopSets, .ref h_t_lengths, .ref h_t_best])), (h_p1_sets, .inl (cA, 8, .inl f_p1_sets)), (h_t_stopSets, .inl (cA, 8, .inl f_t_stopSets_1))]) ⟨hx, hb, hml, hown, hts⟩ hK hP hD hS hA (c_Shelf_setAt l dC dI cA h_p1 h_p1_sets f_p1_size f_p1_places f_p1_drawn f_p1_sets v2_2 r_2 hc39) (cwV 1 hts gX4_listStops_X7_setAt rfl rfl rfl (by decide +kernel) ⟨Nat.le_of_ble_eq_true rfl, Nat.le_of_ble_eq_true rfl⟩) [0, 2] [1, 3] [2, 0, 3, 1] rfl rfl rfl rfl (ci := 6) (q0 := 0) rfl rfl rfl rfl hl.1 (Nat.le_of_ble_eq_true rfl) dX4_listStops_39 ⟨Nat.zero_le _, Nat.zero_le _⟩ (fun H locs hP hD hS => ?_)
            obtain ⟨b42, hqJ_1⟩ := ck_go hqJ_1
            refine my_iast (W' := fun z' => [(h_p1, .inr (6, [.int f_p1_size, .int f_p1_places, .int f_p1_drawn, .ref h_p1_sets])), (h_t, .inr (3, [.int f_t_stops_2, .ref h_t_stopSets, .ref h_t_lengths, .ref h_t_best])), (h_p1_sets, .inl (cA, 8, .inl f_p1_sets)), (h_t_stopSets, .inl (cA, 8, .inl z'))]) hx hb hK hP hD hS 3 0 rfl rfl b42 dX4_listStops_42 (fun _ => rfl) (fun f_t_stopSets_4 ef_t_stopSets_4 H locs hP hD hS => ?_)
            replace hqJ_1 := lt_go ef_t_stopSets_4 hqJ_1
            refine lv_aload_n hx hb dX4_listStops_43 rfl (lv_at hl 0 rfl) ?_
            refine lv_dup hx hb dX4_listStops_44 rfl ?_
            refine va_get (D := (dC, dI)) (ci := 3) (v := .int f_t_stops_2) (C := RX4) (T := TX4) (N := 4) hx hb hts uX4 hown hK hP 1 rfl rfl 0 (by decide) k1 (fun _ h9 => h9) rfl dX4_listStops_45 ?_
            refine lv_iconst (v := 1) hx hb dX4_listStops_48 (by decide) ?_
            refine lv_iadd hx hb dX4_listStops_49 ?_
            refine lv_topi (fun f_t_stops_5 ef_t_stops_5 => ?_)
            replace hqJ_1 := lt_go ef_t_stops_5 hqJ_1
            refine my_put (W' := [(h_p1, .inr (6, [.int f_p1_size, .int f_p1_places, .int f_p1_drawn, .ref h_p1_sets])), (h_t, .inr (3, [.int f_t_stops_5, .ref h_t_stopSets, .ref h_t_lengths, .ref h_t_best])), (h_p1_sets, .inl (cA, 8, .inl f_p1_sets)), (h_t_stopSets, .inl (cA, 8, .inl f_t_stopSets_4))]) (ci := 3) (v := .int f_t_stops_5) (ty := .int) (C := RX4) (T := TX4) (N := 4) hx hb hts uX4 tyX4 tyX4_ok nmX4 hown hK hP hD hS 1 rfl rfl 0 (by decide) k1 (fun _ h9 => h9) rfl (by decide +kernel) rfl rfl (Nat.le_of_ble_eq_true rfl) dX4_listStops_50 rfl (fun H locs hP hD hS => ?_)
            cases hqJ_1
            exact J_1 _ _ hP hD hS _ (lv_sub hl [0, 1, 2] rfl)
  obtain ⟨f_t_stopSets_5, f_t_stops_6, hl7, hm⟩ := bd2_go hm
  refine L7 _ _ _ _ _ _ hl7 _ _ hP hD hS _ (lv_sub hl [1, 2, 0] rfl) (fun H locs hP hD hS ls hl => ?_)
  cases hm
  exact W_mono hQ (W.vret hx hb hr (fun t ht hW => ⟨⟨(), rfl, trivial, by rw [ht]; exact hP, va_K.moved hW.alike hK, hD⟩, hS.F ht⟩) hS.2.2 dX4_listStops_59)
abbrev rmX4_measure : Room := { frames := 4, cells := 0, slots := 0, locals := 97 }
theorem uX4_X4_measure : ∀ w ∈ wsX40, w ∈ wsX4_measure := fun _ h => List.mem_cons_of_mem _ (List.mem_append_left _ (List.mem_append_right _ (h)))
set_option maxHeartbeats 40000000 in
set_option maxRecDepth 100000 in
theorem c_Round_measure (l : Launch) (dC : Nat → ClassId) (dI : Nat → Nat → Nat) (cA : ClassId) (fu : Nat) (h_p2 h_t h_p2_goalTones h_p2_goerTones h_p2_extra h_p2_goalPrices h_p2_goerPrices h_p2_goalOfGoer h_p2_cameFrom h_p2_slack h_t_stopSets h_t_lengths h_t_best : Nat) (f_p2_nearestNumber : Int32) (f_p2_nearestLength : Int32) (f_p2_goals : Int32) (f_p2_goers : Int32) (f_p2_reached : Int32) (f_t_stops : Int32) (f_p2_cameFrom : Nat → Int32) (f_p2_extra : Nat → Int32) (f_p2_goalOfGoer : Nat → Int32) (f_p2_goalPrices : Nat → Int32) (f_p2_goalTones : Nat → Int32) (f_p2_goerPrices : Nat → Int32) (f_p2_goerTones : Nat → Int32) (f_p2_slack : Nat → Int32) (f_t_lengths : Nat → Int32) (f_t_stopSets : Nat → Int32) (a1 : Int32) (f_p2_cameFrom_z : Nat → Int32) (f_p2_extra_z : Nat → Int32) (f_p2_goalOfGoer_z : Nat → Int32) (f_p2_goalPrices_z : Nat → Int32) (f_p2_goalTones_z : Nat → Int32) (f_p2_goals_z : Int32) (f_p2_goerPrices_z : Nat → Int32) (f_p2_goerTones_z : Nat → Int32) (f_p2_goers_z : Int32) (f_p2_reached_z : Int32) (f_p2_slack_z : Nat → Int32) (f_t_lengths_z : Nat → Int32) (hm : m_Round_measure fu f_p2_cameFrom f_p2_extra f_p2_goalOfGoer f_p2_goalPrices f_p2_goalTones f_p2_goals f_p2_goerPrices f_p2_goerTones f_p2_goers f_p2_reached f_p2_slack f_t_lengths f_t_stopSets f_t_stops a1 = some (f_p2_cameFrom_z, f_p2_extra_z, f_p2_goalOfGoer_z, f_p2_goalPrices_z, f_p2_goalTones_z, f_p2_goals_z, f_p2_goerPrices_z, f_p2_goerTones_z, f_p2_goers_z, f_p2_reached_z, f_p2_slack_z, f_t_lengths_z)) (sz : Nat) : Met l yX4_measure wsX4_measure rmX4_measure (mPre (dC, dI) cA [.ref h_t, .int a1, .ref h_p2] sz [(h_p2, .inr (8, [.int f_p2_nearestNumber, .int f_p2_nearestLength, .int f_p2_goals, .int f_p2_goers, .int f_p2_reached, .ref h_p2_goalTones, .ref h_p2_goerTones, .ref h_p2_extra, .ref h_p2_goalPrices, .ref h_p2_goerPrices, .ref h_p2_goalOfGoer, .ref h_p2_cameFrom, .ref h_p2_slack])), (h_t, .inr (3, [.int f_t_stops, .ref h_t_stopSets, .ref h_t_lengths, .ref h_t_best])), (h_p2_cameFrom, .inl (cA, 13, .inl f_p2_cameFrom)), (h_p2_extra, .inl (cA, 169, .inl f_p2_extra)), (h_p2_goalOfGoer, .inl (cA, 13, .inl f_p2_goalOfGoer)), (h_p2_goalPrices, .inl (cA, 13, .inl f_p2_goalPrices)), (h_p2_goalTones, .inl (cA, 13, .inl f_p2_goalTones)), (h_p2_goerPrices, .inl (cA, 13, .inl f_p2_goerPrices)), (h_p2_goerTones, .inl (cA, 13, .inl f_p2_goerTones)), (h_p2_slack, .inl (cA, 13, .inl f_p2_slack)), (h_t_lengths, .inl (cA, 64, .inl f_t_lengths)), (h_t_stopSets, .inl (cA, 8, .inl f_t_stopSets))]) (mPosV (dC, dI) cA (va_A [(h_p2, .inr (8, [.int f_p2_nearestNumber, .int f_p2_nearestLength, .int f_p2_goals, .int f_p2_goers, .int f_p2_reached, .ref h_p2_goalTones, .ref h_p2_goerTones, .ref h_p2_extra, .ref h_p2_goalPrices, .ref h_p2_goerPrices, .ref h_p2_goalOfGoer, .ref h_p2_cameFrom, .ref h_p2_slack])), (h_t, .inr (3, [.int f_t_stops, .ref h_t_stopSets, .ref h_t_lengths, .ref h_t_best])), (h_p2_cameFrom, .inl (cA, 13, .inl f_p2_cameFrom)), (h_p2_extra, .inl (cA, 169, .inl f_p2_extra)), (h_p2_goalOfGoer, .inl (cA, 13, .inl f_p2_goalOfGoer)), (h_p2_goalPrices, .inl (cA, 13, .inl f_p2_goalPrices)), (h_p2_goalTones, .inl (cA, 13, .inl f_p2_goalTones)), (h_p2_goerPrices, .inl (cA, 13, .inl f_p2_goerPrices)), (h_p2_goerTones, .inl (cA, 13, .inl f_p2_goerTones)), (h_p2_slack, .inl (cA, 13, .inl f_p2_slack)), (h_t_lengths, .inl (cA, 64, .inl f_t_lengths)), (h_t_stopSets, .inl (cA, 8, .inl f_t_stopSets))] sz) [(h_p2, .inr (8, [.int f_p2_nearestNumber, .int f_p2_nearestLength, .int f_p2_goals_z, .int f_p2_goers_z, .int f_p2_reached_z, .ref h_p2_goalTones, .ref h_p2_goerTones, .ref h_p2_extra, .ref h_p2_goalPrices, .ref h_p2_goerPrices, .ref h_p2_goalOfGoer, .ref h_p2_cameFrom, .ref h_p2_slack])), (h_t, .inr (3, [.int f_t_stops, .ref h_t_stopSets, .ref h_t_lengths, .ref h_t_best])), (h_p2_cameFrom, .inl (cA, 13, .inl f_p2_cameFrom_z)), (h_p2_extra, .inl (cA, 169, .inl f_p2_extra_z)), (h_p2_goalOfGoer, .inl (cA, 13, .inl f_p2_goalOfGoer_z)), (h_p2_goalPrices, .inl (cA, 13, .inl f_p2_goalPrices_z)), (h_p2_goalTones, .inl (cA, 13, .inl f_p2_goalTones_z)), (h_p2_goerPrices, .inl (cA, 13, .inl f_p2_goerPrices_z)), (h_p2_goerTones, .inl (cA, 13, .inl f_p2_goerTones_z)), (h_p2_slack, .inl (cA, 13, .inl f_p2_slack_z)), (h_t_lengths, .inl (cA, 64, .inl f_t_lengths_z)), (h_t_stopSets, .inl (cA, 8, .inl f_t_stopSets))]) 0 0 (va_A [(h_p2, .inr (8, [.int f_p2_nearestNumber, .int f_p2_nearestLength, .int f_p2_goals, .int f_p2_goers, .int f_p2_reached, .ref h_p2_goalTones, .ref h_p2_goerTones, .ref h_p2_extra, .ref h_p2_goalPrices, .ref h_p2_goerPrices, .ref h_p2_goalOfGoer, .ref h_p2_cameFrom, .ref h_p2_slack])), (h_t, .inr (3, [.int f_t_stops, .ref h_t_stopSets, .ref h_t_lengths, .ref h_t_best])), (h_p2_cameFrom, .inl (cA, 13, .inl f_p2_cameFrom)), (h_p2_extra, .inl (cA, 169, .inl f_p2_extra)), (h_p2_goalOfGoer, .inl (cA, 13, .inl f_p2_goalOfGoer)), (h_p2_goalPrices, .inl (cA, 13, .inl f_p2_goalPrices)), (h_p2_goalTones, .inl (cA, 13, .inl f_p2_goalTones)), (h_p2_goerPrices, .inl (cA, 13, .inl f_p2_goerPrices)), (h_p2_goerTones, .inl (cA, 13, .inl f_p2_goerTones)), (h_p2_slack, .inl (cA, 13, .inl f_p2_slack)), (h_t_lengths, .inl (cA, 64, .inl f_t_lengths)), (h_t_stopSets, .inl (cA, 8, .inl f_t_stopSets))] sz) := by
  refine Met.ofW (cc := cX4_measure) (maxL := 6) (ret := none) (by decide) rfl ?_
  intro p e s m args below meth c s₁ B hml hv
  obtain ⟨rfl, hsz, hP, hK, hD0⟩ := hv
  refine W_gen (fun Q hQ => ?_)
  have hx := B.exec
  have hb := B.bytes
  have hr := B.returns
  have hts := atoms_spec (ws := wsX4_measure) B.pre
  have hown : s.vm.findClass RX4 = some m.cls := findClass_of_methodNamed B.named
  have hlocks := B.notSynchronized
  subst hsz
  have hD := hD0.self (sz := s.heap.size)
  clear hD0
  generalize hAe : va_A [(h_p2, .inr (8, [.int f_p2_nearestNumber, .int f_p2_nearestLength, .int f_p2_goals, .int f_p2_goers, .int f_p2_reached, .ref h_p2_goalTones, .ref h_p2_goerTones, .ref h_p2_extra, .ref h_p2_goalPrices, .ref h_p2_goerPrices, .ref h_p2_goalOfGoer, .ref h_p2_cameFrom, .ref h_p2_slack])), (h_t, .inr (3, [.int f_t_stops, .ref h_t_stopSets, .ref h_t_lengths, .ref h_t_best])), (h_p2_cameFrom, .inl (cA, 13, .inl f_p2_cameFrom)), (h_p2_extra, .inl (cA, 169, .inl f_p2_extra)), (h_p2_goalOfGoer, .inl (cA, 13, .inl f_p2_goalOfGoer)), (h_p2_goalPrices, .inl (cA, 13, .inl f_p2_goalPrices)), (h_p2_goalTones, .inl (cA, 13, .inl f_p2_goalTones)), (h_p2_goerPrices, .inl (cA, 13, .inl f_p2_goerPrices)), (h_p2_goerTones, .inl (cA, 13, .inl f_p2_goerTones)), (h_p2_slack, .inl (cA, 13, .inl f_p2_slack)), (h_t_lengths, .inl (cA, 64, .inl f_t_lengths)), (h_t_stopSets, .inl (cA, 8, .inl f_t_stopSets))] s.heap.size = A at hD hQ
  have hA : ∀ q : Nat, s.heap.size ≤ q → A q := fun q h => by rw [← hAe]; exact Or.inr h
  clear hAe
  have hS : va_S A s.heap s.heap [] := va_S.rf
  have hl := lv_entry ([.ref h_t, .int a1, .ref h_p2]) (n := 6) (Nat.le_of_ble_eq_true rfl)
  rw [lg_entry_eq]
  generalize (lg_sl ([.ref h_t, .int a1, .ref h_p2]) ++ List.replicate (6 - (lg_sl ([.ref h_t, .int a1, .ref h_p2])).length) Slot.unset).toArray = ls at hl ⊢
  have hl : lv_has ls 6 [(0, .ref h_t), (1, .int a1), (2, .ref h_p2)] := hl
  have k1 := hts (.fieldLink RX4 9 "ToneSets$Round" "stops" "I") (List.mem_of_getElem? (i := 1) rfl)
  have k2 := hts (.fieldLink RX4 15 "ToneSets$Round" "stopSets" "[I") (List.mem_of_getElem? (i := 2) rfl)
  have k3 := hts (.fieldLink RX4 19 "ToneSets$Round" "lengths" "[I") (List.mem_of_getElem? (i := 3) rfl)
  have uX4 := uX4_X4_measure
  unfold m_Round_measure at hm
  refine lv_iconst (v := 0) hx hb dX4_measure_0 (by decide) ?_
  refine lv_topi (fun v3_1 ev3_1 => ?_)
  replace hm := lt_go ev3_1 hm
  refine lv_istore_n (lv' := [(3, .int v3_1), (0, .ref h_t), (1, .int a1), (2, .ref h_p2)]) hx hb dX4_measure_1 rfl hl (by decide) rfl (fun ls hl => ?_)
  have L2 : ∀ (n : Nat) (v3_2 : Int32) (f_p2_cameFrom_1 : Nat → Int32) (f_p2_extra_1 : Nat → Int32) (f_p2_goalOfGoer_1 : Nat → Int32) (f_p2_goalPrices_1 : Nat → Int32) (f_p2_goalTones_1 : Nat → Int32) (f_p2_goals_1 : Int32) (f_p2_goerPrices_1 : Nat → Int32) (f_p2_goerTones_1 : Nat → Int32) (f_p2_goers_1 : Int32) (f_p2_reached_1 : Int32) (f_p2_slack_1 : Nat → Int32) (f_t_lengths_1 : Nat → Int32) (f_p2_cameFrom_2 : Nat → Int32) (f_p2_extra_2 : Nat → Int32) (f_p2_goalOfGoer_2 : Nat → Int32) (f_p2_goalPrices_2 : Nat → Int32) (f_p2_goalTones_2 : Nat → Int32) (f_p2_goals_2 : Int32) (f_p2_goerPrices_2 : Nat → Int32) (f_p2_goerTones_2 : Nat → Int32) (f_p2_goers_2 : Int32) (f_p2_reached_2 : Int32) (f_p2_slack_2 : Nat → Int32) (f_t_lengths_2 : Nat → Int32), m_Round_measure_L2 fu f_t_stops f_t_stopSets a1 n v3_2 f_p2_cameFrom_1 f_p2_extra_1 f_p2_goalOfGoer_1 f_p2_goalPrices_1 f_p2_goalTones_1 f_p2_goals_1 f_p2_goerPrices_1 f_p2_goerTones_1 f_p2_goers_1 f_p2_reached_1 f_p2_slack_1 f_t_lengths_1 = some (f_p2_cameFrom_2, f_p2_extra_2, f_p2_goalOfGoer_2, f_p2_goalPrices_2, f_p2_goalTones_2, f_p2_goals_2, f_p2_goerPrices_2, f_p2_goerTones_2, f_p2_goers_2, f_p2_reached_2, f_p2_slack_2, f_t_lengths_2) → ∀ (H : Heap) (locs : List Loc), va_P (dC, dI) vwCl [(h_p2, .inr (8, [.int f_p2_nearestNumber, .int f_p2_nearestLength, .int f_p2_goals_1, .int f_p2_goers_1, .int f_p2_reached_1, .ref h_p2_goalTones, .ref h_p2_goerTones, .ref h_p2_extra, .ref h_p2_goalPrices, .ref h_p2_goerPrices, .ref h_p2_goalOfGoer, .ref h_p2_cameFrom, .ref h_p2_slack])), (h_t, .inr (3, [.int f_t_stops, .ref h_t_stopSets, .ref h_t_lengths, .ref h_t_best])), (h_p2_cameFrom, .inl (cA, 13, .inl f_p2_cameFrom_1)), (h_p2_extra, .inl (cA, 169, .inl f_p2_extra_1)), (h_p2_goalOfGoer, .inl (cA, 13, .inl f_p2_goalOfGoer_1)), (h_p2_goalPrices, .inl (cA, 13, .inl f_p2_goalPrices_1)), (h_p2_goalTones, .inl (cA, 13, .inl f_p2_goalTones_1)), (h_p2_goerPrices, .inl (cA, 13, .inl f_p2_goerPrices_1)), (h_p2_goerTones, .inl (cA, 13, .inl f_p2_goerTones_1)), (h_p2_slack, .inl (cA, 13, .inl f_p2_slack_1)), (h_t_lengths, .inl (cA, 64, .inl f_t_lengths_1)), (h_t_stopSets, .inl (cA, 8, .inl f_t_stopSets))] H → va_D A [(h_p2, .inr (8, [.int f_p2_nearestNumber, .int f_p2_nearestLength, .int f_p2_goals_1, .int f_p2_goers_1, .int f_p2_reached_1, .ref h_p2_goalTones, .ref h_p2_goerTones, .ref h_p2_extra, .ref h_p2_goalPrices, .ref h_p2_goerPrices, .ref h_p2_goalOfGoer, .ref h_p2_cameFrom, .ref h_p2_slack])), (h_t, .inr (3, [.int f_t_stops, .ref h_t_stopSets, .ref h_t_lengths, .ref h_t_best])), (h_p2_cameFrom, .inl (cA, 13, .inl f_p2_cameFrom_1)), (h_p2_extra, .inl (cA, 169, .inl f_p2_extra_1)), (h_p2_goalOfGoer, .inl (cA, 13, .inl f_p2_goalOfGoer_1)), (h_p2_goalPrices, .inl (cA, 13, .inl f_p2_goalPrices_1)), (h_p2_goalTones, .inl (cA, 13, .inl f_p2_goalTones_1)), (h_p2_goerPrices, .inl (cA, 13, .inl f_p2_goerPrices_1)), (h_p2_goerTones, .inl (cA, 13, .inl f_p2_goerTones_1)), (h_p2_slack, .inl (cA, 13, .inl f_p2_slack_1)), (h_t_lengths, .inl (cA, 64, .inl f_t_lengths_1)), (h_t_stopSets, .inl (cA, 8, .inl f_t_stopSets))] → va_S A s.heap H locs → ∀ ls : Array Slot, lv_has ls 6 [(0, .ref h_t), (1, .int a1), (2, .ref h_p2), (3, .int v3_2)] → (∀ (H : Heap) (locs : List Loc), va_P (dC, dI) vwCl [(h_p2, .inr (8, [.int f_p2_nearestNumber, .int f_p2_nearestLength, .int f_p2_goals_2, .int f_p2_goers_2, .int f_p2_reached_2, .ref h_p2_goalTones, .ref h_p2_goerTones, .ref h_p2_extra, .ref h_p2_goalPrices, .ref h_p2_goerPrices, .ref h_p2_goalOfGoer, .ref h_p2_cameFrom, .ref h_p2_slack])), (h_t, .inr (3, [.int f_t_stops, .ref h_t_stopSets, .ref h_t_lengths, .ref h_t_best])), (h_p2_cameFrom, .inl (cA, 13, .inl f_p2_cameFrom_2)), (h_p2_extra, .inl (cA, 169, .inl f_p2_extra_2)), (h_p2_goalOfGoer, .inl (cA, 13, .inl f_p2_goalOfGoer_2)), (h_p2_goalPrices, .inl (cA, 13, .inl f_p2_goalPrices_2)), (h_p2_goalTones, .inl (cA, 13, .inl f_p2_goalTones_2)), (h_p2_goerPrices, .inl (cA, 13, .inl f_p2_goerPrices_2)), (h_p2_goerTones, .inl (cA, 13, .inl f_p2_goerTones_2)), (h_p2_slack, .inl (cA, 13, .inl f_p2_slack_2)), (h_t_lengths, .inl (cA, 64, .inl f_t_lengths_2)), (h_t_stopSets, .inl (cA, 8, .inl f_t_stopSets))] H → va_D A [(h_p2, .inr (8, [.int f_p2_nearestNumber, .int f_p2_nearestLength, .int f_p2_goals_2, .int f_p2_goers_2, .int f_p2_reached_2, .ref h_p2_goalTones, .ref h_p2_goerTones, .ref h_p2_extra, .ref h_p2_goalPrices, .ref h_p2_goerPrices, .ref h_p2_goalOfGoer, .ref h_p2_cameFrom, .ref h_p2_slack])), (h_t, .inr (3, [.int f_t_stops, .ref h_t_stopSets, .ref h_t_lengths, .ref h_t_best])), (h_p2_cameFrom, .inl (cA, 13, .inl f_p2_cameFrom_2)), (h_p2_extra, .inl (cA, 169, .inl f_p2_extra_2)), (h_p2_goalOfGoer, .inl (cA, 13, .inl f_p2_goalOfGoer_2)), (h_p2_goalPrices, .inl (cA, 13, .inl f_p2_goalPrices_2)), (h_p2_goalTones, .inl (cA, 13, .inl f_p2_goalTones_2)), (h_p2_goerPrices, .inl (cA, 13, .inl f_p2_goerPrices_2)), (h_p2_goerTones, .inl (cA, 13, .inl f_p2_goerTones_2)), (h_p2_slack, .inl (cA, 13, .inl f_p2_slack_2)), (h_t_lengths, .inl (cA, 64, .inl f_t_lengths_2)), (h_t_stopSets, .inl (cA, 8, .inl f_t_stopSets))] → va_S A s.heap H locs → ∀ ls : Array Slot, lv_has ls 6 [] → W p l e (headSpec wsX4_measure rmX4_measure).room s m (([.ref h_t, .int a1, .ref h_p2] : List Value).toArray) below meth c H locs 0 0 Q (F0 m 84 ls [])) → W p l e (headSpec wsX4_measure rmX4_measure).room s m (([.ref h_t, .int a1, .ref h_p2] : List Value).toArray) below meth c H locs 0 0 Q (F0 m 2 ls []) := by
    clear hm hP hD hS hl
    intro n
    induction n with
    | zero => intro _ _ _ _ _ _ _ _ _ _ _ _ _ _ _ _ _ _ _ _ _ _ _ _ _ hm; exact nomatch (show none = some _ from hm)
    | succ n ih =>
      intro v3_2 f_p2_cameFrom_1 f_p2_extra_1 f_p2_goalOfGoer_1 f_p2_goalPrices_1 f_p2_goalTones_1 f_p2_goals_1 f_p2_goerPrices_1 f_p2_goerTones_1 f_p2_goers_1 f_p2_reached_1 f_p2_slack_1 f_t_lengths_1 f_p2_cameFrom_2 f_p2_extra_2 f_p2_goalOfGoer_2 f_p2_goalPrices_2 f_p2_goalTones_2 f_p2_goals_2 f_p2_goerPrices_2 f_p2_goerTones_2 f_p2_goers_2 f_p2_reached_2 f_p2_slack_2 f_t_lengths_2 hm H locs hP hD hS ls hl KK
      unfold m_Round_measure_L2 at hm
      refine lv_iload_n hx hb dX4_measure_2 rfl (lv_at hl 3 rfl) ?_
      refine lv_aload_n hx hb dX4_measure_3 rfl (lv_at hl 0 rfl) ?_
      refine va_get (D := (dC, dI)) (ci := 3) (v := .int f_t_stops) (C := RX4) (T := TX4) (N := 4) hx hb hts uX4 hown hK hP 1 rfl rfl 0 (by decide) k1 (fun _ h9 => h9) rfl dX4_measure_4 ?_
      refine lv_icmp_ge (tgt := 84) hx hb dX4_measure_7 (by decide) (fun c7 => ?_) (fun c7 => ?_)
      · replace hm := if_t c7 hm
        cases hm
        exact KK _ _ hP hD hS _ (lv_sub hl [] rfl)
      · replace hm := if_f c7 hm
        refine lv_iload_n hx hb dX4_measure_10 rfl (lv_at hl 3 rfl) ?_
        refine lv_iconst (v := 1) hx hb dX4_measure_11 (by decide) ?_
        refine lv_iadd hx hb dX4_measure_12 ?_
        refine lv_topi (fun v4_1 ev4_1 => ?_)
        replace hm := lt_go ev4_1 hm
        refine lv_istore (lv' := [(4, .int v4_1), (0, .ref h_t), (1, .int a1), (2, .ref h_p2), (3, .int v3_2)]) hx hb dX4_measure_13 hl (by decide) rfl (fun ls hl => ?_)
        have L15 : ∀ (n : Nat) (v4_2 : Int32) (f_p2_cameFrom_3 : Nat → Int32) (f_p2_extra_3 : Nat → Int32) (f_p2_goalOfGoer_3 : Nat → Int32) (f_p2_goalPrices_3 : Nat → Int32) (f_p2_goalTones_3 : Nat → Int32) (f_p2_goals_3 : Int32) (f_p2_goerPrices_3 : Nat → Int32) (f_p2_goerTones_3 : Nat → Int32) (f_p2_goers_3 : Int32) (f_p2_reached_3 : Int32) (f_p2_slack_3 : Nat → Int32) (f_t_lengths_3 : Nat → Int32) (f_p2_cameFrom_4 : Nat → Int32) (f_p2_extra_4 : Nat → Int32) (f_p2_goalOfGoer_4 : Nat → Int32) (f_p2_goalPrices_4 : Nat → Int32) (f_p2_goalTones_4 : Nat → Int32) (f_p2_goals_4 : Int32) (f_p2_goerPrices_4 : Nat → Int32) (f_p2_goerTones_4 : Nat → Int32) (f_p2_goers_4 : Int32) (f_p2_reached_4 : Int32) (f_p2_slack_4 : Nat → Int32) (f_t_lengths_4 : Nat → Int32), m_Round_measure_L15 fu f_t_stops v3_2 f_t_stopSets a1 n v4_2 f_p2_cameFrom_3 f_p2_extra_3 f_p2_goalOfGoer_3 f_p2_goalPrices_3 f_p2_goalTones_3 f_p2_goals_3 f_p2_goerPrices_3 f_p2_goerTones_3 f_p2_goers_3 f_p2_reached_3 f_p2_slack_3 f_t_lengths_3 = some (f_p2_cameFrom_4, f_p2_extra_4, f_p2_goalOfGoer_4, f_p2_goalPrices_4, f_p2_goalTones_4, f_p2_goals_4, f_p2_goerPrices_4, f_p2_goerTones_4, f_p2_goers_4, f_p2_reached_4, f_p2_slack_4, f_t_lengths_4) → ∀ (H : Heap) (locs : List Loc), va_P (dC, dI) vwCl [(h_p2, .inr (8, [.int f_p2_nearestNumber, .int f_p2_nearestLength, .int f_p2_goals_3, .int f_p2_goers_3, .int f_p2_reached_3, .ref h_p2_goalTones, .ref h_p2_goerTones, .ref h_p2_extra, .ref h_p2_goalPrices, .ref h_p2_goerPrices, .ref h_p2_goalOfGoer, .ref h_p2_cameFrom, .ref h_p2_slack])), (h_t, .inr (3, [.int f_t_stops, .ref h_t_stopSets, .ref h_t_lengths, .ref h_t_best])), (h_p2_cameFrom, .inl (cA, 13, .inl f_p2_cameFrom_3)), (h_p2_extra, .inl (cA, 169, .inl f_p2_extra_3)), (h_p2_goalOfGoer, .inl (cA, 13, .inl f_p2_goalOfGoer_3)), (h_p2_goalPrices, .inl (cA, 13, .inl f_p2_goalPrices_3)), (h_p2_goalTones, .inl (cA, 13, .inl f_p2_goalTones_3)), (h_p2_goerPrices, .inl (cA, 13, .inl f_p2_goerPrices_3)), (h_p2_goerTones, .inl (cA, 13, .inl f_p2_goerTones_3)), (h_p2_slack, .inl (cA, 13, .inl f_p2_slack_3)), (h_t_lengths, .inl (cA, 64, .inl f_t_lengths_3)), (h_t_stopSets, .inl (cA, 8, .inl f_t_stopSets))] H → va_D A [(h_p2, .inr (8, [.int f_p2_nearestNumber, .int f_p2_nearestLength, .int f_p2_goals_3, .int f_p2_goers_3, .int f_p2_reached_3, .ref h_p2_goalTones, .ref h_p2_goerTones, .ref h_p2_extra, .ref h_p2_goalPrices, .ref h_p2_goerPrices, .ref h_p2_goalOfGoer, .ref h_p2_cameFrom, .ref h_p2_slack])), (h_t, .inr (3, [.int f_t_stops, .ref h_t_stopSets, .ref h_t_lengths, .ref h_t_best])), (h_p2_cameFrom, .inl (cA, 13, .inl f_p2_cameFrom_3)), (h_p2_extra, .inl (cA, 169, .inl f_p2_extra_3)), (h_p2_goalOfGoer, .inl (cA, 13, .inl f_p2_goalOfGoer_3)), (h_p2_goalPrices, .inl (cA, 13, .inl f_p2_goalPrices_3)), (h_p2_goalTones, .inl (cA, 13, .inl f_p2_goalTones_3)), (h_p2_goerPrices, .inl (cA, 13, .inl f_p2_goerPrices_3)), (h_p2_goerTones, .inl (cA, 13, .inl f_p2_goerTones_3)), (h_p2_slack, .inl (cA, 13, .inl f_p2_slack_3)), (h_t_lengths, .inl (cA, 64, .inl f_t_lengths_3)), (h_t_stopSets, .inl (cA, 8, .inl f_t_stopSets))] → va_S A s.heap H locs → ∀ ls : Array Slot, lv_has ls 6 [(0, .ref h_t), (1, .int a1), (2, .ref h_p2), (3, .int v3_2), (4, .int v4_2)] → (∀ (H : Heap) (locs : List Loc), va_P (dC, dI) vwCl [(h_p2, .inr (8, [.int f_p2_nearestNumber, .int f_p2_nearestLength, .int f_p2_goals_4, .int f_p2_goers_4, .int f_p2_reached_4, .ref h_p2_goalTones, .ref h_p2_goerTones, .ref h_p2_extra, .ref h_p2_goalPrices, .ref h_p2_goerPrices, .ref h_p2_goalOfGoer, .ref h_p2_cameFrom, .ref h_p2_slack])), (h_t, .inr (3, [.int f_t_stops, .ref h_t_stopSets, .ref h_t_lengths, .ref h_t_best])), (h_p2_cameFrom, .inl (cA, 13, .inl f_p2_cameFrom_4)), (h_p2_extra, .inl (cA, 169, .inl f_p2_extra_4)), (h_p2_goalOfGoer, .inl (cA, 13, .inl f_p2_goalOfGoer_4)), (h_p2_goalPrices, .inl (cA, 13, .inl f_p2_goalPrices_4)), (h_p2_goalTones, .inl (cA, 13, .inl f_p2_goalTones_4)), (h_p2_goerPrices, .inl (cA, 13, .inl f_p2_goerPrices_4)), (h_p2_goerTones, .inl (cA, 13, .inl f_p2_goerTones_4)), (h_p2_slack, .inl (cA, 13, .inl f_p2_slack_4)), (h_t_lengths, .inl (cA, 64, .inl f_t_lengths_4)), (h_t_stopSets, .inl (cA, 8, .inl f_t_stopSets))] H → va_D A [(h_p2, .inr (8, [.int f_p2_nearestNumber, .int f_p2_nearestLength, .int f_p2_goals_4, .int f_p2_goers_4, .int f_p2_reached_4, .ref h_p2_goalTones, .ref h_p2_goerTones, .ref h_p2_extra, .ref h_p2_goalPrices, .ref h_p2_goerPrices, .ref h_p2_goalOfGoer, .ref h_p2_cameFrom, .ref h_p2_slack])), (h_t, .inr (3, [.int f_t_stops, .ref h_t_stopSets, .ref h_t_lengths, .ref h_t_best])), (h_p2_cameFrom, .inl (cA, 13, .inl f_p2_cameFrom_4)), (h_p2_extra, .inl (cA, 169, .inl f_p2_extra_4)), (h_p2_goalOfGoer, .inl (cA, 13, .inl f_p2_goalOfGoer_4)), (h_p2_goalPrices, .inl (cA, 13, .inl f_p2_goalPrices_4)), (h_p2_goalTones, .inl (cA, 13, .inl f_p2_goalTones_4)), (h_p2_goerPrices, .inl (cA, 13, .inl f_p2_goerPrices_4)), (h_p2_goerTones, .inl (cA, 13, .inl f_p2_goerTones_4)), (h_p2_slack, .inl (cA, 13, .inl f_p2_slack_4)), (h_t_lengths, .inl (cA, 64, .inl f_t_lengths_4)), (h_t_stopSets, .inl (cA, 8, .inl f_t_stopSets))] → va_S A s.heap H locs → ∀ ls : Array Slot, lv_has ls 6 [(0, .ref h_t), (1, .int a1), (2, .ref h_p2), (3, .int v3_2)] → W p l e (headSpec wsX4_measure rmX4_measure).room s m (([.ref h_t, .int a1, .ref h_p2] : List Value).toArray) below meth c H locs 0 0 Q (F0 m 78 ls [])) → W p l e (headSpec wsX4_measure rmX4_measure).room s m (([.ref h_t, .int a1, .ref h_p2] : List Value).toArray) below meth c H locs 0 0 Q (F0 m 15 ls []) := by
          clear hm hP hD hS hl
          intro n
          induction n with
          | zero => intro _ _ _ _ _ _ _ _ _ _ _ _ _ _ _ _ _ _ _ _ _ _ _ _ _ hm; exact nomatch (show none = some _ from hm)
          | succ n ih =>
            intro v4_2 f_p2_cameFrom_3 f_p2_extra_3 f_p2_goalOfGoer_3 f_p2_goalPrices_3 f_p2_goalTones_3 f_p2_goals_3 f_p2_goerPrices_3 f_p2_goerTones_3 f_p2_goers_3 f_p2_reached_3 f_p2_slack_3 f_t_lengths_3 f_p2_cameFrom_4 f_p2_extra_4 f_p2_goalOfGoer_4 f_p2_goalPrices_4 f_p2_goalTones_4 f_p2_goals_4 f_p2_goerPrices_4 f_p2_goerTones_4 f_p2_goers_4 f_p2_reached_4 f_p2_slack_4 f_t_lengths_4 hm H locs hP hD hS ls hl KK
            unfold m_Round_measure_L15 at hm
            refine lv_iload hx hb dX4_measure_15 (lv_at hl 4 rfl) ?_
            refine lv_aload_n hx hb dX4_measure_17 rfl (lv_at hl 0 rfl) ?_
            refine va_get (D := (dC, dI)) (ci := 3) (v := .int f_t_stops) (C := RX4) (T := TX4) (N := 4) hx hb hts uX4 hown hK hP 1 rfl rfl 0 (by decide) k1 (fun _ h9 => h9) rfl dX4_measure_18 ?_
            refine lv_icmp_ge (tgt := 78) hx hb dX4_measure_21 (by decide) (fun c21 => ?_) (fun c21 => ?_)
            · replace hm := if_t c21 hm
              cases hm
              exact KK _ _ hP hD hS _ (lv_sub hl [0, 1, 2, 3] rfl)
            · replace hm := if_f c21 hm
              refine lv_aload_n hx hb dX4_measure_24 rfl (lv_at hl 2 rfl) ?_
              refine lv_aload_n hx hb dX4_measure_25 rfl (lv_at hl 0 rfl) ?_
              refine va_get (D := (dC, dI)) (ci := 3) (v := .ref h_t_stopSets) (C := RX4) (T := TX4) (N := 4) hx hb hts uX4 hown hK hP 1 rfl rfl 1 (by decide) k2 (fun _ h9 => h9) rfl dX4_measure_26 ?_
              refine lv_iload_n hx hb dX4_measure_29 rfl (lv_at hl 3 rfl) ?_
              obtain ⟨b30, hm⟩ := ck_go hm
              refine va_iald hx hb hK hP 11 0 rfl rfl b30 dX4_measure_30 ?_
              refine lv_aload_n hx hb dX4_measure_31 rfl (lv_at hl 0 rfl) ?_
              refine va_get (D := (dC, dI)) (ci := 3) (v := .ref h_t_stopSets) (C := RX4) (T := TX4) (N := 4) hx hb hts uX4 hown hK hP 1 rfl rfl 1 (by decide) k2 (fun _ h9 => h9) rfl dX4_measure_32 ?_
              refine lv_iload hx hb dX4_measure_35 (lv_at hl 4 rfl) ?_
              obtain ⟨b37, hm⟩ := ck_go hm
              refine va_iald hx hb hK hP 11 0 rfl rfl b37 dX4_measure_37 ?_
              refine lv_iload_n hx hb dX4_measure_38 rfl (lv_at hl 1 rfl) ?_
              obtain ⟨r_1, f_p2_cameFrom_5, f_p2_extra_5, f_p2_goalOfGoer_5, f_p2_goalPrices_5, f_p2_goalTones_5, f_p2_goals_5, f_p2_goerPrices_5, f_p2_goerTones_5, f_p2_goers_5, f_p2_reached_5, f_p2_slack_5, hc39, hm⟩ := bd12_go hm
              refine my_cVi (As := [.int (f_t_stopSets v3_2.toNatClampNeg), .int (f_t_stopSets v4_2.toNatClampNeg), .int a1]) (rest := []) (WC := [(h_p2, .inr (8, [.int f_p2_nearestNumber, .int f_p2_nearestLength, .int f_p2_goals_3, .int f_p2_goers_3, .int f_p2_reached_3, .ref h_p2_goalTones, .ref h_p2_goerTones, .ref h_p2_extra, .ref h_p2_goalPrices, .ref h_p2_goerPrices, .ref h_p2_goalOfGoer, .ref h_p2_cameFrom, .ref h_p2_slack])), (h_p2_cameFrom, .inl (cA, 13, .inl f_p2_cameFrom_3)), (h_p2_extra, .inl (cA, 169, .inl f_p2_extra_3)), (h_p2_goalOfGoer, .inl (cA, 13, .inl f_p2_goalOfGoer_3)), (h_p2_goalPrices, .inl (cA, 13, .inl f_p2_goalPrices_3)), (h_p2_goalTones, .inl (cA, 13, .inl f_p2_goalTones_3)), (h_p2_goerPrices, .inl (cA, 13, .inl f_p2_goerPrices_3)), (h_p2_goerTones, .inl (cA, 13, .inl f_p2_goerTones_3)), (h_p2_slack, .inl (cA, 13, .inl f_p2_slack_3))]) (WC' := [(h_p2, .inr (8, [.int f_p2_nearestNumber, .int f_p2_nearestLength, .int f_p2_goals_5, .int f_p2_goers_5, .int f_p2_reached_5, .ref h_p2_goalTones, .ref h_p2_goerTones, .ref h_p2_extra, .ref h_p2_goalPrices, .ref h_p2_goerPrices, .ref h_p2_goalOfGoer, .ref h_p2_cameFrom, .ref h_p2_slack])), (h_p2_cameFrom, .inl (cA, 13, .inl f_p2_cameFrom_5)), (h_p2_extra, .inl (cA, 169, .inl f_p2_extra_5)), (h_p2_goalOfGoer, .inl (cA, 13, .inl f_p2_goalOfGoer_5)), (h_p2_goalPrices, .inl (cA, 13, .inl f_p2_goalPrices_5)), (h_p2_goalTones, .inl (cA, 13, .inl f_p2_goalTones_5)), (h_p2_goerPrices, .inl (cA, 13, .inl f_p2_goerPrices_5)), (h_p2_goerTones, .inl (cA, 13, .inl f_p2_goerTones_5)), (h_p2_slack, .inl (cA, 13, .inl f_p2_slack_5))]) (WR := [(h_t, .inr (3, [.int f_t_stops, .ref h_t_stopSets, .ref h_t_lengths, .ref h_t_best])), (h_t_lengths, .inl (cA, 64, .inl f_t_lengths_3)), (h_t_stopSets, .inl (cA, 8, .inl f_t_stopSets))]) (W' := [(h_p2, .inr (8, [.int f_p2_nearestNumber, .int f_p2_nearestLength, .int f_p2_goals_5, .int f_p2_goers_5, .int f_p2_reached_5, .ref h_p2_goalTones, .ref h_p2_goerTones, .ref h_p2_extra, .ref h_p2_goalPrices, .ref h_p2_goerPrices, .ref h_p2_goalOfGoer, .ref h_p2_cameFrom, .ref h_p2_slack])), (h_t, .inr (3, [.int f_t_stops, .ref h_t_stopSets, .ref h_t_lengths, .ref h_t_best])), (h_p2_cameFrom, .inl (cA, 13, .inl f_p2_cameFrom_5)), (h_p2_extra, .inl (cA, 169, .inl f_p2_extra_5)), (h_p2_goalOfGoer, .inl (cA, 13, .inl f_p2_goalOfGoer_5)), (h_p2_goalPrices, .inl (cA, 13, .inl f_p2_goalPrices_5)), (h_p2_goalTones, .inl (cA, 13, .inl f_p2_goalTones_5)), (h_p2_goerPrices, .inl (cA, 13, .inl f_p2_goerPrices_5)), (h_p2_goerTones, .inl (cA, 13, .inl f_p2_goerTones_5)), (h_p2_slack, .inl (cA, 13, .inl f_p2_slack_5)), (h_t_lengths, .inl (cA, 64, .inl f_t_lengths_3)), (h_t_stopSets, .inl (cA, 8, .inl f_t_stopSets))]) ⟨hx, hb, hml, hown, hts⟩ hK hP hD hS hA (c_Ways_least l dC dI cA fu h_p2 h_p2_goalTones h_p2_goerTones h_p2_extra h_p2_goalPrices h_p2_goerPrices h_p2_goalOfGoer h_p2_cameFrom h_p2_slack f_p2_nearestNumber f_p2_nearestLength f_p2_goals_3 f_p2_goers_3 f_p2_reached_3 f_p2_cameFrom_3 f_p2_extra_3 f_p2_goalOfGoer_3 f_p2_goalPrices_3 f_p2_goalTones_3 f_p2_goerPrices_3 f_p2_goerTones_3 f_p2_slack_3 (f_t_stopSets v3_2.toNatClampNeg) (f_t_stopSets v4_2.toNatClampNeg) a1 r_1 f_p2_cameFrom_5 f_p2_extra_5 f_p2_goalOfGoer_5 f_p2_goalPrices_5 f_p2_goalTones_5 f_p2_goals_5 f_p2_goerPrices_5 f_p2_goerTones_5 f_p2_goers_5 f_p2_reached_5 f_p2_slack_5 hc39) (cwV 3 hts gX4_measure_X9_least rfl rfl rfl (by decide +kernel) ⟨Nat.le_of_ble_eq_true rfl, Nat.le_of_ble_eq_true rfl⟩) [0, 2, 3, 4, 5, 6, 7, 8, 9] [1, 10, 11] [3, 0, 4, 5, 6, 7, 8, 9, 10, 11, 1, 2] rfl rfl rfl rfl (ci := 8) (q0 := 0) rfl rfl rfl rfl hl.1 (Nat.le_of_ble_eq_true rfl) dX4_measure_39 ⟨Nat.zero_le _, Nat.zero_le _⟩ (fun H locs hP hD hS => ?_)
              refine lv_topi (fun v5_1 ev5_1 => ?_)
              replace hm := lt_go ev5_1 hm
              refine lv_istore (lv' := [(5, .int v5_1), (0, .ref h_t), (1, .int a1), (2, .ref h_p2), (3, .int v3_2), (4, .int v4_2)]) hx hb dX4_measure_42 hl (by decide) rfl (fun ls hl => ?_)
              refine lv_aload_n hx hb dX4_measure_44 rfl (lv_at hl 1 rfl) ?_
              refine va_get (D := (dC, dI)) (ci := 3) (v := .ref h_t_lengths) (C := RX4) (T := TX4) (N := 4) hx hb hts uX4 hown hK hP 1 rfl rfl 2 (by decide) k3 (fun _ h9 => h9) rfl dX4_measure_45 ?_
              refine lv_iload_n hx hb dX4_measure_48 rfl (lv_at hl 4 rfl) ?_
              refine lv_bipush (v := 8) hx hb dX4_measure_49 (by decide) ?_
              refine lv_imul hx hb dX4_measure_51 ?_
              refine lv_iload hx hb dX4_measure_52 (lv_at hl 5 rfl) ?_
              refine lv_iadd hx hb dX4_measure_54 ?_
              refine lv_iload hx hb dX4_measure_55 (lv_at hl 0 rfl) ?_
              obtain ⟨b57, hm⟩ := ck_go hm
              refine my_iast (W' := fun z' => [(h_p2, .inr (8, [.int f_p2_nearestNumber, .int f_p2_nearestLength, .int f_p2_goals_5, .int f_p2_goers_5, .int f_p2_reached_5, .ref h_p2_goalTones, .ref h_p2_goerTones, .ref h_p2_extra, .ref h_p2_goalPrices, .ref h_p2_goerPrices, .ref h_p2_goalOfGoer, .ref h_p2_cameFrom, .ref h_p2_slack])), (h_t, .inr (3, [.int f_t_stops, .ref h_t_stopSets, .ref h_t_lengths, .ref h_t_best])), (h_p2_cameFrom, .inl (cA, 13, .inl f_p2_cameFrom_5)), (h_p2_extra, .inl (cA, 169, .inl f_p2_extra_5)), (h_p2_goalOfGoer, .inl (cA, 13, .inl f_p2_goalOfGoer_5)), (h_p2_goalPrices, .inl (cA, 13, .inl f_p2_goalPrices_5)), (h_p2_goalTones, .inl (cA, 13, .inl f_p2_goalTones_5)), (h_p2_goerPrices, .inl (cA, 13, .inl f_p2_goerPrices_5)), (h_p2_goerTones, .inl (cA, 13, .inl f_p2_goerTones_5)), (h_p2_slack, .inl (cA, 13, .inl f_p2_slack_5)), (h_t_lengths, .inl (cA, 64, .inl z')), (h_t_stopSets, .inl (cA, 8, .inl f_t_stopSets))]) hx hb hK hP hD hS 10 0 rfl rfl b57 dX4_measure_57 (fun _ => rfl) (fun f_t_lengths_5 ef_t_lengths_5 H locs hP hD hS => ?_)
              replace hm := lt_go ef_t_lengths_5 hm
              refine lv_aload_n hx hb dX4_measure_58 rfl (lv_at hl 1 rfl) ?_
              refine va_get (D := (dC, dI)) (ci := 3) (v := .ref h_t_lengths) (C := RX4) (T := TX4) (N := 4) hx hb hts uX4 hown hK hP 1 rfl rfl 2 (by decide) k3 (fun _ h9 => h9) rfl dX4_measure_59 ?_
              refine lv_iload hx hb dX4_measure_62 (lv_at hl 5 rfl) ?_
              refine lv_bipush (v := 8) hx hb dX4_measure_64 (by decide) ?_
              refine lv_imul hx hb dX4_measure_66 ?_
              refine lv_iload_n hx hb dX4_measure_67 rfl (lv_at hl 4 rfl) ?_
              refine lv_iadd hx hb dX4_measure_68 ?_
              refine lv_iload hx hb dX4_measure_69 (lv_at hl 0 rfl) ?_
              obtain ⟨b71, hm⟩ := ck_go hm
              refine my_iast (W' := fun z' => [(h_p2, .inr (8, [.int f_p2_nearestNumber, .int f_p2_nearestLength, .int f_p2_goals_5, .int f_p2_goers_5, .int f_p2_reached_5, .ref h_p2_goalTones, .ref h_p2_goerTones, .ref h_p2_extra, .ref h_p2_goalPrices, .ref h_p2_goerPrices, .ref h_p2_goalOfGoer, .ref h_p2_cameFrom, .ref h_p2_slack])), (h_t, .inr (3, [.int f_t_stops, .ref h_t_stopSets, .ref h_t_lengths, .ref h_t_best])), (h_p2_cameFrom, .inl (cA, 13, .inl f_p2_cameFrom_5)), (h_p2_extra, .inl (cA, 169, .inl f_p2_extra_5)), (h_p2_goalOfGoer, .inl (cA, 13, .inl f_p2_goalOfGoer_5)), (h_p2_goalPrices, .inl (cA, 13, .inl f_p2_goalPrices_5)), (h_p2_goalTones, .inl (cA, 13, .inl f_p2_goalTones_5)), (h_p2_goerPrices, .inl (cA, 13, .inl f_p2_goerPrices_5)), (h_p2_goerTones, .inl (cA, 13, .inl f_p2_goerTones_5)), (h_p2_slack, .inl (cA, 13, .inl f_p2_slack_5)), (h_t_lengths, .inl (cA, 64, .inl z')), (h_t_stopSets, .inl (cA, 8, .inl f_t_stopSets))]) hx hb hK hP hD hS 10 0 rfl rfl b71 dX4_measure_71 (fun _ => rfl) (fun f_t_lengths_6 ef_t_lengths_6 H locs hP hD hS => ?_)
              replace hm := lt_go ef_t_lengths_6 hm
              obtain ⟨v4_3, ev4_3⟩ : ∃ z : Int32, z = v4_2 + 1 := ⟨_, rfl⟩
              replace hm := lt_go ev4_3 hm
              refine lv_iinc (v := v4_3) (lv' := [(4, .int v4_3), (5, .int v5_1), (0, .ref h_t), (1, .int a1), (2, .ref h_p2), (3, .int v3_2)]) hx hb dX4_measure_72 hl (k := 5) rfl (by rw [ev4_3]; rfl) (by decide) rfl (fun ls hl => ?_)
              refine lv_goto (tgt := 15) hx hb dX4_measure_75 (by decide) ?_
              exact ih _ _ _ _ _ _ _ _ _ _ _ _ _ _ _ _ _ _ _ _ _ _ _ _ _ hm _ _ hP hD hS _ (lv_sub hl [2, 3, 4, 5, 0] rfl) KK
        obtain ⟨f_p2_cameFrom_6, f_p2_extra_6, f_p2_goalOfGoer_6, f_p2_goalPrices_6, f_p2_goalTones_6, f_p2_goals_6, f_p2_goerPrices_6, f_p2_goerTones_6, f_p2_goers_6, f_p2_reached_6, f_p2_slack_6, f_t_lengths_7, hl15, hm⟩ := bd12_go hm
        refine L15 _ _ _ _ _ _ _ _ _ _ _ _ _ _ _ _ _ _ _ _ _ _ _ _ _ _ hl15 _ _ hP hD hS _ (lv_sub hl [1, 2, 3, 4, 0] rfl) (fun H locs hP hD hS ls hl => ?_)
        obtain ⟨v3_3, ev3_3⟩ : ∃ z : Int32, z = v3_2 + 1 := ⟨_, rfl⟩
        replace hm := lt_go ev3_3 hm
        refine lv_iinc (v := v3_3) (lv' := [(3, .int v3_3), (0, .ref h_t), (1, .int a1), (2, .ref h_p2)]) hx hb dX4_measure_78 hl (k := 3) rfl (by rw [ev3_3]; rfl) (by decide) rfl (fun ls hl => ?_)
        refine lv_goto (tgt := 2) hx hb dX4_measure_81 (by decide) ?_
        exact ih _ _ _ _ _ _ _ _ _ _ _ _ _ _ _ _ _ _ _ _ _ _ _ _ _ hm _ _ hP hD hS _ (lv_sub hl [1, 2, 3, 0] rfl) KK
  obtain ⟨f_p2_cameFrom_7, f_p2_extra_7, f_p2_goalOfGoer_7, f_p2_goalPrices_7, f_p2_goalTones_7, f_p2_goals_7, f_p2_goerPrices_7, f_p2_goerTones_7, f_p2_goers_7, f_p2_reached_7, f_p2_slack_7, f_t_lengths_8, hl2, hm⟩ := bd12_go hm
  refine L2 _ _ _ _ _ _ _ _ _ _ _ _ _ _ _ _ _ _ _ _ _ _ _ _ _ _ hl2 _ _ hP hD hS _ (lv_sub hl [1, 2, 3, 0] rfl) (fun H locs hP hD hS ls hl => ?_)
  cases hm
  exact W_mono hQ (W.vret hx hb hr (fun t ht hW => ⟨⟨(), rfl, trivial, by rw [ht]; exact hP, va_K.moved hW.alike hK, hD⟩, hS.F ht⟩) hS.2.2 dX4_measure_84)
