abbrev rmX11_seed : Room := { frames := 0, cells := 0, slots := 0, locals := 0 }
theorem uX11_X11_seed : ∀ w ∈ wsX110, w ∈ wsX11_seed := fun _ h => List.mem_cons_of_mem _ (List.mem_append_right _ (h))
set_option maxHeartbeats 40000000 in
set_option maxRecDepth 100000 in
theorem c_Md_seed (l : Launch) (dC : Nat → ClassId) (dI : Nat → Nat → Nat) (cA : ClassId) (h_t h_t_w h_t_imageSeed h_t_bookOf h_t_bookIs h_t_forms h_t_best h_t_next h_t_ways h_t_round h_t_roughs : Nat) (f_t_known : Int32) (f_t_kept : Int32) (f_t_seed : Int32) (f_t_written : Int32) (f_t_formRing : Int32) (f_t_formMany : Int32) (f_t_latest : Int32) (a1 : Int32) (r0 : Int32) (f_t_seed_z : Int32) (hm : m_Md_seed f_t_seed a1 = some (r0, f_t_seed_z)) (sz : Nat) : Met l yX11_seed wsX11_seed rmX11_seed (mPre (dC, dI) cA [.ref h_t, .int a1] sz [(h_t, .inr (10, [.ref h_t_w, .int f_t_known, .int f_t_kept, .int f_t_seed, .ref h_t_imageSeed, .ref h_t_bookOf, .ref h_t_bookIs, .int f_t_written, .ref h_t_forms, .int f_t_formRing, .int f_t_formMany, .ref h_t_best, .ref h_t_next, .ref h_t_ways, .ref h_t_round, .ref h_t_roughs, .int f_t_latest]))]) (mPosI (dC, dI) cA r0 (va_A [(h_t, .inr (10, [.ref h_t_w, .int f_t_known, .int f_t_kept, .int f_t_seed, .ref h_t_imageSeed, .ref h_t_bookOf, .ref h_t_bookIs, .int f_t_written, .ref h_t_forms, .int f_t_formRing, .int f_t_formMany, .ref h_t_best, .ref h_t_next, .ref h_t_ways, .ref h_t_round, .ref h_t_roughs, .int f_t_latest]))] sz) [(h_t, .inr (10, [.ref h_t_w, .int f_t_known, .int f_t_kept, .int f_t_seed_z, .ref h_t_imageSeed, .ref h_t_bookOf, .ref h_t_bookIs, .int f_t_written, .ref h_t_forms, .int f_t_formRing, .int f_t_formMany, .ref h_t_best, .ref h_t_next, .ref h_t_ways, .ref h_t_round, .ref h_t_roughs, .int f_t_latest]))]) 0 0 (va_A [(h_t, .inr (10, [.ref h_t_w, .int f_t_known, .int f_t_kept, .int f_t_seed, .ref h_t_imageSeed, .ref h_t_bookOf, .ref h_t_bookIs, .int f_t_written, .ref h_t_forms, .int f_t_formRing, .int f_t_formMany, .ref h_t_best, .ref h_t_next, .ref h_t_ways, .ref h_t_round, .ref h_t_roughs, .int f_t_latest]))] sz) := by
  refine Met.ofW (cc := cX11_seed) (maxL := 3) (ret := (some .int)) (by decide) rfl ?_
  intro p e s m args below meth c s₁ B hml hv
  obtain ⟨rfl, hsz, hP, hK, hD0⟩ := hv
  refine W_gen (fun Q hQ => ?_)
  have hx := B.exec
  have hb := B.bytes
  have hr := B.returns
  have hts := atoms_spec (ws := wsX11_seed) B.pre
  have hown : s.vm.findClass RX11 = some m.cls := findClass_of_methodNamed B.named
  have hlocks := B.notSynchronized
  subst hsz
  have hD := hD0.self (sz := s.heap.size)
  clear hD0
  generalize hAe : va_A [(h_t, .inr (10, [.ref h_t_w, .int f_t_known, .int f_t_kept, .int f_t_seed, .ref h_t_imageSeed, .ref h_t_bookOf, .ref h_t_bookIs, .int f_t_written, .ref h_t_forms, .int f_t_formRing, .int f_t_formMany, .ref h_t_best, .ref h_t_next, .ref h_t_ways, .ref h_t_round, .ref h_t_roughs, .int f_t_latest]))] s.heap.size = A at hD hQ
  have hA : ∀ q : Nat, s.heap.size ≤ q → A q := fun q h => by rw [← hAe]; exact Or.inr h
  clear hAe
  have hS : va_S A s.heap s.heap [] := va_S.rf
  have hl := lv_entry ([.ref h_t, .int a1]) (n := 3) (Nat.le_of_ble_eq_true rfl)
  rw [lg_entry_eq]
  generalize (lg_sl ([.ref h_t, .int a1]) ++ List.replicate (3 - (lg_sl ([.ref h_t, .int a1])).length) Slot.unset).toArray = ls at hl ⊢
  have hl : lv_has ls 3 [(0, .ref h_t), (1, .int a1)] := hl
  have k2 := hts (.fieldLink RX11 140 "ToneSetsModel" "seed" "I") (List.mem_of_getElem? (i := 2) rfl)
  have k1 := hts (.constant RX11 143 (-1000000002)) (List.mem_of_getElem? (i := 1) rfl)
  have uX11 := uX11_X11_seed
  unfold m_Md_seed at hm
  refine lv_iload_n hx hb dX11_seed_0 rfl (lv_at hl 1 rfl) ?_
  refine lv_if_ge (tgt := 7) hx hb dX11_seed_1 (by decide) (fun c1 => ?_) (fun c1 => ?_)
  · replace hm := if_t c1 hm
    refine lv_aload_n hx hb dX11_seed_7 rfl (lv_at hl 0 rfl) ?_
    refine va_get (D := (dC, dI)) (ci := 10) (v := .int f_t_seed) (C := RX11) (T := TX11) (N := 17) hx hb hts uX11 hown hK hP 0 rfl rfl 3 (by decide) k2 (fun _ h9 => h9) rfl dX11_seed_8 ?_
    refine lv_topi (fun v2_1 ev2_1 => ?_)
    replace hm := lt_go ev2_1 hm
    refine lv_istore_n (lv' := [(2, .int v2_1), (0, .ref h_t), (1, .int a1)]) hx hb dX11_seed_11 rfl hl (by decide) rfl (fun ls hl => ?_)
    refine lv_aload_n hx hb dX11_seed_12 rfl (lv_at hl 1 rfl) ?_
    refine lv_iload_n hx hb dX11_seed_13 rfl (lv_at hl 2 rfl) ?_
    refine lv_topi (fun f_t_seed_1 ef_t_seed_1 => ?_)
    replace hm := lt_go ef_t_seed_1 hm
    refine my_put (W' := [(h_t, .inr (10, [.ref h_t_w, .int f_t_known, .int f_t_kept, .int f_t_seed_1, .ref h_t_imageSeed, .ref h_t_bookOf, .ref h_t_bookIs, .int f_t_written, .ref h_t_forms, .int f_t_formRing, .int f_t_formMany, .ref h_t_best, .ref h_t_next, .ref h_t_ways, .ref h_t_round, .ref h_t_roughs, .int f_t_latest]))]) (ci := 10) (v := .int f_t_seed_1) (ty := .int) (C := RX11) (T := TX11) (N := 17) hx hb hts uX11 tyX11 tyX11_ok nmX11 hown hK hP hD hS 0 rfl rfl 3 (by decide) k2 (fun _ h9 => h9) rfl (by decide +kernel) rfl rfl (Nat.le_of_ble_eq_true rfl) dX11_seed_14 rfl (fun H locs hP hD hS => ?_)
    refine lv_iload_n hx hb dX11_seed_17 rfl (lv_at hl 0 rfl) ?_
    cases hm
    exact W_mono hQ (W.iret hx hb hr (fun t ht hW => ⟨⟨_, (), rfl, rfl, by rw [ht]; exact hP, va_K.moved hW.alike hK, hD⟩, hS.F ht⟩) hS.2.2 dX11_seed_18)
  · replace hm := if_f c1 hm
    refine lv_ldc (v := (-1000000002)) hx hb hown k1 dX11_seed_4 ?_
    cases hm
    exact W_mono hQ (W.iret hx hb hr (fun t ht hW => ⟨⟨_, (), rfl, rfl, by rw [ht]; exact hP, va_K.moved hW.alike hK, hD⟩, hS.F ht⟩) hS.2.2 dX11_seed_6)
abbrev rmX11_swap : Room := { frames := 4, cells := 0, slots := 0, locals := 92 }
theorem uX11_X11_swap : ∀ w ∈ wsX110, w ∈ wsX11_swap := fun _ h => List.mem_cons_of_mem _ (List.mem_append_right _ (h))
set_option maxHeartbeats 40000000 in
set_option maxRecDepth 100000 in
theorem c_Md_swap (l : Launch) (dC : Nat → ClassId) (dI : Nat → Nat → Nat) (cA : ClassId) (fu : Nat) (h_t h_t_w h_t_imageSeed h_t_bookOf h_t_bookIs h_t_forms h_t_best h_t_next h_t_ways h_t_round h_t_roughs : Nat) (f_t_known : Int32) (f_t_kept : Int32) (f_t_seed : Int32) (f_t_written : Int32) (f_t_formRing : Int32) (f_t_formMany : Int32) (f_t_latest : Int32) (f_t_w : Nat → Int32) (a1 : Int32) (a2 : Int32) (r0 : Int32) (f_t_known_z : Int32) (f_t_w_z : Nat → Int32) (hm : m_Md_swap fu f_t_known f_t_w a1 a2 = some (r0, f_t_known_z, f_t_w_z)) (sz : Nat) : Met l yX11_swap wsX11_swap rmX11_swap (mPre (dC, dI) cA [.ref h_t, .int a1, .int a2] sz [(h_t, .inr (10, [.ref h_t_w, .int f_t_known, .int f_t_kept, .int f_t_seed, .ref h_t_imageSeed, .ref h_t_bookOf, .ref h_t_bookIs, .int f_t_written, .ref h_t_forms, .int f_t_formRing, .int f_t_formMany, .ref h_t_best, .ref h_t_next, .ref h_t_ways, .ref h_t_round, .ref h_t_roughs, .int f_t_latest])), (h_t_w, .inl (cA, 190, .inl f_t_w))]) (mPosI (dC, dI) cA r0 (va_A [(h_t, .inr (10, [.ref h_t_w, .int f_t_known, .int f_t_kept, .int f_t_seed, .ref h_t_imageSeed, .ref h_t_bookOf, .ref h_t_bookIs, .int f_t_written, .ref h_t_forms, .int f_t_formRing, .int f_t_formMany, .ref h_t_best, .ref h_t_next, .ref h_t_ways, .ref h_t_round, .ref h_t_roughs, .int f_t_latest])), (h_t_w, .inl (cA, 190, .inl f_t_w))] sz) [(h_t, .inr (10, [.ref h_t_w, .int f_t_known_z, .int f_t_kept, .int f_t_seed, .ref h_t_imageSeed, .ref h_t_bookOf, .ref h_t_bookIs, .int f_t_written, .ref h_t_forms, .int f_t_formRing, .int f_t_formMany, .ref h_t_best, .ref h_t_next, .ref h_t_ways, .ref h_t_round, .ref h_t_roughs, .int f_t_latest])), (h_t_w, .inl (cA, 190, .inl f_t_w_z))]) 0 0 (va_A [(h_t, .inr (10, [.ref h_t_w, .int f_t_known, .int f_t_kept, .int f_t_seed, .ref h_t_imageSeed, .ref h_t_bookOf, .ref h_t_bookIs, .int f_t_written, .ref h_t_forms, .int f_t_formRing, .int f_t_formMany, .ref h_t_best, .ref h_t_next, .ref h_t_ways, .ref h_t_round, .ref h_t_roughs, .int f_t_latest])), (h_t_w, .inl (cA, 190, .inl f_t_w))] sz) := by
  refine Met.ofW (cc := cX11_swap) (maxL := 4) (ret := (some .int)) (by decide) rfl ?_
  intro p e s m args below meth c s₁ B hml hv
  obtain ⟨rfl, hsz, hP, hK, hD0⟩ := hv
  refine W_gen (fun Q hQ => ?_)
  have hx := B.exec
  have hb := B.bytes
  have hr := B.returns
  have hts := atoms_spec (ws := wsX11_swap) B.pre
  have hown : s.vm.findClass RX11 = some m.cls := findClass_of_methodNamed B.named
  have hlocks := B.notSynchronized
  subst hsz
  have hD := hD0.self (sz := s.heap.size)
  clear hD0
  generalize hAe : va_A [(h_t, .inr (10, [.ref h_t_w, .int f_t_known, .int f_t_kept, .int f_t_seed, .ref h_t_imageSeed, .ref h_t_bookOf, .ref h_t_bookIs, .int f_t_written, .ref h_t_forms, .int f_t_formRing, .int f_t_formMany, .ref h_t_best, .ref h_t_next, .ref h_t_ways, .ref h_t_round, .ref h_t_roughs, .int f_t_latest])), (h_t_w, .inl (cA, 190, .inl f_t_w))] s.heap.size = A at hD hQ
  have hA : ∀ q : Nat, s.heap.size ≤ q → A q := fun q h => by rw [← hAe]; exact Or.inr h
  clear hAe
  have hS : va_S A s.heap s.heap [] := va_S.rf
  have hl := lv_entry ([.ref h_t, .int a1, .int a2]) (n := 4) (Nat.le_of_ble_eq_true rfl)
  rw [lg_entry_eq]
  generalize (lg_sl ([.ref h_t, .int a1, .int a2]) ++ List.replicate (4 - (lg_sl ([.ref h_t, .int a1, .int a2])).length) Slot.unset).toArray = ls at hl ⊢
  have hl : lv_has ls 4 [(0, .ref h_t), (1, .int a1), (2, .int a2)] := hl
  have k1 := hts (.constant RX11 144 (-1000000001)) (List.mem_of_getElem? (i := 1) rfl)
  have k2 := hts (.fieldLink RX11 7 "ToneSetsModel" "w" "[I") (List.mem_of_getElem? (i := 2) rfl)
  have uX11 := uX11_X11_swap
  unfold m_Md_swap at hm
  refine lv_aload_n hx hb dX11_swap_0 rfl (lv_at hl 0 rfl) ?_
  refine lv_iload_n hx hb dX11_swap_1 rfl (lv_at hl 1 rfl) ?_
  obtain ⟨r_1, hc2, hm⟩ := bd1_go hm
  refine my_cVi (As := [.int a1]) (rest := []) (WC := [(h_t, .inr (10, [.ref h_t_w, .int f_t_known, .int f_t_kept, .int f_t_seed, .ref h_t_imageSeed, .ref h_t_bookOf, .ref h_t_bookIs, .int f_t_written, .ref h_t_forms, .int f_t_formRing, .int f_t_formMany, .ref h_t_best, .ref h_t_next, .ref h_t_ways, .ref h_t_round, .ref h_t_roughs, .int f_t_latest])), (h_t_w, .inl (cA, 190, .inl f_t_w))]) (WC' := [(h_t, .inr (10, [.ref h_t_w, .int f_t_known, .int f_t_kept, .int f_t_seed, .ref h_t_imageSeed, .ref h_t_bookOf, .ref h_t_bookIs, .int f_t_written, .ref h_t_forms, .int f_t_formRing, .int f_t_formMany, .ref h_t_best, .ref h_t_next, .ref h_t_ways, .ref h_t_round, .ref h_t_roughs, .int f_t_latest])), (h_t_w, .inl (cA, 190, .inl f_t_w))]) (WR := []) (W' := [(h_t, .inr (10, [.ref h_t_w, .int f_t_known, .int f_t_kept, .int f_t_seed, .ref h_t_imageSeed, .ref h_t_bookOf, .ref h_t_bookIs, .int f_t_written, .ref h_t_forms, .int f_t_formRing, .int f_t_formMany, .ref h_t_best, .ref h_t_next, .ref h_t_ways, .ref h_t_round, .ref h_t_roughs, .int f_t_latest])), (h_t_w, .inl (cA, 190, .inl f_t_w))]) ⟨hx, hb, hml, hown, hts⟩ hK hP hD hS hA (c_Md_isPlace l dC dI cA h_t h_t_w h_t_imageSeed h_t_bookOf h_t_bookIs h_t_forms h_t_best h_t_next h_t_ways h_t_round h_t_roughs f_t_known f_t_kept f_t_seed f_t_written f_t_formRing f_t_formMany f_t_latest f_t_w a1 r_1 hc2) (cwV 1 hts gX11_swap_X11_isPlace rfl rfl rfl (by decide +kernel) ⟨Nat.le_of_ble_eq_true rfl, Nat.le_of_ble_eq_true rfl⟩) [0, 1] [] [0, 1] rfl rfl rfl rfl (ci := 10) (q0 := 0) rfl rfl rfl rfl hl.1 (Nat.le_of_ble_eq_true rfl) dX11_swap_2 ⟨Nat.zero_le _, Nat.zero_le _⟩ (fun H locs hP hD hS => ?_)
  refine lv_if_eq (tgt := 16) hx hb dX11_swap_5 (by decide) (fun c5 => ?_) (fun c5 => ?_)
  · replace hm := if_t c5 hm
    refine lv_ldc (v := (-1000000001)) hx hb hown k1 dX11_swap_16 ?_
    cases hm
    exact W_mono hQ (W.iret hx hb hr (fun t ht hW => ⟨⟨_, (), rfl, rfl, by rw [ht]; exact hP, va_K.moved hW.alike hK, hD⟩, hS.F ht⟩) hS.2.2 dX11_swap_18)
  · replace hm := if_f c5 hm
    refine lv_aload_n hx hb dX11_swap_8 rfl (lv_at hl 0 rfl) ?_
    refine lv_iload_n hx hb dX11_swap_9 rfl (lv_at hl 2 rfl) ?_
    obtain ⟨r_2, hc10, hm⟩ := bd1_go hm
    refine my_cVi (As := [.int a2]) (rest := []) (WC := [(h_t, .inr (10, [.ref h_t_w, .int f_t_known, .int f_t_kept, .int f_t_seed, .ref h_t_imageSeed, .ref h_t_bookOf, .ref h_t_bookIs, .int f_t_written, .ref h_t_forms, .int f_t_formRing, .int f_t_formMany, .ref h_t_best, .ref h_t_next, .ref h_t_ways, .ref h_t_round, .ref h_t_roughs, .int f_t_latest])), (h_t_w, .inl (cA, 190, .inl f_t_w))]) (WC' := [(h_t, .inr (10, [.ref h_t_w, .int f_t_known, .int f_t_kept, .int f_t_seed, .ref h_t_imageSeed, .ref h_t_bookOf, .ref h_t_bookIs, .int f_t_written, .ref h_t_forms, .int f_t_formRing, .int f_t_formMany, .ref h_t_best, .ref h_t_next, .ref h_t_ways, .ref h_t_round, .ref h_t_roughs, .int f_t_latest])), (h_t_w, .inl (cA, 190, .inl f_t_w))]) (WR := []) (W' := [(h_t, .inr (10, [.ref h_t_w, .int f_t_known, .int f_t_kept, .int f_t_seed, .ref h_t_imageSeed, .ref h_t_bookOf, .ref h_t_bookIs, .int f_t_written, .ref h_t_forms, .int f_t_formRing, .int f_t_formMany, .ref h_t_best, .ref h_t_next, .ref h_t_ways, .ref h_t_round, .ref h_t_roughs, .int f_t_latest])), (h_t_w, .inl (cA, 190, .inl f_t_w))]) ⟨hx, hb, hml, hown, hts⟩ hK hP hD hS hA (c_Md_isPlace l dC dI cA h_t h_t_w h_t_imageSeed h_t_bookOf h_t_bookIs h_t_forms h_t_best h_t_next h_t_ways h_t_round h_t_roughs f_t_known f_t_kept f_t_seed f_t_written f_t_formRing f_t_formMany f_t_latest f_t_w a2 r_2 hc10) (cwV 1 hts gX11_swap_X11_isPlace rfl rfl rfl (by decide +kernel) ⟨Nat.le_of_ble_eq_true rfl, Nat.le_of_ble_eq_true rfl⟩) [0, 1] [] [0, 1] rfl rfl rfl rfl (ci := 10) (q0 := 0) rfl rfl rfl rfl hl.1 (Nat.le_of_ble_eq_true rfl) dX11_swap_10 ⟨Nat.zero_le _, Nat.zero_le _⟩ (fun H locs hP hD hS => ?_)
    refine lv_if_ne (tgt := 19) hx hb dX11_swap_13 (by decide) (fun c13 => ?_) (fun c13 => ?_)
    · replace hm := if_f c13 hm
      refine lv_aload_n hx hb dX11_swap_19 rfl (lv_at hl 0 rfl) ?_
      obtain ⟨f_t_known_1, f_t_w_1, hc20, hm⟩ := bd2_go hm
      refine my_cVv (As := []) (rest := []) (WC := [(h_t, .inr (10, [.ref h_t_w, .int f_t_known, .int f_t_kept, .int f_t_seed, .ref h_t_imageSeed, .ref h_t_bookOf, .ref h_t_bookIs, .int f_t_written, .ref h_t_forms, .int f_t_formRing, .int f_t_formMany, .ref h_t_best, .ref h_t_next, .ref h_t_ways, .ref h_t_round, .ref h_t_roughs, .int f_t_latest])), (h_t_w, .inl (cA, 190, .inl f_t_w))]) (WC' := [(h_t, .inr (10, [.ref h_t_w, .int f_t_known_1, .int f_t_kept, .int f_t_seed, .ref h_t_imageSeed, .ref h_t_bookOf, .ref h_t_bookIs, .int f_t_written, .ref h_t_forms, .int f_t_formRing, .int f_t_formMany, .ref h_t_best, .ref h_t_next, .ref h_t_ways, .ref h_t_round, .ref h_t_roughs, .int f_t_latest])), (h_t_w, .inl (cA, 190, .inl f_t_w_1))]) (WR := []) (W' := [(h_t, .inr (10, [.ref h_t_w, .int f_t_known_1, .int f_t_kept, .int f_t_seed, .ref h_t_imageSeed, .ref h_t_bookOf, .ref h_t_bookIs, .int f_t_written, .ref h_t_forms, .int f_t_formRing, .int f_t_formMany, .ref h_t_best, .ref h_t_next, .ref h_t_ways, .ref h_t_round, .ref h_t_roughs, .int f_t_latest])), (h_t_w, .inl (cA, 190, .inl f_t_w_1))]) ⟨hx, hb, hml, hown, hts⟩ hK hP hD hS hA (c_Md_remember l dC dI cA fu h_t h_t_w h_t_imageSeed h_t_bookOf h_t_bookIs h_t_forms h_t_best h_t_next h_t_ways h_t_round h_t_roughs f_t_known f_t_kept f_t_seed f_t_written f_t_formRing f_t_formMany f_t_latest f_t_w f_t_known_1 f_t_w_1 hc20) (cwV 0 hts gX11_swap_X11_remember rfl rfl rfl (by decide +kernel) ⟨Nat.le_of_ble_eq_true rfl, Nat.le_of_ble_eq_true rfl⟩) [0, 1] [] [0, 1] rfl rfl rfl rfl (ci := 10) (q0 := 0) rfl rfl rfl rfl hl.1 (Nat.le_of_ble_eq_true rfl) dX11_swap_20 ⟨Nat.zero_le _, Nat.zero_le _⟩ (fun H locs hP hD hS => ?_)
      refine lv_aload_n hx hb dX11_swap_23 rfl (lv_at hl 0 rfl) ?_
      refine va_get (D := (dC, dI)) (ci := 10) (v := .ref h_t_w) (C := RX11) (T := TX11) (N := 17) hx hb hts uX11 hown hK hP 0 rfl rfl 0 (by decide) k2 (fun _ h9 => h9) rfl dX11_swap_24 ?_
      refine lv_iconst (v := 2) hx hb dX11_swap_27 (by decide) ?_
      refine lv_iload_n hx hb dX11_swap_28 rfl (lv_at hl 1 rfl) ?_
      refine lv_iadd hx hb dX11_swap_29 ?_
      obtain ⟨b30, hm⟩ := ck_go hm
      refine va_iald hx hb hK hP 1 0 rfl rfl b30 dX11_swap_30 ?_
      refine lv_topi (fun v3_1 ev3_1 => ?_)
      replace hm := lt_go ev3_1 hm
      refine lv_istore_n (lv' := [(3, .int v3_1), (0, .ref h_t), (1, .int a1), (2, .int a2)]) hx hb dX11_swap_31 rfl hl (by decide) rfl (fun ls hl => ?_)
      refine lv_aload_n hx hb dX11_swap_32 rfl (lv_at hl 1 rfl) ?_
      refine va_get (D := (dC, dI)) (ci := 10) (v := .ref h_t_w) (C := RX11) (T := TX11) (N := 17) hx hb hts uX11 hown hK hP 0 rfl rfl 0 (by decide) k2 (fun _ h9 => h9) rfl dX11_swap_33 ?_
      refine lv_iconst (v := 2) hx hb dX11_swap_36 (by decide) ?_
      refine lv_iload_n hx hb dX11_swap_37 rfl (lv_at hl 2 rfl) ?_
      refine lv_iadd hx hb dX11_swap_38 ?_
      refine lv_aload_n hx hb dX11_swap_39 rfl (lv_at hl 1 rfl) ?_
      refine va_get (D := (dC, dI)) (ci := 10) (v := .ref h_t_w) (C := RX11) (T := TX11) (N := 17) hx hb hts uX11 hown hK hP 0 rfl rfl 0 (by decide) k2 (fun _ h9 => h9) rfl dX11_swap_40 ?_
      refine lv_iconst (v := 2) hx hb dX11_swap_43 (by decide) ?_
      refine lv_iload_n hx hb dX11_swap_44 rfl (lv_at hl 3 rfl) ?_
      refine lv_iadd hx hb dX11_swap_45 ?_
      obtain ⟨b46, hm⟩ := ck_go hm
      refine va_iald hx hb hK hP 1 0 rfl rfl b46 dX11_swap_46 ?_
      obtain ⟨b47, hm⟩ := ck_go hm
      refine my_iast (W' := fun z' => [(h_t, .inr (10, [.ref h_t_w, .int f_t_known_1, .int f_t_kept, .int f_t_seed, .ref h_t_imageSeed, .ref h_t_bookOf, .ref h_t_bookIs, .int f_t_written, .ref h_t_forms, .int f_t_formRing, .int f_t_formMany, .ref h_t_best, .ref h_t_next, .ref h_t_ways, .ref h_t_round, .ref h_t_roughs, .int f_t_latest])), (h_t_w, .inl (cA, 190, .inl z'))]) hx hb hK hP hD hS 1 0 rfl rfl b47 dX11_swap_47 (fun _ => rfl) (fun f_t_w_2 ef_t_w_2 H locs hP hD hS => ?_)
      replace hm := lt_go ef_t_w_2 hm
      refine lv_aload_n hx hb dX11_swap_48 rfl (lv_at hl 1 rfl) ?_
      refine va_get (D := (dC, dI)) (ci := 10) (v := .ref h_t_w) (C := RX11) (T := TX11) (N := 17) hx hb hts uX11 hown hK hP 0 rfl rfl 0 (by decide) k2 (fun _ h9 => h9) rfl dX11_swap_49 ?_
      refine lv_iconst (v := 2) hx hb dX11_swap_52 (by decide) ?_
      refine lv_iload_n hx hb dX11_swap_53 rfl (lv_at hl 3 rfl) ?_
      refine lv_iadd hx hb dX11_swap_54 ?_
      refine lv_iload_n hx hb dX11_swap_55 rfl (lv_at hl 0 rfl) ?_
      obtain ⟨b56, hm⟩ := ck_go hm
      refine my_iast (W' := fun z' => [(h_t, .inr (10, [.ref h_t_w, .int f_t_known_1, .int f_t_kept, .int f_t_seed, .ref h_t_imageSeed, .ref h_t_bookOf, .ref h_t_bookIs, .int f_t_written, .ref h_t_forms, .int f_t_formRing, .int f_t_formMany, .ref h_t_best, .ref h_t_next, .ref h_t_ways, .ref h_t_round, .ref h_t_roughs, .int f_t_latest])), (h_t_w, .inl (cA, 190, .inl z'))]) hx hb hK hP hD hS 1 0 rfl rfl b56 dX11_swap_56 (fun _ => rfl) (fun f_t_w_3 ef_t_w_3 H locs hP hD hS => ?_)
      replace hm := lt_go ef_t_w_3 hm
      refine lv_aload_n hx hb dX11_swap_57 rfl (lv_at hl 1 rfl) ?_
      refine lv_aload_n hx hb dX11_swap_58 rfl (lv_at hl 1 rfl) ?_
      refine va_get (D := (dC, dI)) (ci := 10) (v := .ref h_t_w) (C := RX11) (T := TX11) (N := 17) hx hb hts uX11 hown hK hP 0 rfl rfl 0 (by decide) k2 (fun _ h9 => h9) rfl dX11_swap_59 ?_
      refine lv_iconst (v := 2) hx hb dX11_swap_62 (by decide) ?_
      refine lv_iload_n hx hb dX11_swap_63 rfl (lv_at hl 2 rfl) ?_
      refine lv_iadd hx hb dX11_swap_64 ?_
      obtain ⟨b65, hm⟩ := ck_go hm
      refine va_iald hx hb hK hP 1 0 rfl rfl b65 dX11_swap_65 ?_
      obtain ⟨r_3, hc66, hm⟩ := bd1_go hm
      refine my_cVi (As := [.int (f_t_w_3 (2 + a1).toNatClampNeg)]) (rest := []) (WC := [(h_t, .inr (10, [.ref h_t_w, .int f_t_known_1, .int f_t_kept, .int f_t_seed, .ref h_t_imageSeed, .ref h_t_bookOf, .ref h_t_bookIs, .int f_t_written, .ref h_t_forms, .int f_t_formRing, .int f_t_formMany, .ref h_t_best, .ref h_t_next, .ref h_t_ways, .ref h_t_round, .ref h_t_roughs, .int f_t_latest])), (h_t_w, .inl (cA, 190, .inl f_t_w_3))]) (WC' := [(h_t, .inr (10, [.ref h_t_w, .int f_t_known_1, .int f_t_kept, .int f_t_seed, .ref h_t_imageSeed, .ref h_t_bookOf, .ref h_t_bookIs, .int f_t_written, .ref h_t_forms, .int f_t_formRing, .int f_t_formMany, .ref h_t_best, .ref h_t_next, .ref h_t_ways, .ref h_t_round, .ref h_t_roughs, .int f_t_latest])), (h_t_w, .inl (cA, 190, .inl f_t_w_3))]) (WR := []) (W' := [(h_t, .inr (10, [.ref h_t_w, .int f_t_known_1, .int f_t_kept, .int f_t_seed, .ref h_t_imageSeed, .ref h_t_bookOf, .ref h_t_bookIs, .int f_t_written, .ref h_t_forms, .int f_t_formRing, .int f_t_formMany, .ref h_t_best, .ref h_t_next, .ref h_t_ways, .ref h_t_round, .ref h_t_roughs, .int f_t_latest])), (h_t_w, .inl (cA, 190, .inl f_t_w_3))]) ⟨hx, hb, hml, hown, hts⟩ hK hP hD hS hA (c_Md_formOf l dC dI cA fu h_t h_t_w h_t_imageSeed h_t_bookOf h_t_bookIs h_t_forms h_t_best h_t_next h_t_ways h_t_round h_t_roughs f_t_known_1 f_t_kept f_t_seed f_t_written f_t_formRing f_t_formMany f_t_latest f_t_w_3 (f_t_w_3 (2 + a1).toNatClampNeg) r_3 hc66) (cwV 1 hts gX11_swap_X11_formOf rfl rfl rfl (by decide +kernel) ⟨Nat.le_of_ble_eq_true rfl, Nat.le_of_ble_eq_true rfl⟩) [0, 1] [] [0, 1] rfl rfl rfl rfl (ci := 10) (q0 := 0) rfl rfl rfl rfl hl.1 (Nat.le_of_ble_eq_true rfl) dX11_swap_66 ⟨Nat.zero_le _, Nat.zero_le _⟩ (fun H locs hP hD hS => ?_)
      refine lv_aload_n hx hb dX11_swap_69 rfl (lv_at hl 1 rfl) ?_
      refine lv_aload_n hx hb dX11_swap_70 rfl (lv_at hl 1 rfl) ?_
      refine va_get (D := (dC, dI)) (ci := 10) (v := .ref h_t_w) (C := RX11) (T := TX11) (N := 17) hx hb hts uX11 hown hK hP 0 rfl rfl 0 (by decide) k2 (fun _ h9 => h9) rfl dX11_swap_71 ?_
      refine lv_iconst (v := 2) hx hb dX11_swap_74 (by decide) ?_
      refine lv_iload_n hx hb dX11_swap_75 rfl (lv_at hl 3 rfl) ?_
      refine lv_iadd hx hb dX11_swap_76 ?_
      obtain ⟨b77, hm⟩ := ck_go hm
      refine va_iald hx hb hK hP 1 0 rfl rfl b77 dX11_swap_77 ?_
      obtain ⟨r_4, hc78, hm⟩ := bd1_go hm
      refine my_cVi (As := [.int (f_t_w_3 (2 + a2).toNatClampNeg)]) (rest := [.int r_3]) (WC := [(h_t, .inr (10, [.ref h_t_w, .int f_t_known_1, .int f_t_kept, .int f_t_seed, .ref h_t_imageSeed, .ref h_t_bookOf, .ref h_t_bookIs, .int f_t_written, .ref h_t_forms, .int f_t_formRing, .int f_t_formMany, .ref h_t_best, .ref h_t_next, .ref h_t_ways, .ref h_t_round, .ref h_t_roughs, .int f_t_latest])), (h_t_w, .inl (cA, 190, .inl f_t_w_3))]) (WC' := [(h_t, .inr (10, [.ref h_t_w, .int f_t_known_1, .int f_t_kept, .int f_t_seed, .ref h_t_imageSeed, .ref h_t_bookOf, .ref h_t_bookIs, .int f_t_written, .ref h_t_forms, .int f_t_formRing, .int f_t_formMany, .ref h_t_best, .ref h_t_next, .ref h_t_ways, .ref h_t_round, .ref h_t_roughs, .int f_t_latest])), (h_t_w, .inl (cA, 190, .inl f_t_w_3))]) (WR := []) (W' := [(h_t, .inr (10, [.ref h_t_w, .int f_t_known_1, .int f_t_kept, .int f_t_seed, .ref h_t_imageSeed, .ref h_t_bookOf, .ref h_t_bookIs, .int f_t_written, .ref h_t_forms, .int f_t_formRing, .int f_t_formMany, .ref h_t_best, .ref h_t_next, .ref h_t_ways, .ref h_t_round, .ref h_t_roughs, .int f_t_latest])), (h_t_w, .inl (cA, 190, .inl f_t_w_3))]) ⟨hx, hb, hml, hown, hts⟩ hK hP hD hS hA (c_Md_formOf l dC dI cA fu h_t h_t_w h_t_imageSeed h_t_bookOf h_t_bookIs h_t_forms h_t_best h_t_next h_t_ways h_t_round h_t_roughs f_t_known_1 f_t_kept f_t_seed f_t_written f_t_formRing f_t_formMany f_t_latest f_t_w_3 (f_t_w_3 (2 + a2).toNatClampNeg) r_4 hc78) (cwV 1 hts gX11_swap_X11_formOf rfl rfl rfl (by decide +kernel) ⟨Nat.le_of_ble_eq_true rfl, Nat.le_of_ble_eq_true rfl⟩) [0, 1] [] [0, 1] rfl rfl rfl rfl (ci := 10) (q0 := 0) rfl rfl rfl rfl hl.1 (Nat.le_of_ble_eq_true rfl) dX11_swap_78 ⟨Nat.zero_le _, Nat.zero_le _⟩ (fun H locs hP hD hS => ?_)
      refine lv_icmp_eq (tgt := 88) hx hb dX11_swap_81 (by decide) (fun c81 => ?_) (fun c81 => ?_)
      · replace hm := if_t c81 hm
        refine lv_iconst (v := 0) hx hb dX11_swap_88 (by decide) ?_
        cases hm
        exact W_mono hQ (W.iret hx hb hr (fun t ht hW => ⟨⟨_, (), rfl, rfl, by rw [ht]; exact hP, va_K.moved hW.alike hK, hD⟩, hS.F ht⟩) hS.2.2 dX11_swap_89)
      · replace hm := if_f c81 hm
        refine lv_iconst (v := 1) hx hb dX11_swap_84 (by decide) ?_
        refine lv_goto (tgt := 89) hx hb dX11_swap_85 (by decide) ?_
        cases hm
        exact W_mono hQ (W.iret hx hb hr (fun t ht hW => ⟨⟨_, (), rfl, rfl, by rw [ht]; exact hP, va_K.moved hW.alike hK, hD⟩, hS.F ht⟩) hS.2.2 dX11_swap_89)
    · replace hm := if_t c13 hm
      refine lv_ldc (v := (-1000000001)) hx hb hown k1 dX11_swap_16 ?_
      cases hm
      exact W_mono hQ (W.iret hx hb hr (fun t ht hW => ⟨⟨_, (), rfl, rfl, by rw [ht]; exact hP, va_K.moved hW.alike hK, hD⟩, hS.F ht⟩) hS.2.2 dX11_swap_18)
abbrev rmX11_take : Room := { frames := 2, cells := 0, slots := 0, locals := 46 }
theorem uX11_X11_take : ∀ w ∈ wsX110, w ∈ wsX11_take := fun _ h => List.mem_cons_of_mem _ (List.mem_append_right _ (h))
set_option maxHeartbeats 40000000 in
set_option maxRecDepth 100000 in
theorem c_Md_take (l : Launch) (dC : Nat → ClassId) (dI : Nat → Nat → Nat) (cA : ClassId) (fu : Nat) (h_t h_t_w h_t_imageSeed h_t_bookOf h_t_bookIs h_t_forms h_t_best h_t_next h_t_ways h_t_round h_t_roughs : Nat) (f_t_known : Int32) (f_t_kept : Int32) (f_t_seed : Int32) (f_t_written : Int32) (f_t_formRing : Int32) (f_t_formMany : Int32) (f_t_latest : Int32) (f_t_w : Nat → Int32) (a1 : Int32) (r0 : Int32) (f_t_known_z : Int32) (f_t_w_z : Nat → Int32) (hm : m_Md_take fu f_t_known f_t_w a1 = some (r0, f_t_known_z, f_t_w_z)) (sz : Nat) : Met l yX11_take wsX11_take rmX11_take (mPre (dC, dI) cA [.ref h_t, .int a1] sz [(h_t, .inr (10, [.ref h_t_w, .int f_t_known, .int f_t_kept, .int f_t_seed, .ref h_t_imageSeed, .ref h_t_bookOf, .ref h_t_bookIs, .int f_t_written, .ref h_t_forms, .int f_t_formRing, .int f_t_formMany, .ref h_t_best, .ref h_t_next, .ref h_t_ways, .ref h_t_round, .ref h_t_roughs, .int f_t_latest])), (h_t_w, .inl (cA, 190, .inl f_t_w))]) (mPosI (dC, dI) cA r0 (va_A [(h_t, .inr (10, [.ref h_t_w, .int f_t_known, .int f_t_kept, .int f_t_seed, .ref h_t_imageSeed, .ref h_t_bookOf, .ref h_t_bookIs, .int f_t_written, .ref h_t_forms, .int f_t_formRing, .int f_t_formMany, .ref h_t_best, .ref h_t_next, .ref h_t_ways, .ref h_t_round, .ref h_t_roughs, .int f_t_latest])), (h_t_w, .inl (cA, 190, .inl f_t_w))] sz) [(h_t, .inr (10, [.ref h_t_w, .int f_t_known_z, .int f_t_kept, .int f_t_seed, .ref h_t_imageSeed, .ref h_t_bookOf, .ref h_t_bookIs, .int f_t_written, .ref h_t_forms, .int f_t_formRing, .int f_t_formMany, .ref h_t_best, .ref h_t_next, .ref h_t_ways, .ref h_t_round, .ref h_t_roughs, .int f_t_latest])), (h_t_w, .inl (cA, 190, .inl f_t_w_z))]) 0 0 (va_A [(h_t, .inr (10, [.ref h_t_w, .int f_t_known, .int f_t_kept, .int f_t_seed, .ref h_t_imageSeed, .ref h_t_bookOf, .ref h_t_bookIs, .int f_t_written, .ref h_t_forms, .int f_t_formRing, .int f_t_formMany, .ref h_t_best, .ref h_t_next, .ref h_t_ways, .ref h_t_round, .ref h_t_roughs, .int f_t_latest])), (h_t_w, .inl (cA, 190, .inl f_t_w))] sz) := by
  refine Met.ofW (cc := cX11_take) (maxL := 3) (ret := (some .int)) (by decide) rfl ?_
  intro p e s m args below meth c s₁ B hml hv
  obtain ⟨rfl, hsz, hP, hK, hD0⟩ := hv
  refine W_gen (fun Q hQ => ?_)
  have hx := B.exec
  have hb := B.bytes
  have hr := B.returns
  have hts := atoms_spec (ws := wsX11_take) B.pre
  have hown : s.vm.findClass RX11 = some m.cls := findClass_of_methodNamed B.named
  have hlocks := B.notSynchronized
  subst hsz
  have hD := hD0.self (sz := s.heap.size)
  clear hD0
  generalize hAe : va_A [(h_t, .inr (10, [.ref h_t_w, .int f_t_known, .int f_t_kept, .int f_t_seed, .ref h_t_imageSeed, .ref h_t_bookOf, .ref h_t_bookIs, .int f_t_written, .ref h_t_forms, .int f_t_formRing, .int f_t_formMany, .ref h_t_best, .ref h_t_next, .ref h_t_ways, .ref h_t_round, .ref h_t_roughs, .int f_t_latest])), (h_t_w, .inl (cA, 190, .inl f_t_w))] s.heap.size = A at hD hQ
  have hA : ∀ q : Nat, s.heap.size ≤ q → A q := fun q h => by rw [← hAe]; exact Or.inr h
  clear hAe
  have hS : va_S A s.heap s.heap [] := va_S.rf
  have hl := lv_entry ([.ref h_t, .int a1]) (n := 3) (Nat.le_of_ble_eq_true rfl)
  rw [lg_entry_eq]
  generalize (lg_sl ([.ref h_t, .int a1]) ++ List.replicate (3 - (lg_sl ([.ref h_t, .int a1])).length) Slot.unset).toArray = ls at hl ⊢
  have hl : lv_has ls 3 [(0, .ref h_t), (1, .int a1)] := hl
  have k2 := hts (.fieldLink RX11 7 "ToneSetsModel" "w" "[I") (List.mem_of_getElem? (i := 2) rfl)
  have k1 := hts (.constant RX11 144 (-1000000001)) (List.mem_of_getElem? (i := 1) rfl)
  have uX11 := uX11_X11_take
  unfold m_Md_take at hm
  refine lv_aload_n hx hb dX11_take_0 rfl (lv_at hl 0 rfl) ?_
  refine lv_iload_n hx hb dX11_take_1 rfl (lv_at hl 1 rfl) ?_
  obtain ⟨r_1, hc2, hm⟩ := bd1_go hm
  refine my_cVi (As := [.int a1]) (rest := []) (WC := [(h_t, .inr (10, [.ref h_t_w, .int f_t_known, .int f_t_kept, .int f_t_seed, .ref h_t_imageSeed, .ref h_t_bookOf, .ref h_t_bookIs, .int f_t_written, .ref h_t_forms, .int f_t_formRing, .int f_t_formMany, .ref h_t_best, .ref h_t_next, .ref h_t_ways, .ref h_t_round, .ref h_t_roughs, .int f_t_latest])), (h_t_w, .inl (cA, 190, .inl f_t_w))]) (WC' := [(h_t, .inr (10, [.ref h_t_w, .int f_t_known, .int f_t_kept, .int f_t_seed, .ref h_t_imageSeed, .ref h_t_bookOf, .ref h_t_bookIs, .int f_t_written, .ref h_t_forms, .int f_t_formRing, .int f_t_formMany, .ref h_t_best, .ref h_t_next, .ref h_t_ways, .ref h_t_round, .ref h_t_roughs, .int f_t_latest])), (h_t_w, .inl (cA, 190, .inl f_t_w))]) (WR := []) (W' := [(h_t, .inr (10, [.ref h_t_w, .int f_t_known, .int f_t_kept, .int f_t_seed, .ref h_t_imageSeed, .ref h_t_bookOf, .ref h_t_bookIs, .int f_t_written, .ref h_t_forms, .int f_t_formRing, .int f_t_formMany, .ref h_t_best, .ref h_t_next, .ref h_t_ways, .ref h_t_round, .ref h_t_roughs, .int f_t_latest])), (h_t_w, .inl (cA, 190, .inl f_t_w))]) ⟨hx, hb, hml, hown, hts⟩ hK hP hD hS hA (c_Md_isPlace l dC dI cA h_t h_t_w h_t_imageSeed h_t_bookOf h_t_bookIs h_t_forms h_t_best h_t_next h_t_ways h_t_round h_t_roughs f_t_known f_t_kept f_t_seed f_t_written f_t_formRing f_t_formMany f_t_latest f_t_w a1 r_1 hc2) (cwV 1 hts gX11_take_X11_isPlace rfl rfl rfl (by decide +kernel) ⟨Nat.le_of_ble_eq_true rfl, Nat.le_of_ble_eq_true rfl⟩) [0, 1] [] [0, 1] rfl rfl rfl rfl (ci := 10) (q0 := 0) rfl rfl rfl rfl hl.1 (Nat.le_of_ble_eq_true rfl) dX11_take_2 ⟨Nat.zero_le _, Nat.zero_le _⟩ (fun H locs hP hD hS => ?_)
  refine lv_if_ne (tgt := 11) hx hb dX11_take_5 (by decide) (fun c5 => ?_) (fun c5 => ?_)
  · replace hm := if_f c5 hm
    refine lv_aload_n hx hb dX11_take_11 rfl (lv_at hl 0 rfl) ?_
    obtain ⟨f_t_known_1, f_t_w_1, hc12, hm⟩ := bd2_go hm
    refine my_cVv (As := []) (rest := []) (WC := [(h_t, .inr (10, [.ref h_t_w, .int f_t_known, .int f_t_kept, .int f_t_seed, .ref h_t_imageSeed, .ref h_t_bookOf, .ref h_t_bookIs, .int f_t_written, .ref h_t_forms, .int f_t_formRing, .int f_t_formMany, .ref h_t_best, .ref h_t_next, .ref h_t_ways, .ref h_t_round, .ref h_t_roughs, .int f_t_latest])), (h_t_w, .inl (cA, 190, .inl f_t_w))]) (WC' := [(h_t, .inr (10, [.ref h_t_w, .int f_t_known_1, .int f_t_kept, .int f_t_seed, .ref h_t_imageSeed, .ref h_t_bookOf, .ref h_t_bookIs, .int f_t_written, .ref h_t_forms, .int f_t_formRing, .int f_t_formMany, .ref h_t_best, .ref h_t_next, .ref h_t_ways, .ref h_t_round, .ref h_t_roughs, .int f_t_latest])), (h_t_w, .inl (cA, 190, .inl f_t_w_1))]) (WR := []) (W' := [(h_t, .inr (10, [.ref h_t_w, .int f_t_known_1, .int f_t_kept, .int f_t_seed, .ref h_t_imageSeed, .ref h_t_bookOf, .ref h_t_bookIs, .int f_t_written, .ref h_t_forms, .int f_t_formRing, .int f_t_formMany, .ref h_t_best, .ref h_t_next, .ref h_t_ways, .ref h_t_round, .ref h_t_roughs, .int f_t_latest])), (h_t_w, .inl (cA, 190, .inl f_t_w_1))]) ⟨hx, hb, hml, hown, hts⟩ hK hP hD hS hA (c_Md_remember l dC dI cA fu h_t h_t_w h_t_imageSeed h_t_bookOf h_t_bookIs h_t_forms h_t_best h_t_next h_t_ways h_t_round h_t_roughs f_t_known f_t_kept f_t_seed f_t_written f_t_formRing f_t_formMany f_t_latest f_t_w f_t_known_1 f_t_w_1 hc12) (cwV 0 hts gX11_take_X11_remember rfl rfl rfl (by decide +kernel) ⟨Nat.le_of_ble_eq_true rfl, Nat.le_of_ble_eq_true rfl⟩) [0, 1] [] [0, 1] rfl rfl rfl rfl (ci := 10) (q0 := 0) rfl rfl rfl rfl hl.1 (Nat.le_of_ble_eq_true rfl) dX11_take_12 ⟨Nat.zero_le _, Nat.zero_le _⟩ (fun H locs hP hD hS => ?_)
    refine lv_iload_n hx hb dX11_take_15 rfl (lv_at hl 1 rfl) ?_
    refine lv_topi (fun v2_1 ev2_1 => ?_)
    replace hm := lt_go ev2_1 hm
    refine lv_istore_n (lv' := [(2, .int v2_1), (0, .ref h_t), (1, .int a1)]) hx hb dX11_take_16 rfl hl (by decide) rfl (fun ls hl => ?_)
    have L17 : ∀ (n : Nat) (v2_2 : Int32) (f_t_w_2 : Nat → Int32) (f_t_w_3 : Nat → Int32), m_Md_take_L17 n v2_2 f_t_w_2 = some f_t_w_3 → ∀ (H : Heap) (locs : List Loc), va_P (dC, dI) vwCl [(h_t, .inr (10, [.ref h_t_w, .int f_t_known_1, .int f_t_kept, .int f_t_seed, .ref h_t_imageSeed, .ref h_t_bookOf, .ref h_t_bookIs, .int f_t_written, .ref h_t_forms, .int f_t_formRing, .int f_t_formMany, .ref h_t_best, .ref h_t_next, .ref h_t_ways, .ref h_t_round, .ref h_t_roughs, .int f_t_latest])), (h_t_w, .inl (cA, 190, .inl f_t_w_2))] H → va_D A [(h_t, .inr (10, [.ref h_t_w, .int f_t_known_1, .int f_t_kept, .int f_t_seed, .ref h_t_imageSeed, .ref h_t_bookOf, .ref h_t_bookIs, .int f_t_written, .ref h_t_forms, .int f_t_formRing, .int f_t_formMany, .ref h_t_best, .ref h_t_next, .ref h_t_ways, .ref h_t_round, .ref h_t_roughs, .int f_t_latest])), (h_t_w, .inl (cA, 190, .inl f_t_w_2))] → va_S A s.heap H locs → ∀ ls : Array Slot, lv_has ls 3 [(0, .ref h_t), (2, .int v2_2)] → (∀ (H : Heap) (locs : List Loc), va_P (dC, dI) vwCl [(h_t, .inr (10, [.ref h_t_w, .int f_t_known_1, .int f_t_kept, .int f_t_seed, .ref h_t_imageSeed, .ref h_t_bookOf, .ref h_t_bookIs, .int f_t_written, .ref h_t_forms, .int f_t_formRing, .int f_t_formMany, .ref h_t_best, .ref h_t_next, .ref h_t_ways, .ref h_t_round, .ref h_t_roughs, .int f_t_latest])), (h_t_w, .inl (cA, 190, .inl f_t_w_3))] H → va_D A [(h_t, .inr (10, [.ref h_t_w, .int f_t_known_1, .int f_t_kept, .int f_t_seed, .ref h_t_imageSeed, .ref h_t_bookOf, .ref h_t_bookIs, .int f_t_written, .ref h_t_forms, .int f_t_formRing, .int f_t_formMany, .ref h_t_best, .ref h_t_next, .ref h_t_ways, .ref h_t_round, .ref h_t_roughs, .int f_t_latest])), (h_t_w, .inl (cA, 190, .inl f_t_w_3))] → va_S A s.heap H locs → ∀ ls : Array Slot, lv_has ls 3 [(0, .ref h_t)] → W p l e (headSpec wsX11_take rmX11_take).room s m (([.ref h_t, .int a1] : List Value).toArray) below meth c H locs 0 0 Q (F0 m 53 ls [])) → W p l e (headSpec wsX11_take rmX11_take).room s m (([.ref h_t, .int a1] : List Value).toArray) below meth c H locs 0 0 Q (F0 m 17 ls []) := by
      clear hm hP hD hS hl
      intro n
      induction n with
      | zero => intro _ _ _ hm; exact nomatch (show none = some _ from hm)
      | succ n ih =>
        intro v2_2 f_t_w_2 f_t_w_3 hm H locs hP hD hS ls hl KK
        unfold m_Md_take_L17 at hm
        refine lv_iload_n hx hb dX11_take_17 rfl (lv_at hl 1 rfl) ?_
        refine lv_aload_n hx hb dX11_take_18 rfl (lv_at hl 0 rfl) ?_
        refine va_get (D := (dC, dI)) (ci := 10) (v := .ref h_t_w) (C := RX11) (T := TX11) (N := 17) hx hb hts uX11 hown hK hP 0 rfl rfl 0 (by decide) k2 (fun _ h9 => h9) rfl dX11_take_19 ?_
        refine lv_iconst (v := 1) hx hb dX11_take_22 (by decide) ?_
        obtain ⟨b23, hm⟩ := ck_go hm
        refine va_iald hx hb hK hP 1 0 rfl rfl b23 dX11_take_23 ?_
        refine lv_iconst (v := 1) hx hb dX11_take_24 (by decide) ?_
        refine lv_isub hx hb dX11_take_25 ?_
        refine lv_icmp_ge (tgt := 53) hx hb dX11_take_26 (by decide) (fun c26 => ?_) (fun c26 => ?_)
        · replace hm := if_t c26 hm
          cases hm
          exact KK _ _ hP hD hS _ (lv_sub hl [0] rfl)
        · replace hm := if_f c26 hm
          refine lv_aload_n hx hb dX11_take_29 rfl (lv_at hl 0 rfl) ?_
          refine va_get (D := (dC, dI)) (ci := 10) (v := .ref h_t_w) (C := RX11) (T := TX11) (N := 17) hx hb hts uX11 hown hK hP 0 rfl rfl 0 (by decide) k2 (fun _ h9 => h9) rfl dX11_take_30 ?_
          refine lv_iconst (v := 2) hx hb dX11_take_33 (by decide) ?_
          refine lv_iload_n hx hb dX11_take_34 rfl (lv_at hl 1 rfl) ?_
          refine lv_iadd hx hb dX11_take_35 ?_
          refine lv_aload_n hx hb dX11_take_36 rfl (lv_at hl 0 rfl) ?_
          refine va_get (D := (dC, dI)) (ci := 10) (v := .ref h_t_w) (C := RX11) (T := TX11) (N := 17) hx hb hts uX11 hown hK hP 0 rfl rfl 0 (by decide) k2 (fun _ h9 => h9) rfl dX11_take_37 ?_
          refine lv_iconst (v := 2) hx hb dX11_take_40 (by decide) ?_
          refine lv_iload_n hx hb dX11_take_41 rfl (lv_at hl 1 rfl) ?_
          refine lv_iadd hx hb dX11_take_42 ?_
          refine lv_iconst (v := 1) hx hb dX11_take_43 (by decide) ?_
          refine lv_iadd hx hb dX11_take_44 ?_
          obtain ⟨b45, hm⟩ := ck_go hm
          refine va_iald hx hb hK hP 1 0 rfl rfl b45 dX11_take_45 ?_
          obtain ⟨b46, hm⟩ := ck_go hm
          refine my_iast (W' := fun z' => [(h_t, .inr (10, [.ref h_t_w, .int f_t_known_1, .int f_t_kept, .int f_t_seed, .ref h_t_imageSeed, .ref h_t_bookOf, .ref h_t_bookIs, .int f_t_written, .ref h_t_forms, .int f_t_formRing, .int f_t_formMany, .ref h_t_best, .ref h_t_next, .ref h_t_ways, .ref h_t_round, .ref h_t_roughs, .int f_t_latest])), (h_t_w, .inl (cA, 190, .inl z'))]) hx hb hK hP hD hS 1 0 rfl rfl b46 dX11_take_46 (fun _ => rfl) (fun f_t_w_4 ef_t_w_4 H locs hP hD hS => ?_)
          replace hm := lt_go ef_t_w_4 hm
          obtain ⟨v2_3, ev2_3⟩ : ∃ z : Int32, z = v2_2 + 1 := ⟨_, rfl⟩
          replace hm := lt_go ev2_3 hm
          refine lv_iinc (v := v2_3) (lv' := [(2, .int v2_3), (0, .ref h_t)]) hx hb dX11_take_47 hl (k := 1) rfl (by rw [ev2_3]; rfl) (by decide) rfl (fun ls hl => ?_)
          refine lv_goto (tgt := 17) hx hb dX11_take_50 (by decide) ?_
          exact ih _ _ _ hm _ _ hP hD hS _ (lv_sub hl [1, 0] rfl) KK
    obtain ⟨f_t_w_5, hl17, hm⟩ := bd1_go hm
    refine L17 _ _ _ _ hl17 _ _ hP hD hS _ (lv_sub hl [1, 0] rfl) (fun H locs hP hD hS ls hl => ?_)
    refine lv_aload_n hx hb dX11_take_53 rfl (lv_at hl 0 rfl) ?_
    refine va_get (D := (dC, dI)) (ci := 10) (v := .ref h_t_w) (C := RX11) (T := TX11) (N := 17) hx hb hts uX11 hown hK hP 0 rfl rfl 0 (by decide) k2 (fun _ h9 => h9) rfl dX11_take_54 ?_
    refine lv_iconst (v := 1) hx hb dX11_take_57 (by decide) ?_
    refine lv_dup2_11 hx hb dX11_take_58 rfl rfl ?_
    obtain ⟨b59, hm⟩ := ck_go hm
    refine va_iald hx hb hK hP 1 0 rfl rfl b59 dX11_take_59 ?_
    refine lv_iconst (v := 1) hx hb dX11_take_60 (by decide) ?_
    refine lv_isub hx hb dX11_take_61 ?_
    obtain ⟨b62, hm⟩ := ck_go hm
    refine my_iast (W' := fun z' => [(h_t, .inr (10, [.ref h_t_w, .int f_t_known_1, .int f_t_kept, .int f_t_seed, .ref h_t_imageSeed, .ref h_t_bookOf, .ref h_t_bookIs, .int f_t_written, .ref h_t_forms, .int f_t_formRing, .int f_t_formMany, .ref h_t_best, .ref h_t_next, .ref h_t_ways, .ref h_t_round, .ref h_t_roughs, .int f_t_latest])), (h_t_w, .inl (cA, 190, .inl z'))]) hx hb hK hP hD hS 1 0 rfl rfl b62 dX11_take_62 (fun _ => rfl) (fun f_t_w_6 ef_t_w_6 H locs hP hD hS => ?_)
    replace hm := lt_go ef_t_w_6 hm
    refine lv_aload_n hx hb dX11_take_63 rfl (lv_at hl 0 rfl) ?_
    refine va_get (D := (dC, dI)) (ci := 10) (v := .ref h_t_w) (C := RX11) (T := TX11) (N := 17) hx hb hts uX11 hown hK hP 0 rfl rfl 0 (by decide) k2 (fun _ h9 => h9) rfl dX11_take_64 ?_
    refine lv_iconst (v := 1) hx hb dX11_take_67 (by decide) ?_
    obtain ⟨b68, hm⟩ := ck_go hm
    refine va_iald hx hb hK hP 1 0 rfl rfl b68 dX11_take_68 ?_
    cases hm
    exact W_mono hQ (W.iret hx hb hr (fun t ht hW => ⟨⟨_, (), rfl, rfl, by rw [ht]; exact hP, va_K.moved hW.alike hK, hD⟩, hS.F ht⟩) hS.2.2 dX11_take_69)
  · replace hm := if_t c5 hm
    refine lv_ldc (v := (-1000000001)) hx hb hown k1 dX11_take_8 ?_
    cases hm
    exact W_mono hQ (W.iret hx hb hr (fun t ht hW => ⟨⟨_, (), rfl, rfl, by rw [ht]; exact hP, va_K.moved hW.alike hK, hD⟩, hS.F ht⟩) hS.2.2 dX11_take_10)
abbrev rmX11_tear : Room := { frames := 0, cells := 0, slots := 0, locals := 0 }
theorem uX11_X11_tear : ∀ w ∈ wsX110, w ∈ wsX11_tear := fun _ h => List.mem_cons_of_mem _ (List.mem_append_right _ (h))
set_option maxHeartbeats 40000000 in
set_option maxRecDepth 100000 in
theorem c_Md_tear (l : Launch) (dC : Nat → ClassId) (dI : Nat → Nat → Nat) (cA : ClassId) (h_t h_t_w h_t_imageSeed h_t_bookOf h_t_bookIs h_t_forms h_t_best h_t_next h_t_ways h_t_round h_t_roughs : Nat) (f_t_known : Int32) (f_t_kept : Int32) (f_t_seed : Int32) (f_t_written : Int32) (f_t_formRing : Int32) (f_t_formMany : Int32) (f_t_latest : Int32) (r0 : Int32) (f_t_written_z : Int32) (hm : m_Md_tear f_t_written = some (r0, f_t_written_z)) (sz : Nat) : Met l yX11_tear wsX11_tear rmX11_tear (mPre (dC, dI) cA [.ref h_t] sz [(h_t, .inr (10, [.ref h_t_w, .int f_t_known, .int f_t_kept, .int f_t_seed, .ref h_t_imageSeed, .ref h_t_bookOf, .ref h_t_bookIs, .int f_t_written, .ref h_t_forms, .int f_t_formRing, .int f_t_formMany, .ref h_t_best, .ref h_t_next, .ref h_t_ways, .ref h_t_round, .ref h_t_roughs, .int f_t_latest]))]) (mPosI (dC, dI) cA r0 (va_A [(h_t, .inr (10, [.ref h_t_w, .int f_t_known, .int f_t_kept, .int f_t_seed, .ref h_t_imageSeed, .ref h_t_bookOf, .ref h_t_bookIs, .int f_t_written, .ref h_t_forms, .int f_t_formRing, .int f_t_formMany, .ref h_t_best, .ref h_t_next, .ref h_t_ways, .ref h_t_round, .ref h_t_roughs, .int f_t_latest]))] sz) [(h_t, .inr (10, [.ref h_t_w, .int f_t_known, .int f_t_kept, .int f_t_seed, .ref h_t_imageSeed, .ref h_t_bookOf, .ref h_t_bookIs, .int f_t_written_z, .ref h_t_forms, .int f_t_formRing, .int f_t_formMany, .ref h_t_best, .ref h_t_next, .ref h_t_ways, .ref h_t_round, .ref h_t_roughs, .int f_t_latest]))]) 0 0 (va_A [(h_t, .inr (10, [.ref h_t_w, .int f_t_known, .int f_t_kept, .int f_t_seed, .ref h_t_imageSeed, .ref h_t_bookOf, .ref h_t_bookIs, .int f_t_written, .ref h_t_forms, .int f_t_formRing, .int f_t_formMany, .ref h_t_best, .ref h_t_next, .ref h_t_ways, .ref h_t_round, .ref h_t_roughs, .int f_t_latest]))] sz) := by
  refine Met.ofW (cc := cX11_tear) (maxL := 2) (ret := (some .int)) (by decide) rfl ?_
  intro p e s m args below meth c s₁ B hml hv
  obtain ⟨rfl, hsz, hP, hK, hD0⟩ := hv
  refine W_gen (fun Q hQ => ?_)
  have hx := B.exec
  have hb := B.bytes
  have hr := B.returns
  have hts := atoms_spec (ws := wsX11_tear) B.pre
  have hown : s.vm.findClass RX11 = some m.cls := findClass_of_methodNamed B.named
  have hlocks := B.notSynchronized
  subst hsz
  have hD := hD0.self (sz := s.heap.size)
  clear hD0
  generalize hAe : va_A [(h_t, .inr (10, [.ref h_t_w, .int f_t_known, .int f_t_kept, .int f_t_seed, .ref h_t_imageSeed, .ref h_t_bookOf, .ref h_t_bookIs, .int f_t_written, .ref h_t_forms, .int f_t_formRing, .int f_t_formMany, .ref h_t_best, .ref h_t_next, .ref h_t_ways, .ref h_t_round, .ref h_t_roughs, .int f_t_latest]))] s.heap.size = A at hD hQ
  have hA : ∀ q : Nat, s.heap.size ≤ q → A q := fun q h => by rw [← hAe]; exact Or.inr h
  clear hAe
  have hS : va_S A s.heap s.heap [] := va_S.rf
  have hl := lv_entry ([.ref h_t]) (n := 2) (Nat.le_of_ble_eq_true rfl)
  rw [lg_entry_eq]
  generalize (lg_sl ([.ref h_t]) ++ List.replicate (2 - (lg_sl ([.ref h_t])).length) Slot.unset).toArray = ls at hl ⊢
  have hl : lv_has ls 2 [(0, .ref h_t)] := hl
  have k1 := hts (.fieldLink RX11 122 "ToneSetsModel" "written" "I") (List.mem_of_getElem? (i := 1) rfl)
  have uX11 := uX11_X11_tear
  unfold m_Md_tear at hm
  refine lv_aload_n hx hb dX11_tear_0 rfl (lv_at hl 0 rfl) ?_
  refine va_get (D := (dC, dI)) (ci := 10) (v := .int f_t_written) (C := RX11) (T := TX11) (N := 17) hx hb hts uX11 hown hK hP 0 rfl rfl 7 (by decide) k1 (fun _ h9 => h9) rfl dX11_tear_1 ?_
  refine lv_topi (fun v1_1 ev1_1 => ?_)
  replace hm := lt_go ev1_1 hm
  refine lv_istore_n (lv' := [(1, .int v1_1), (0, .ref h_t)]) hx hb dX11_tear_4 rfl hl (by decide) rfl (fun ls hl => ?_)
  refine lv_aload_n hx hb dX11_tear_5 rfl (lv_at hl 1 rfl) ?_
  refine lv_iconst (v := 0) hx hb dX11_tear_6 (by decide) ?_
  refine lv_topi (fun f_t_written_1 ef_t_written_1 => ?_)
  replace hm := lt_go ef_t_written_1 hm
  refine my_put (W' := [(h_t, .inr (10, [.ref h_t_w, .int f_t_known, .int f_t_kept, .int f_t_seed, .ref h_t_imageSeed, .ref h_t_bookOf, .ref h_t_bookIs, .int f_t_written_1, .ref h_t_forms, .int f_t_formRing, .int f_t_formMany, .ref h_t_best, .ref h_t_next, .ref h_t_ways, .ref h_t_round, .ref h_t_roughs, .int f_t_latest]))]) (ci := 10) (v := .int f_t_written_1) (ty := .int) (C := RX11) (T := TX11) (N := 17) hx hb hts uX11 tyX11 tyX11_ok nmX11 hown hK hP hD hS 0 rfl rfl 7 (by decide) k1 (fun _ h9 => h9) rfl (by decide +kernel) rfl rfl (Nat.le_of_ble_eq_true rfl) dX11_tear_7 rfl (fun H locs hP hD hS => ?_)
  refine lv_iload_n hx hb dX11_tear_10 rfl (lv_at hl 0 rfl) ?_
  cases hm
  exact W_mono hQ (W.iret hx hb hr (fun t ht hW => ⟨⟨_, (), rfl, rfl, by rw [ht]; exact hP, va_K.moved hW.alike hK, hD⟩, hS.F ht⟩) hS.2.2 dX11_tear_11)
abbrev rmX11_twinPairs : Room := { frames := 6, cells := 0, slots := 0, locals := 135 }
theorem uX11_X11_twinPairs : ∀ w ∈ wsX110, w ∈ wsX11_twinPairs := fun _ h => List.mem_cons_of_mem _ (List.mem_append_right _ (h))
set_option maxHeartbeats 40000000 in
set_option maxRecDepth 100000 in
theorem c_Md_twinPairs (l : Launch) (dC : Nat → ClassId) (dI : Nat → Nat → Nat) (cA : ClassId) (fu : Nat) (h_t h_t_w h_t_imageSeed h_t_bookOf h_t_bookIs h_t_forms h_t_best h_t_next h_t_ways h_t_round h_t_roughs : Nat) (f_t_known : Int32) (f_t_kept : Int32) (f_t_seed : Int32) (f_t_written : Int32) (f_t_formRing : Int32) (f_t_formMany : Int32) (f_t_latest : Int32) (f_t_forms : Nat → Int32) (f_t_w : Nat → Int32) (r0 : Int32) (f_t_formMany_z : Int32) (f_t_formRing_z : Int32) (f_t_forms_z : Nat → Int32) (hm : m_Md_twinPairs fu f_t_formMany f_t_formRing f_t_forms f_t_w = some (r0, f_t_formMany_z, f_t_formRing_z, f_t_forms_z)) (sz : Nat) : Met l yX11_twinPairs wsX11_twinPairs rmX11_twinPairs (mPre (dC, dI) cA [.ref h_t] sz [(h_t, .inr (10, [.ref h_t_w, .int f_t_known, .int f_t_kept, .int f_t_seed, .ref h_t_imageSeed, .ref h_t_bookOf, .ref h_t_bookIs, .int f_t_written, .ref h_t_forms, .int f_t_formRing, .int f_t_formMany, .ref h_t_best, .ref h_t_next, .ref h_t_ways, .ref h_t_round, .ref h_t_roughs, .int f_t_latest])), (h_t_forms, .inl (cA, 400, .inl f_t_forms)), (h_t_w, .inl (cA, 190, .inl f_t_w))]) (mPosI (dC, dI) cA r0 (va_A [(h_t, .inr (10, [.ref h_t_w, .int f_t_known, .int f_t_kept, .int f_t_seed, .ref h_t_imageSeed, .ref h_t_bookOf, .ref h_t_bookIs, .int f_t_written, .ref h_t_forms, .int f_t_formRing, .int f_t_formMany, .ref h_t_best, .ref h_t_next, .ref h_t_ways, .ref h_t_round, .ref h_t_roughs, .int f_t_latest])), (h_t_forms, .inl (cA, 400, .inl f_t_forms)), (h_t_w, .inl (cA, 190, .inl f_t_w))] sz) [(h_t, .inr (10, [.ref h_t_w, .int f_t_known, .int f_t_kept, .int f_t_seed, .ref h_t_imageSeed, .ref h_t_bookOf, .ref h_t_bookIs, .int f_t_written, .ref h_t_forms, .int f_t_formRing_z, .int f_t_formMany_z, .ref h_t_best, .ref h_t_next, .ref h_t_ways, .ref h_t_round, .ref h_t_roughs, .int f_t_latest])), (h_t_forms, .inl (cA, 400, .inl f_t_forms_z)), (h_t_w, .inl (cA, 190, .inl f_t_w))]) 0 0 (va_A [(h_t, .inr (10, [.ref h_t_w, .int f_t_known, .int f_t_kept, .int f_t_seed, .ref h_t_imageSeed, .ref h_t_bookOf, .ref h_t_bookIs, .int f_t_written, .ref h_t_forms, .int f_t_formRing, .int f_t_formMany, .ref h_t_best, .ref h_t_next, .ref h_t_ways, .ref h_t_round, .ref h_t_roughs, .int f_t_latest])), (h_t_forms, .inl (cA, 400, .inl f_t_forms)), (h_t_w, .inl (cA, 190, .inl f_t_w))] sz) := by
  refine Met.ofW (cc := cX11_twinPairs) (maxL := 3) (ret := (some .int)) (by decide) rfl ?_
  intro p e s m args below meth c s₁ B hml hv
  obtain ⟨rfl, hsz, hP, hK, hD0⟩ := hv
  refine W_gen (fun Q hQ => ?_)
  have hx := B.exec
  have hb := B.bytes
  have hr := B.returns
  have hts := atoms_spec (ws := wsX11_twinPairs) B.pre
  have hown : s.vm.findClass RX11 = some m.cls := findClass_of_methodNamed B.named
  have hlocks := B.notSynchronized
  subst hsz
  have hD := hD0.self (sz := s.heap.size)
  clear hD0
  generalize hAe : va_A [(h_t, .inr (10, [.ref h_t_w, .int f_t_known, .int f_t_kept, .int f_t_seed, .ref h_t_imageSeed, .ref h_t_bookOf, .ref h_t_bookIs, .int f_t_written, .ref h_t_forms, .int f_t_formRing, .int f_t_formMany, .ref h_t_best, .ref h_t_next, .ref h_t_ways, .ref h_t_round, .ref h_t_roughs, .int f_t_latest])), (h_t_forms, .inl (cA, 400, .inl f_t_forms)), (h_t_w, .inl (cA, 190, .inl f_t_w))] s.heap.size = A at hD hQ
  have hA : ∀ q : Nat, s.heap.size ≤ q → A q := fun q h => by rw [← hAe]; exact Or.inr h
  clear hAe
  have hS : va_S A s.heap s.heap [] := va_S.rf
  have hl := lv_entry ([.ref h_t]) (n := 3) (Nat.le_of_ble_eq_true rfl)
  rw [lg_entry_eq]
  generalize (lg_sl ([.ref h_t]) ++ List.replicate (3 - (lg_sl ([.ref h_t])).length) Slot.unset).toArray = ls at hl ⊢
  have hl : lv_has ls 3 [(0, .ref h_t)] := hl
  have k1 := hts (.fieldLink RX11 77 "ToneSetsModel" "formMany" "I") (List.mem_of_getElem? (i := 1) rfl)
  have k2 := hts (.fieldLink RX11 22 "ToneSetsModel" "forms" "[I") (List.mem_of_getElem? (i := 2) rfl)
  have uX11 := uX11_X11_twinPairs
  unfold m_Md_twinPairs at hm
  refine lv_aload_n hx hb dX11_twinPairs_0 rfl (lv_at hl 0 rfl) ?_
  obtain ⟨f_t_formMany_1, f_t_formRing_1, f_t_forms_1, hc1, hm⟩ := bd3_go hm
  refine my_cVv (As := []) (rest := []) (WC := [(h_t, .inr (10, [.ref h_t_w, .int f_t_known, .int f_t_kept, .int f_t_seed, .ref h_t_imageSeed, .ref h_t_bookOf, .ref h_t_bookIs, .int f_t_written, .ref h_t_forms, .int f_t_formRing, .int f_t_formMany, .ref h_t_best, .ref h_t_next, .ref h_t_ways, .ref h_t_round, .ref h_t_roughs, .int f_t_latest])), (h_t_forms, .inl (cA, 400, .inl f_t_forms)), (h_t_w, .inl (cA, 190, .inl f_t_w))]) (WC' := [(h_t, .inr (10, [.ref h_t_w, .int f_t_known, .int f_t_kept, .int f_t_seed, .ref h_t_imageSeed, .ref h_t_bookOf, .ref h_t_bookIs, .int f_t_written, .ref h_t_forms, .int f_t_formRing_1, .int f_t_formMany_1, .ref h_t_best, .ref h_t_next, .ref h_t_ways, .ref h_t_round, .ref h_t_roughs, .int f_t_latest])), (h_t_forms, .inl (cA, 400, .inl f_t_forms_1)), (h_t_w, .inl (cA, 190, .inl f_t_w))]) (WR := []) (W' := [(h_t, .inr (10, [.ref h_t_w, .int f_t_known, .int f_t_kept, .int f_t_seed, .ref h_t_imageSeed, .ref h_t_bookOf, .ref h_t_bookIs, .int f_t_written, .ref h_t_forms, .int f_t_formRing_1, .int f_t_formMany_1, .ref h_t_best, .ref h_t_next, .ref h_t_ways, .ref h_t_round, .ref h_t_roughs, .int f_t_latest])), (h_t_forms, .inl (cA, 400, .inl f_t_forms_1)), (h_t_w, .inl (cA, 190, .inl f_t_w))]) ⟨hx, hb, hml, hown, hts⟩ hK hP hD hS hA (c_Md_layForms l dC dI cA fu h_t h_t_w h_t_imageSeed h_t_bookOf h_t_bookIs h_t_forms h_t_best h_t_next h_t_ways h_t_round h_t_roughs f_t_known f_t_kept f_t_seed f_t_written f_t_formRing f_t_formMany f_t_latest f_t_forms f_t_w f_t_formMany_1 f_t_formRing_1 f_t_forms_1 hc1) (cwV 0 hts gX11_twinPairs_X11_layForms rfl rfl rfl (by decide +kernel) ⟨Nat.le_of_ble_eq_true rfl, Nat.le_of_ble_eq_true rfl⟩) [0, 1, 2] [] [0, 1, 2] rfl rfl rfl rfl (ci := 10) (q0 := 0) rfl rfl rfl rfl hl.1 (Nat.le_of_ble_eq_true rfl) dX11_twinPairs_1 ⟨Nat.zero_le _, Nat.zero_le _⟩ (fun H locs hP hD hS => ?_)
  refine lv_iconst (v := 0) hx hb dX11_twinPairs_4 (by decide) ?_
  refine lv_topi (fun v1_1 ev1_1 => ?_)
  replace hm := lt_go ev1_1 hm
  refine lv_istore_n (lv' := [(1, .int v1_1), (0, .ref h_t)]) hx hb dX11_twinPairs_5 rfl hl (by decide) rfl (fun ls hl => ?_)
  refine lv_iconst (v := 0) hx hb dX11_twinPairs_6 (by decide) ?_
  refine lv_topi (fun v2_1 ev2_1 => ?_)
  replace hm := lt_go ev2_1 hm
  refine lv_istore_n (lv' := [(2, .int v2_1), (1, .int v1_1), (0, .ref h_t)]) hx hb dX11_twinPairs_7 rfl hl (by decide) rfl (fun ls hl => ?_)
  have L8 : ∀ (n : Nat) (v1_2 : Int32) (v2_2 : Int32) (f_t_formMany_2 : Int32) (f_t_formRing_2 : Int32) (f_t_forms_2 : Nat → Int32) (v1_3 : Int32) (f_t_formMany_3 : Int32) (f_t_formRing_3 : Int32) (f_t_forms_3 : Nat → Int32), m_Md_twinPairs_L8 fu f_t_w n v1_2 v2_2 f_t_formMany_2 f_t_formRing_2 f_t_forms_2 = some (v1_3, f_t_formMany_3, f_t_formRing_3, f_t_forms_3) → ∀ (H : Heap) (locs : List Loc), va_P (dC, dI) vwCl [(h_t, .inr (10, [.ref h_t_w, .int f_t_known, .int f_t_kept, .int f_t_seed, .ref h_t_imageSeed, .ref h_t_bookOf, .ref h_t_bookIs, .int f_t_written, .ref h_t_forms, .int f_t_formRing_2, .int f_t_formMany_2, .ref h_t_best, .ref h_t_next, .ref h_t_ways, .ref h_t_round, .ref h_t_roughs, .int f_t_latest])), (h_t_forms, .inl (cA, 400, .inl f_t_forms_2)), (h_t_w, .inl (cA, 190, .inl f_t_w))] H → va_D A [(h_t, .inr (10, [.ref h_t_w, .int f_t_known, .int f_t_kept, .int f_t_seed, .ref h_t_imageSeed, .ref h_t_bookOf, .ref h_t_bookIs, .int f_t_written, .ref h_t_forms, .int f_t_formRing_2, .int f_t_formMany_2, .ref h_t_best, .ref h_t_next, .ref h_t_ways, .ref h_t_round, .ref h_t_roughs, .int f_t_latest])), (h_t_forms, .inl (cA, 400, .inl f_t_forms_2)), (h_t_w, .inl (cA, 190, .inl f_t_w))] → va_S A s.heap H locs → ∀ ls : Array Slot, lv_has ls 3 [(0, .ref h_t), (1, .int v1_2), (2, .int v2_2)] → (∀ (H : Heap) (locs : List Loc), va_P (dC, dI) vwCl [(h_t, .inr (10, [.ref h_t_w, .int f_t_known, .int f_t_kept, .int f_t_seed, .ref h_t_imageSeed, .ref h_t_bookOf, .ref h_t_bookIs, .int f_t_written, .ref h_t_forms, .int f_t_formRing_3, .int f_t_formMany_3, .ref h_t_best, .ref h_t_next, .ref h_t_ways, .ref h_t_round, .ref h_t_roughs, .int f_t_latest])), (h_t_forms, .inl (cA, 400, .inl f_t_forms_3)), (h_t_w, .inl (cA, 190, .inl f_t_w))] H → va_D A [(h_t, .inr (10, [.ref h_t_w, .int f_t_known, .int f_t_kept, .int f_t_seed, .ref h_t_imageSeed, .ref h_t_bookOf, .ref h_t_bookIs, .int f_t_written, .ref h_t_forms, .int f_t_formRing_3, .int f_t_formMany_3, .ref h_t_best, .ref h_t_next, .ref h_t_ways, .ref h_t_round, .ref h_t_roughs, .int f_t_latest])), (h_t_forms, .inl (cA, 400, .inl f_t_forms_3)), (h_t_w, .inl (cA, 190, .inl f_t_w))] → va_S A s.heap H locs → ∀ ls : Array Slot, lv_has ls 3 [(1, .int v1_3)] → W p l e (headSpec wsX11_twinPairs rmX11_twinPairs).room s m (([.ref h_t] : List Value).toArray) below meth c H locs 0 0 Q (F0 m 35 ls [])) → W p l e (headSpec wsX11_twinPairs rmX11_twinPairs).room s m (([.ref h_t] : List Value).toArray) below meth c H locs 0 0 Q (F0 m 8 ls []) := by
    clear hm hP hD hS hl
    intro n
    induction n with
    | zero => intro _ _ _ _ _ _ _ _ _ hm; exact nomatch (show none = some _ from hm)
    | succ n ih =>
      intro v1_2 v2_2 f_t_formMany_2 f_t_formRing_2 f_t_forms_2 v1_3 f_t_formMany_3 f_t_formRing_3 f_t_forms_3 hm H locs hP hD hS ls hl KK
      unfold m_Md_twinPairs_L8 at hm
      refine lv_iload_n hx hb dX11_twinPairs_8 rfl (lv_at hl 2 rfl) ?_
      refine lv_aload_n hx hb dX11_twinPairs_9 rfl (lv_at hl 0 rfl) ?_
      refine va_get (D := (dC, dI)) (ci := 10) (v := .int f_t_formMany_2) (C := RX11) (T := TX11) (N := 17) hx hb hts uX11 hown hK hP 0 rfl rfl 10 (by decide) k1 (fun _ h9 => h9) rfl dX11_twinPairs_10 ?_
      refine lv_icmp_ge (tgt := 35) hx hb dX11_twinPairs_13 (by decide) (fun c13 => ?_) (fun c13 => ?_)
      · replace hm := if_t c13 hm
        cases hm
        exact KK _ _ hP hD hS _ (lv_sub hl [1] rfl)
      · replace hm := if_f c13 hm
        refine lv_iload_n hx hb dX11_twinPairs_16 rfl (lv_at hl 1 rfl) ?_
        refine lv_aload_n hx hb dX11_twinPairs_17 rfl (lv_at hl 0 rfl) ?_
        refine lv_aload_n hx hb dX11_twinPairs_18 rfl (lv_at hl 0 rfl) ?_
        refine va_get (D := (dC, dI)) (ci := 10) (v := .ref h_t_forms) (C := RX11) (T := TX11) (N := 17) hx hb hts uX11 hown hK hP 0 rfl rfl 8 (by decide) k2 (fun _ h9 => h9) rfl dX11_twinPairs_19 ?_
        refine lv_iload_n hx hb dX11_twinPairs_22 rfl (lv_at hl 2 rfl) ?_
        obtain ⟨b23, hm⟩ := ck_go hm
        refine va_iald hx hb hK hP 1 0 rfl rfl b23 dX11_twinPairs_23 ?_
        obtain ⟨r_1, f_t_formMany_4, f_t_formRing_4, f_t_forms_4, hc24, hm⟩ := bd4_go hm
        refine my_cVi (As := [.int (f_t_forms_2 v2_2.toNatClampNeg)]) (rest := [.int v1_2]) (WC := [(h_t, .inr (10, [.ref h_t_w, .int f_t_known, .int f_t_kept, .int f_t_seed, .ref h_t_imageSeed, .ref h_t_bookOf, .ref h_t_bookIs, .int f_t_written, .ref h_t_forms, .int f_t_formRing_2, .int f_t_formMany_2, .ref h_t_best, .ref h_t_next, .ref h_t_ways, .ref h_t_round, .ref h_t_roughs, .int f_t_latest])), (h_t_forms, .inl (cA, 400, .inl f_t_forms_2)), (h_t_w, .inl (cA, 190, .inl f_t_w))]) (WC' := [(h_t, .inr (10, [.ref h_t_w, .int f_t_known, .int f_t_kept, .int f_t_seed, .ref h_t_imageSeed, .ref h_t_bookOf, .ref h_t_bookIs, .int f_t_written, .ref h_t_forms, .int f_t_formRing_4, .int f_t_formMany_4, .ref h_t_best, .ref h_t_next, .ref h_t_ways, .ref h_t_round, .ref h_t_roughs, .int f_t_latest])), (h_t_forms, .inl (cA, 400, .inl f_t_forms_4)), (h_t_w, .inl (cA, 190, .inl f_t_w))]) (WR := []) (W' := [(h_t, .inr (10, [.ref h_t_w, .int f_t_known, .int f_t_kept, .int f_t_seed, .ref h_t_imageSeed, .ref h_t_bookOf, .ref h_t_bookIs, .int f_t_written, .ref h_t_forms, .int f_t_formRing_4, .int f_t_formMany_4, .ref h_t_best, .ref h_t_next, .ref h_t_ways, .ref h_t_round, .ref h_t_roughs, .int f_t_latest])), (h_t_forms, .inl (cA, 400, .inl f_t_forms_4)), (h_t_w, .inl (cA, 190, .inl f_t_w))]) ⟨hx, hb, hml, hown, hts⟩ hK hP hD hS hA (c_Md_twins l dC dI cA fu h_t h_t_w h_t_imageSeed h_t_bookOf h_t_bookIs h_t_forms h_t_best h_t_next h_t_ways h_t_round h_t_roughs f_t_known f_t_kept f_t_seed f_t_written f_t_formRing_2 f_t_formMany_2 f_t_latest f_t_forms_2 f_t_w (f_t_forms_2 v2_2.toNatClampNeg) r_1 f_t_formMany_4 f_t_formRing_4 f_t_forms_4 hc24) (cwV 1 hts gX11_twinPairs_X11_twins rfl rfl rfl (by decide +kernel) ⟨Nat.le_of_ble_eq_true rfl, Nat.le_of_ble_eq_true rfl⟩) [0, 1, 2] [] [0, 1, 2] rfl rfl rfl rfl (ci := 10) (q0 := 0) rfl rfl rfl rfl hl.1 (Nat.le_of_ble_eq_true rfl) dX11_twinPairs_24 ⟨Nat.zero_le _, Nat.zero_le _⟩ (fun H locs hP hD hS => ?_)
        refine lv_iadd hx hb dX11_twinPairs_27 ?_
        refine lv_topi (fun v1_4 ev1_4 => ?_)
        replace hm := lt_go ev1_4 hm
        refine lv_istore_n (lv' := [(1, .int v1_4), (0, .ref h_t), (2, .int v2_2)]) hx hb dX11_twinPairs_28 rfl hl (by decide) rfl (fun ls hl => ?_)
        obtain ⟨v2_3, ev2_3⟩ : ∃ z : Int32, z = v2_2 + 1 := ⟨_, rfl⟩
        replace hm := lt_go ev2_3 hm
        refine lv_iinc (v := v2_3) (lv' := [(2, .int v2_3), (1, .int v1_4), (0, .ref h_t)]) hx hb dX11_twinPairs_29 hl (k := 2) rfl (by rw [ev2_3]; rfl) (by decide) rfl (fun ls hl => ?_)
        refine lv_goto (tgt := 8) hx hb dX11_twinPairs_32 (by decide) ?_
        exact ih _ _ _ _ _ _ _ _ _ hm _ _ hP hD hS _ (lv_sub hl [2, 1, 0] rfl) KK
  obtain ⟨v1_5, f_t_formMany_5, f_t_formRing_5, f_t_forms_5, hl8, hm⟩ := bd4_go hm
  refine L8 _ _ _ _ _ _ _ _ _ _ hl8 _ _ hP hD hS _ (lv_sub hl [2, 1, 0] rfl) (fun H locs hP hD hS ls hl => ?_)
  refine lv_iload_n hx hb dX11_twinPairs_35 rfl (lv_at hl 0 rfl) ?_
  refine lv_iconst (v := 2) hx hb dX11_twinPairs_36 (by decide) ?_
  refine lv_idiv hx hb dX11_twinPairs_37 (by decide) ?_
  cases hm
  exact W_mono hQ (W.iret hx hb hr (fun t ht hW => ⟨⟨_, (), rfl, rfl, by rw [ht]; exact hP, va_K.moved hW.alike hK, hD⟩, hS.F ht⟩) hS.2.2 dX11_twinPairs_38)
abbrev rmX11_unlikeForms : Room := { frames := 4, cells := 0, slots := 0, locals := 92 }
theorem uX11_X11_unlikeForms : ∀ w ∈ wsX110, w ∈ wsX11_unlikeForms := fun _ h => List.mem_cons_of_mem _ (List.mem_append_right _ (h))
set_option maxHeartbeats 40000000 in
set_option maxRecDepth 100000 in
theorem c_Md_unlikeForms (l : Launch) (dC : Nat → ClassId) (dI : Nat → Nat → Nat) (cA : ClassId) (fu : Nat) (h_t h_t_w h_t_imageSeed h_t_bookOf h_t_bookIs h_t_forms h_t_best h_t_next h_t_ways h_t_round h_t_roughs : Nat) (f_t_known : Int32) (f_t_kept : Int32) (f_t_seed : Int32) (f_t_written : Int32) (f_t_formRing : Int32) (f_t_formMany : Int32) (f_t_latest : Int32) (f_t_w : Nat → Int32) (r0 : Int32) (hm : m_Md_unlikeForms fu f_t_w = some r0) (sz : Nat) : Met l yX11_unlikeForms wsX11_unlikeForms rmX11_unlikeForms (mPre (dC, dI) cA [.ref h_t] sz [(h_t, .inr (10, [.ref h_t_w, .int f_t_known, .int f_t_kept, .int f_t_seed, .ref h_t_imageSeed, .ref h_t_bookOf, .ref h_t_bookIs, .int f_t_written, .ref h_t_forms, .int f_t_formRing, .int f_t_formMany, .ref h_t_best, .ref h_t_next, .ref h_t_ways, .ref h_t_round, .ref h_t_roughs, .int f_t_latest])), (h_t_w, .inl (cA, 190, .inl f_t_w))]) (mPosI (dC, dI) cA r0 (va_A [(h_t, .inr (10, [.ref h_t_w, .int f_t_known, .int f_t_kept, .int f_t_seed, .ref h_t_imageSeed, .ref h_t_bookOf, .ref h_t_bookIs, .int f_t_written, .ref h_t_forms, .int f_t_formRing, .int f_t_formMany, .ref h_t_best, .ref h_t_next, .ref h_t_ways, .ref h_t_round, .ref h_t_roughs, .int f_t_latest])), (h_t_w, .inl (cA, 190, .inl f_t_w))] sz) [(h_t, .inr (10, [.ref h_t_w, .int f_t_known, .int f_t_kept, .int f_t_seed, .ref h_t_imageSeed, .ref h_t_bookOf, .ref h_t_bookIs, .int f_t_written, .ref h_t_forms, .int f_t_formRing, .int f_t_formMany, .ref h_t_best, .ref h_t_next, .ref h_t_ways, .ref h_t_round, .ref h_t_roughs, .int f_t_latest])), (h_t_w, .inl (cA, 190, .inl f_t_w))]) 0 0 (va_A [(h_t, .inr (10, [.ref h_t_w, .int f_t_known, .int f_t_kept, .int f_t_seed, .ref h_t_imageSeed, .ref h_t_bookOf, .ref h_t_bookIs, .int f_t_written, .ref h_t_forms, .int f_t_formRing, .int f_t_formMany, .ref h_t_best, .ref h_t_next, .ref h_t_ways, .ref h_t_round, .ref h_t_roughs, .int f_t_latest])), (h_t_w, .inl (cA, 190, .inl f_t_w))] sz) := by
  refine Met.ofW (cc := cX11_unlikeForms) (maxL := 5) (ret := (some .int)) (by decide) rfl ?_
  intro p e s m args below meth c s₁ B hml hv
  obtain ⟨rfl, hsz, hP, hK, hD0⟩ := hv
  refine W_gen (fun Q hQ => ?_)
  have hx := B.exec
  have hb := B.bytes
  have hr := B.returns
  have hts := atoms_spec (ws := wsX11_unlikeForms) B.pre
  have hown : s.vm.findClass RX11 = some m.cls := findClass_of_methodNamed B.named
  have hlocks := B.notSynchronized
  subst hsz
  have hD := hD0.self (sz := s.heap.size)
  clear hD0
  generalize hAe : va_A [(h_t, .inr (10, [.ref h_t_w, .int f_t_known, .int f_t_kept, .int f_t_seed, .ref h_t_imageSeed, .ref h_t_bookOf, .ref h_t_bookIs, .int f_t_written, .ref h_t_forms, .int f_t_formRing, .int f_t_formMany, .ref h_t_best, .ref h_t_next, .ref h_t_ways, .ref h_t_round, .ref h_t_roughs, .int f_t_latest])), (h_t_w, .inl (cA, 190, .inl f_t_w))] s.heap.size = A at hD hQ
  have hA : ∀ q : Nat, s.heap.size ≤ q → A q := fun q h => by rw [← hAe]; exact Or.inr h
  clear hAe
  have hS : va_S A s.heap s.heap [] := va_S.rf
  have hl := lv_entry ([.ref h_t]) (n := 5) (Nat.le_of_ble_eq_true rfl)
  rw [lg_entry_eq]
  generalize (lg_sl ([.ref h_t]) ++ List.replicate (5 - (lg_sl ([.ref h_t])).length) Slot.unset).toArray = ls at hl ⊢
  have hl : lv_has ls 5 [(0, .ref h_t)] := hl
  have k1 := hts (.fieldLink RX11 7 "ToneSetsModel" "w" "[I") (List.mem_of_getElem? (i := 1) rfl)
  have uX11 := uX11_X11_unlikeForms
  unfold m_Md_unlikeForms at hm
  refine lv_iconst (v := 0) hx hb dX11_unlikeForms_0 (by decide) ?_
  refine lv_topi (fun v1_1 ev1_1 => ?_)
  replace hm := lt_go ev1_1 hm
  refine lv_istore_n (lv' := [(1, .int v1_1), (0, .ref h_t)]) hx hb dX11_unlikeForms_1 rfl hl (by decide) rfl (fun ls hl => ?_)
  refine lv_iconst (v := 0) hx hb dX11_unlikeForms_2 (by decide) ?_
  refine lv_topi (fun v2_1 ev2_1 => ?_)
  replace hm := lt_go ev2_1 hm
  refine lv_istore_n (lv' := [(2, .int v2_1), (1, .int v1_1), (0, .ref h_t)]) hx hb dX11_unlikeForms_3 rfl hl (by decide) rfl (fun ls hl => ?_)
  have L4 : ∀ (n : Nat) (v1_2 : Int32) (v2_2 : Int32) (v1_3 : Int32), m_Md_unlikeForms_L4 fu f_t_w n v1_2 v2_2 = some v1_3 → ∀ (H : Heap) (locs : List Loc), va_P (dC, dI) vwCl [(h_t, .inr (10, [.ref h_t_w, .int f_t_known, .int f_t_kept, .int f_t_seed, .ref h_t_imageSeed, .ref h_t_bookOf, .ref h_t_bookIs, .int f_t_written, .ref h_t_forms, .int f_t_formRing, .int f_t_formMany, .ref h_t_best, .ref h_t_next, .ref h_t_ways, .ref h_t_round, .ref h_t_roughs, .int f_t_latest])), (h_t_w, .inl (cA, 190, .inl f_t_w))] H → va_D A [(h_t, .inr (10, [.ref h_t_w, .int f_t_known, .int f_t_kept, .int f_t_seed, .ref h_t_imageSeed, .ref h_t_bookOf, .ref h_t_bookIs, .int f_t_written, .ref h_t_forms, .int f_t_formRing, .int f_t_formMany, .ref h_t_best, .ref h_t_next, .ref h_t_ways, .ref h_t_round, .ref h_t_roughs, .int f_t_latest])), (h_t_w, .inl (cA, 190, .inl f_t_w))] → va_S A s.heap H locs → ∀ ls : Array Slot, lv_has ls 5 [(0, .ref h_t), (1, .int v1_2), (2, .int v2_2)] → (∀ (H : Heap) (locs : List Loc), va_P (dC, dI) vwCl [(h_t, .inr (10, [.ref h_t_w, .int f_t_known, .int f_t_kept, .int f_t_seed, .ref h_t_imageSeed, .ref h_t_bookOf, .ref h_t_bookIs, .int f_t_written, .ref h_t_forms, .int f_t_formRing, .int f_t_formMany, .ref h_t_best, .ref h_t_next, .ref h_t_ways, .ref h_t_round, .ref h_t_roughs, .int f_t_latest])), (h_t_w, .inl (cA, 190, .inl f_t_w))] H → va_D A [(h_t, .inr (10, [.ref h_t_w, .int f_t_known, .int f_t_kept, .int f_t_seed, .ref h_t_imageSeed, .ref h_t_bookOf, .ref h_t_bookIs, .int f_t_written, .ref h_t_forms, .int f_t_formRing, .int f_t_formMany, .ref h_t_best, .ref h_t_next, .ref h_t_ways, .ref h_t_round, .ref h_t_roughs, .int f_t_latest])), (h_t_w, .inl (cA, 190, .inl f_t_w))] → va_S A s.heap H locs → ∀ ls : Array Slot, lv_has ls 5 [(1, .int v1_3)] → W p l e (headSpec wsX11_unlikeForms rmX11_unlikeForms).room s m (([.ref h_t] : List Value).toArray) below meth c H locs 0 0 Q (F0 m 87 ls [])) → W p l e (headSpec wsX11_unlikeForms rmX11_unlikeForms).room s m (([.ref h_t] : List Value).toArray) below meth c H locs 0 0 Q (F0 m 4 ls []) := by
    clear hm hP hD hS hl
    intro n
    induction n with
    | zero => intro _ _ _ hm; exact nomatch (show none = some _ from hm)
    | succ n ih =>
      intro v1_2 v2_2 v1_3 hm H locs hP hD hS ls hl KK
      unfold m_Md_unlikeForms_L4 at hm
      refine lv_iload_n hx hb dX11_unlikeForms_4 rfl (lv_at hl 2 rfl) ?_
      refine lv_aload_n hx hb dX11_unlikeForms_5 rfl (lv_at hl 0 rfl) ?_
      refine va_get (D := (dC, dI)) (ci := 10) (v := .ref h_t_w) (C := RX11) (T := TX11) (N := 17) hx hb hts uX11 hown hK hP 0 rfl rfl 0 (by decide) k1 (fun _ h9 => h9) rfl dX11_unlikeForms_6 ?_
      refine lv_iconst (v := 1) hx hb dX11_unlikeForms_9 (by decide) ?_
      obtain ⟨b10, hm⟩ := ck_go hm
      refine va_iald hx hb hK hP 1 0 rfl rfl b10 dX11_unlikeForms_10 ?_
      refine lv_icmp_ge (tgt := 87) hx hb dX11_unlikeForms_11 (by decide) (fun c11 => ?_) (fun c11 => ?_)
      · replace hm := if_t c11 hm
        cases hm
        exact KK _ _ hP hD hS _ (lv_sub hl [1] rfl)
      · replace hm := if_f c11 hm
        refine lv_iconst (v := 1) hx hb dX11_unlikeForms_14 (by decide) ?_
        refine lv_topi (fun v3_1 ev3_1 => ?_)
        replace hm := lt_go ev3_1 hm
        refine lv_istore_n (lv' := [(3, .int v3_1), (0, .ref h_t), (1, .int v1_2), (2, .int v2_2)]) hx hb dX11_unlikeForms_15 rfl hl (by decide) rfl (fun ls hl => ?_)
        refine lv_iconst (v := 0) hx hb dX11_unlikeForms_16 (by decide) ?_
        refine lv_topi (fun v4_1 ev4_1 => ?_)
        replace hm := lt_go ev4_1 hm
        refine lv_istore (lv' := [(4, .int v4_1), (3, .int v3_1), (0, .ref h_t), (1, .int v1_2), (2, .int v2_2)]) hx hb dX11_unlikeForms_17 hl (by decide) rfl (fun ls hl => ?_)
        have L19 : ∀ (n : Nat) (v3_2 : Int32) (v4_2 : Int32) (v3_3 : Int32), m_Md_unlikeForms_L19 fu v2_2 f_t_w n v3_2 v4_2 = some v3_3 → ∀ (H : Heap) (locs : List Loc), va_P (dC, dI) vwCl [(h_t, .inr (10, [.ref h_t_w, .int f_t_known, .int f_t_kept, .int f_t_seed, .ref h_t_imageSeed, .ref h_t_bookOf, .ref h_t_bookIs, .int f_t_written, .ref h_t_forms, .int f_t_formRing, .int f_t_formMany, .ref h_t_best, .ref h_t_next, .ref h_t_ways, .ref h_t_round, .ref h_t_roughs, .int f_t_latest])), (h_t_w, .inl (cA, 190, .inl f_t_w))] H → va_D A [(h_t, .inr (10, [.ref h_t_w, .int f_t_known, .int f_t_kept, .int f_t_seed, .ref h_t_imageSeed, .ref h_t_bookOf, .ref h_t_bookIs, .int f_t_written, .ref h_t_forms, .int f_t_formRing, .int f_t_formMany, .ref h_t_best, .ref h_t_next, .ref h_t_ways, .ref h_t_round, .ref h_t_roughs, .int f_t_latest])), (h_t_w, .inl (cA, 190, .inl f_t_w))] → va_S A s.heap H locs → ∀ ls : Array Slot, lv_has ls 5 [(0, .ref h_t), (1, .int v1_2), (2, .int v2_2), (3, .int v3_2), (4, .int v4_2)] → (∀ (H : Heap) (locs : List Loc), va_P (dC, dI) vwCl [(h_t, .inr (10, [.ref h_t_w, .int f_t_known, .int f_t_kept, .int f_t_seed, .ref h_t_imageSeed, .ref h_t_bookOf, .ref h_t_bookIs, .int f_t_written, .ref h_t_forms, .int f_t_formRing, .int f_t_formMany, .ref h_t_best, .ref h_t_next, .ref h_t_ways, .ref h_t_round, .ref h_t_roughs, .int f_t_latest])), (h_t_w, .inl (cA, 190, .inl f_t_w))] H → va_D A [(h_t, .inr (10, [.ref h_t_w, .int f_t_known, .int f_t_kept, .int f_t_seed, .ref h_t_imageSeed, .ref h_t_bookOf, .ref h_t_bookIs, .int f_t_written, .ref h_t_forms, .int f_t_formRing, .int f_t_formMany, .ref h_t_best, .ref h_t_next, .ref h_t_ways, .ref h_t_round, .ref h_t_roughs, .int f_t_latest])), (h_t_w, .inl (cA, 190, .inl f_t_w))] → va_S A s.heap H locs → ∀ ls : Array Slot, lv_has ls 5 [(0, .ref h_t), (1, .int v1_2), (2, .int v2_2), (3, .int v3_3)] → W p l e (headSpec wsX11_unlikeForms rmX11_unlikeForms).room s m (([.ref h_t] : List Value).toArray) below meth c H locs 0 0 Q (F0 m 69 ls [])) → W p l e (headSpec wsX11_unlikeForms rmX11_unlikeForms).room s m (([.ref h_t] : List Value).toArray) below meth c H locs 0 0 Q (F0 m 19 ls []) := by
          clear hm hP hD hS hl
          intro n
          induction n with
          | zero => intro _ _ _ hm; exact nomatch (show none = some _ from hm)
          | succ n ih =>
            intro v3_2 v4_2 v3_3 hm H locs hP hD hS ls hl KK
            unfold m_Md_unlikeForms_L19 at hm
            refine lv_iload hx hb dX11_unlikeForms_19 (lv_at hl 4 rfl) ?_
            refine lv_iload_n hx hb dX11_unlikeForms_21 rfl (lv_at hl 2 rfl) ?_
            refine lv_icmp_ge (tgt := 69) hx hb dX11_unlikeForms_22 (by decide) (fun c22 => ?_) (fun c22 => ?_)
            · replace hm := if_t c22 hm
              cases hm
              exact KK _ _ hP hD hS _ (lv_sub hl [0, 1, 2, 3] rfl)
            · replace hm := if_f c22 hm
              refine lv_iload_n hx hb dX11_unlikeForms_25 rfl (lv_at hl 3 rfl) ?_
              obtain ⟨q62_1, hqJ_1, hm⟩ := bd1_go hm
              have J_1 : ∀ (H : Heap) (locs : List Loc), va_P (dC, dI) vwCl [(h_t, .inr (10, [.ref h_t_w, .int f_t_known, .int f_t_kept, .int f_t_seed, .ref h_t_imageSeed, .ref h_t_bookOf, .ref h_t_bookIs, .int f_t_written, .ref h_t_forms, .int f_t_formRing, .int f_t_formMany, .ref h_t_best, .ref h_t_next, .ref h_t_ways, .ref h_t_round, .ref h_t_roughs, .int f_t_latest])), (h_t_w, .inl (cA, 190, .inl f_t_w))] H → va_D A [(h_t, .inr (10, [.ref h_t_w, .int f_t_known, .int f_t_kept, .int f_t_seed, .ref h_t_imageSeed, .ref h_t_bookOf, .ref h_t_bookIs, .int f_t_written, .ref h_t_forms, .int f_t_formRing, .int f_t_formMany, .ref h_t_best, .ref h_t_next, .ref h_t_ways, .ref h_t_round, .ref h_t_roughs, .int f_t_latest])), (h_t_w, .inl (cA, 190, .inl f_t_w))] → va_S A s.heap H locs → ∀ ls : Array Slot, lv_has ls 5 [(0, .ref h_t), (1, .int v1_2), (2, .int v2_2), (4, .int v4_2)] → W p l e (headSpec wsX11_unlikeForms rmX11_unlikeForms).room s m (([.ref h_t] : List Value).toArray) below meth c H locs 0 0 Q (F0 m 62 ls [.int q62_1]) := by
                intro H locs hP hD hS ls hl
                clear hqJ_1
                refine lv_topi (fun v3_4 ev3_4 => ?_)
                replace hm := lt_go ev3_4 hm
                refine lv_istore_n (lv' := [(3, .int v3_4), (0, .ref h_t), (1, .int v1_2), (2, .int v2_2), (4, .int v4_2)]) hx hb dX11_unlikeForms_62 rfl hl (by decide) rfl (fun ls hl => ?_)
                obtain ⟨v4_3, ev4_3⟩ : ∃ z : Int32, z = v4_2 + 1 := ⟨_, rfl⟩
                replace hm := lt_go ev4_3 hm
                refine lv_iinc (v := v4_3) (lv' := [(4, .int v4_3), (3, .int v3_4), (0, .ref h_t), (1, .int v1_2), (2, .int v2_2)]) hx hb dX11_unlikeForms_63 hl (k := 4) rfl (by rw [ev4_3]; rfl) (by decide) rfl (fun ls hl => ?_)
                refine lv_goto (tgt := 19) hx hb dX11_unlikeForms_66 (by decide) ?_
                exact ih _ _ _ hm _ _ hP hD hS _ (lv_sub hl [2, 3, 4, 1, 0] rfl) KK
              clear hm
              refine lv_if_eq (tgt := 61) hx hb dX11_unlikeForms_26 (by decide) (fun c26 => ?_) (fun c26 => ?_)
              · replace hqJ_1 := if_t c26 hqJ_1
                refine lv_iconst (v := 0) hx hb dX11_unlikeForms_61 (by decide) ?_
                cases hqJ_1
                exact J_1 _ _ hP hD hS _ (lv_sub hl [0, 1, 2, 4] rfl)
              · replace hqJ_1 := if_f c26 hqJ_1
                refine lv_aload_n hx hb dX11_unlikeForms_29 rfl (lv_at hl 0 rfl) ?_
                refine lv_aload_n hx hb dX11_unlikeForms_30 rfl (lv_at hl 0 rfl) ?_
                refine va_get (D := (dC, dI)) (ci := 10) (v := .ref h_t_w) (C := RX11) (T := TX11) (N := 17) hx hb hts uX11 hown hK hP 0 rfl rfl 0 (by decide) k1 (fun _ h9 => h9) rfl dX11_unlikeForms_31 ?_
                refine lv_iconst (v := 2) hx hb dX11_unlikeForms_34 (by decide) ?_
                refine lv_iload hx hb dX11_unlikeForms_35 (lv_at hl 4 rfl) ?_
                refine lv_iadd hx hb dX11_unlikeForms_37 ?_
                obtain ⟨b38, hqJ_1⟩ := ck_go hqJ_1
                refine va_iald hx hb hK hP 1 0 rfl rfl b38 dX11_unlikeForms_38 ?_
                obtain ⟨r_1, hc39, hqJ_1⟩ := bd1_go hqJ_1
                refine my_cVi (As := [.int (f_t_w (2 + v4_2).toNatClampNeg)]) (rest := []) (WC := [(h_t, .inr (10, [.ref h_t_w, .int f_t_known, .int f_t_kept, .int f_t_seed, .ref h_t_imageSeed, .ref h_t_bookOf, .ref h_t_bookIs, .int f_t_written, .ref h_t_forms, .int f_t_formRing, .int f_t_formMany, .ref h_t_best, .ref h_t_next, .ref h_t_ways, .ref h_t_round, .ref h_t_roughs, .int f_t_latest])), (h_t_w, .inl (cA, 190, .inl f_t_w))]) (WC' := [(h_t, .inr (10, [.ref h_t_w, .int f_t_known, .int f_t_kept, .int f_t_seed, .ref h_t_imageSeed, .ref h_t_bookOf, .ref h_t_bookIs, .int f_t_written, .ref h_t_forms, .int f_t_formRing, .int f_t_formMany, .ref h_t_best, .ref h_t_next, .ref h_t_ways, .ref h_t_round, .ref h_t_roughs, .int f_t_latest])), (h_t_w, .inl (cA, 190, .inl f_t_w))]) (WR := []) (W' := [(h_t, .inr (10, [.ref h_t_w, .int f_t_known, .int f_t_kept, .int f_t_seed, .ref h_t_imageSeed, .ref h_t_bookOf, .ref h_t_bookIs, .int f_t_written, .ref h_t_forms, .int f_t_formRing, .int f_t_formMany, .ref h_t_best, .ref h_t_next, .ref h_t_ways, .ref h_t_round, .ref h_t_roughs, .int f_t_latest])), (h_t_w, .inl (cA, 190, .inl f_t_w))]) ⟨hx, hb, hml, hown, hts⟩ hK hP hD hS hA (c_Md_formOf l dC dI cA fu h_t h_t_w h_t_imageSeed h_t_bookOf h_t_bookIs h_t_forms h_t_best h_t_next h_t_ways h_t_round h_t_roughs f_t_known f_t_kept f_t_seed f_t_written f_t_formRing f_t_formMany f_t_latest f_t_w (f_t_w (2 + v4_2).toNatClampNeg) r_1 hc39) (cwV 1 hts gX11_unlikeForms_X11_formOf rfl rfl rfl (by decide +kernel) ⟨Nat.le_of_ble_eq_true rfl, Nat.le_of_ble_eq_true rfl⟩) [0, 1] [] [0, 1] rfl rfl rfl rfl (ci := 10) (q0 := 0) rfl rfl rfl rfl hl.1 (Nat.le_of_ble_eq_true rfl) dX11_unlikeForms_39 ⟨Nat.zero_le _, Nat.zero_le _⟩ (fun H locs hP hD hS => ?_)
                refine lv_aload_n hx hb dX11_unlikeForms_42 rfl (lv_at hl 0 rfl) ?_
                refine lv_aload_n hx hb dX11_unlikeForms_43 rfl (lv_at hl 0 rfl) ?_
                refine va_get (D := (dC, dI)) (ci := 10) (v := .ref h_t_w) (C := RX11) (T := TX11) (N := 17) hx hb hts uX11 hown hK hP 0 rfl rfl 0 (by decide) k1 (fun _ h9 => h9) rfl dX11_unlikeForms_44 ?_
                refine lv_iconst (v := 2) hx hb dX11_unlikeForms_47 (by decide) ?_
                refine lv_iload_n hx hb dX11_unlikeForms_48 rfl (lv_at hl 2 rfl) ?_
                refine lv_iadd hx hb dX11_unlikeForms_49 ?_
                obtain ⟨b50, hqJ_1⟩ := ck_go hqJ_1
                refine va_iald hx hb hK hP 1 0 rfl rfl b50 dX11_unlikeForms_50 ?_
                obtain ⟨r_2, hc51, hqJ_1⟩ := bd1_go hqJ_1
                refine my_cVi (As := [.int (f_t_w (2 + v2_2).toNatClampNeg)]) (rest := [.int r_1]) (WC := [(h_t, .inr (10, [.ref h_t_w, .int f_t_known, .int f_t_kept, .int f_t_seed, .ref h_t_imageSeed, .ref h_t_bookOf, .ref h_t_bookIs, .int f_t_written, .ref h_t_forms, .int f_t_formRing, .int f_t_formMany, .ref h_t_best, .ref h_t_next, .ref h_t_ways, .ref h_t_round, .ref h_t_roughs, .int f_t_latest])), (h_t_w, .inl (cA, 190, .inl f_t_w))]) (WC' := [(h_t, .inr (10, [.ref h_t_w, .int f_t_known, .int f_t_kept, .int f_t_seed, .ref h_t_imageSeed, .ref h_t_bookOf, .ref h_t_bookIs, .int f_t_written, .ref h_t_forms, .int f_t_formRing, .int f_t_formMany, .ref h_t_best, .ref h_t_next, .ref h_t_ways, .ref h_t_round, .ref h_t_roughs, .int f_t_latest])), (h_t_w, .inl (cA, 190, .inl f_t_w))]) (WR := []) (W' := [(h_t, .inr (10, [.ref h_t_w, .int f_t_known, .int f_t_kept, .int f_t_seed, .ref h_t_imageSeed, .ref h_t_bookOf, .ref h_t_bookIs, .int f_t_written, .ref h_t_forms, .int f_t_formRing, .int f_t_formMany, .ref h_t_best, .ref h_t_next, .ref h_t_ways, .ref h_t_round, .ref h_t_roughs, .int f_t_latest])), (h_t_w, .inl (cA, 190, .inl f_t_w))]) ⟨hx, hb, hml, hown, hts⟩ hK hP hD hS hA (c_Md_formOf l dC dI cA fu h_t h_t_w h_t_imageSeed h_t_bookOf h_t_bookIs h_t_forms h_t_best h_t_next h_t_ways h_t_round h_t_roughs f_t_known f_t_kept f_t_seed f_t_written f_t_formRing f_t_formMany f_t_latest f_t_w (f_t_w (2 + v2_2).toNatClampNeg) r_2 hc51) (cwV 1 hts gX11_unlikeForms_X11_formOf rfl rfl rfl (by decide +kernel) ⟨Nat.le_of_ble_eq_true rfl, Nat.le_of_ble_eq_true rfl⟩) [0, 1] [] [0, 1] rfl rfl rfl rfl (ci := 10) (q0 := 0) rfl rfl rfl rfl hl.1 (Nat.le_of_ble_eq_true rfl) dX11_unlikeForms_51 ⟨Nat.zero_le _, Nat.zero_le _⟩ (fun H locs hP hD hS => ?_)
                refine lv_icmp_eq (tgt := 61) hx hb dX11_unlikeForms_54 (by decide) (fun c54 => ?_) (fun c54 => ?_)
                · replace hqJ_1 := if_t c54 hqJ_1
                  refine lv_iconst (v := 0) hx hb dX11_unlikeForms_61 (by decide) ?_
                  cases hqJ_1
                  exact J_1 _ _ hP hD hS _ (lv_sub hl [0, 1, 2, 4] rfl)
                · replace hqJ_1 := if_f c54 hqJ_1
                  refine lv_iconst (v := 1) hx hb dX11_unlikeForms_57 (by decide) ?_
                  refine lv_goto (tgt := 62) hx hb dX11_unlikeForms_58 (by decide) ?_
                  cases hqJ_1
                  exact J_1 _ _ hP hD hS _ (lv_sub hl [0, 1, 2, 4] rfl)
        obtain ⟨v3_5, hl19, hm⟩ := bd1_go hm
        refine L19 _ _ _ _ hl19 _ _ hP hD hS _ (lv_sub hl [2, 3, 4, 1, 0] rfl) (fun H locs hP hD hS ls hl => ?_)
        refine lv_iload_n hx hb dX11_unlikeForms_69 rfl (lv_at hl 1 rfl) ?_
        refine lv_iload_n hx hb dX11_unlikeForms_70 rfl (lv_at hl 3 rfl) ?_
        obtain ⟨q79_1, hqJ_2, hm⟩ := bd1_go hm
        have J_2 : ∀ (H : Heap) (locs : List Loc), va_P (dC, dI) vwCl [(h_t, .inr (10, [.ref h_t_w, .int f_t_known, .int f_t_kept, .int f_t_seed, .ref h_t_imageSeed, .ref h_t_bookOf, .ref h_t_bookIs, .int f_t_written, .ref h_t_forms, .int f_t_formRing, .int f_t_formMany, .ref h_t_best, .ref h_t_next, .ref h_t_ways, .ref h_t_round, .ref h_t_roughs, .int f_t_latest])), (h_t_w, .inl (cA, 190, .inl f_t_w))] H → va_D A [(h_t, .inr (10, [.ref h_t_w, .int f_t_known, .int f_t_kept, .int f_t_seed, .ref h_t_imageSeed, .ref h_t_bookOf, .ref h_t_bookIs, .int f_t_written, .ref h_t_forms, .int f_t_formRing, .int f_t_formMany, .ref h_t_best, .ref h_t_next, .ref h_t_ways, .ref h_t_round, .ref h_t_roughs, .int f_t_latest])), (h_t_w, .inl (cA, 190, .inl f_t_w))] → va_S A s.heap H locs → ∀ ls : Array Slot, lv_has ls 5 [(0, .ref h_t), (2, .int v2_2)] → W p l e (headSpec wsX11_unlikeForms rmX11_unlikeForms).room s m (([.ref h_t] : List Value).toArray) below meth c H locs 0 0 Q (F0 m 79 ls [.int q79_1, .int v1_2]) := by
          intro H locs hP hD hS ls hl
          clear hqJ_2
          refine lv_iadd hx hb dX11_unlikeForms_79 ?_
          refine lv_topi (fun v1_4 ev1_4 => ?_)
          replace hm := lt_go ev1_4 hm
          refine lv_istore_n (lv' := [(1, .int v1_4), (0, .ref h_t), (2, .int v2_2)]) hx hb dX11_unlikeForms_80 rfl hl (by decide) rfl (fun ls hl => ?_)
          obtain ⟨v2_3, ev2_3⟩ : ∃ z : Int32, z = v2_2 + 1 := ⟨_, rfl⟩
          replace hm := lt_go ev2_3 hm
          refine lv_iinc (v := v2_3) (lv' := [(2, .int v2_3), (1, .int v1_4), (0, .ref h_t)]) hx hb dX11_unlikeForms_81 hl (k := 2) rfl (by rw [ev2_3]; rfl) (by decide) rfl (fun ls hl => ?_)
          refine lv_goto (tgt := 4) hx hb dX11_unlikeForms_84 (by decide) ?_
          exact ih _ _ _ hm _ _ hP hD hS _ (lv_sub hl [2, 1, 0] rfl) KK
        clear hm
        refine lv_if_eq (tgt := 78) hx hb dX11_unlikeForms_71 (by decide) (fun c71 => ?_) (fun c71 => ?_)
        · replace hqJ_2 := if_t c71 hqJ_2
          refine lv_iconst (v := 0) hx hb dX11_unlikeForms_78 (by decide) ?_
          cases hqJ_2
          exact J_2 _ _ hP hD hS _ (lv_sub hl [0, 2] rfl)
        · replace hqJ_2 := if_f c71 hqJ_2
          refine lv_iconst (v := 1) hx hb dX11_unlikeForms_74 (by decide) ?_
          refine lv_goto (tgt := 79) hx hb dX11_unlikeForms_75 (by decide) ?_
          cases hqJ_2
          exact J_2 _ _ hP hD hS _ (lv_sub hl [0, 2] rfl)
  obtain ⟨v1_5, hl4, hm⟩ := bd1_go hm
  refine L4 _ _ _ _ hl4 _ _ hP hD hS _ (lv_sub hl [2, 1, 0] rfl) (fun H locs hP hD hS ls hl => ?_)
  refine lv_iload_n hx hb dX11_unlikeForms_87 rfl (lv_at hl 0 rfl) ?_
  cases hm
  exact W_mono hQ (W.iret hx hb hr (fun t ht hW => ⟨⟨_, (), rfl, rfl, by rw [ht]; exact hP, va_K.moved hW.alike hK, hD⟩, hS.F ht⟩) hS.2.2 dX11_unlikeForms_88)
abbrev rmX11_wrong : Room := { frames := 5, cells := 0, slots := 0, locals := 114 }
theorem uX11_X11_wrong : ∀ w ∈ wsX110, w ∈ wsX11_wrong := fun _ h => List.mem_cons_of_mem _ (List.mem_append_right _ (h))
set_option maxHeartbeats 40000000 in
set_option maxRecDepth 100000 in
theorem c_Md_wrong (l : Launch) (dC : Nat → ClassId) (dI : Nat → Nat → Nat) (cA : ClassId) (fu : Nat) (h_t h_t_w h_t_imageSeed h_t_bookOf h_t_bookIs h_t_forms h_t_best h_t_next h_t_ways h_t_round h_t_roughs : Nat) (f_t_known : Int32) (f_t_kept : Int32) (f_t_seed : Int32) (f_t_written : Int32) (f_t_formRing : Int32) (f_t_formMany : Int32) (f_t_latest : Int32) (f_t_best : Nat → Int32) (f_t_bookIs : Nat → Int32) (f_t_bookOf : Nat → Int32) (f_t_next : Nat → Int32) (f_t_w : Nat → Int32) (r0 : Int32) (f_t_best_z : Nat → Int32) (f_t_next_z : Nat → Int32) (hm : m_Md_wrong fu f_t_best f_t_bookIs f_t_bookOf f_t_next f_t_w f_t_written = some (r0, f_t_best_z, f_t_next_z)) (sz : Nat) : Met l yX11_wrong wsX11_wrong rmX11_wrong (mPre (dC, dI) cA [.ref h_t] sz [(h_t, .inr (10, [.ref h_t_w, .int f_t_known, .int f_t_kept, .int f_t_seed, .ref h_t_imageSeed, .ref h_t_bookOf, .ref h_t_bookIs, .int f_t_written, .ref h_t_forms, .int f_t_formRing, .int f_t_formMany, .ref h_t_best, .ref h_t_next, .ref h_t_ways, .ref h_t_round, .ref h_t_roughs, .int f_t_latest])), (h_t_best, .inl (cA, 4096, .inl f_t_best)), (h_t_bookIs, .inl (cA, 20, .inl f_t_bookIs)), (h_t_bookOf, .inl (cA, 20, .inl f_t_bookOf)), (h_t_next, .inl (cA, 4096, .inl f_t_next)), (h_t_w, .inl (cA, 190, .inl f_t_w))]) (mPosI (dC, dI) cA r0 (va_A [(h_t, .inr (10, [.ref h_t_w, .int f_t_known, .int f_t_kept, .int f_t_seed, .ref h_t_imageSeed, .ref h_t_bookOf, .ref h_t_bookIs, .int f_t_written, .ref h_t_forms, .int f_t_formRing, .int f_t_formMany, .ref h_t_best, .ref h_t_next, .ref h_t_ways, .ref h_t_round, .ref h_t_roughs, .int f_t_latest])), (h_t_best, .inl (cA, 4096, .inl f_t_best)), (h_t_bookIs, .inl (cA, 20, .inl f_t_bookIs)), (h_t_bookOf, .inl (cA, 20, .inl f_t_bookOf)), (h_t_next, .inl (cA, 4096, .inl f_t_next)), (h_t_w, .inl (cA, 190, .inl f_t_w))] sz) [(h_t, .inr (10, [.ref h_t_w, .int f_t_known, .int f_t_kept, .int f_t_seed, .ref h_t_imageSeed, .ref h_t_bookOf, .ref h_t_bookIs, .int f_t_written, .ref h_t_forms, .int f_t_formRing, .int f_t_formMany, .ref h_t_best, .ref h_t_next, .ref h_t_ways, .ref h_t_round, .ref h_t_roughs, .int f_t_latest])), (h_t_best, .inl (cA, 4096, .inl f_t_best_z)), (h_t_bookIs, .inl (cA, 20, .inl f_t_bookIs)), (h_t_bookOf, .inl (cA, 20, .inl f_t_bookOf)), (h_t_next, .inl (cA, 4096, .inl f_t_next_z)), (h_t_w, .inl (cA, 190, .inl f_t_w))]) 0 0 (va_A [(h_t, .inr (10, [.ref h_t_w, .int f_t_known, .int f_t_kept, .int f_t_seed, .ref h_t_imageSeed, .ref h_t_bookOf, .ref h_t_bookIs, .int f_t_written, .ref h_t_forms, .int f_t_formRing, .int f_t_formMany, .ref h_t_best, .ref h_t_next, .ref h_t_ways, .ref h_t_round, .ref h_t_roughs, .int f_t_latest])), (h_t_best, .inl (cA, 4096, .inl f_t_best)), (h_t_bookIs, .inl (cA, 20, .inl f_t_bookIs)), (h_t_bookOf, .inl (cA, 20, .inl f_t_bookOf)), (h_t_next, .inl (cA, 4096, .inl f_t_next)), (h_t_w, .inl (cA, 190, .inl f_t_w))] sz) := by
  refine Met.ofW (cc := cX11_wrong) (maxL := 3) (ret := (some .int)) (by decide) rfl ?_
  intro p e s m args below meth c s₁ B hml hv
  obtain ⟨rfl, hsz, hP, hK, hD0⟩ := hv
  refine W_gen (fun Q hQ => ?_)
  have hx := B.exec
  have hb := B.bytes
  have hr := B.returns
  have hts := atoms_spec (ws := wsX11_wrong) B.pre
  have hown : s.vm.findClass RX11 = some m.cls := findClass_of_methodNamed B.named
  have hlocks := B.notSynchronized
  subst hsz
  have hD := hD0.self (sz := s.heap.size)
  clear hD0
  generalize hAe : va_A [(h_t, .inr (10, [.ref h_t_w, .int f_t_known, .int f_t_kept, .int f_t_seed, .ref h_t_imageSeed, .ref h_t_bookOf, .ref h_t_bookIs, .int f_t_written, .ref h_t_forms, .int f_t_formRing, .int f_t_formMany, .ref h_t_best, .ref h_t_next, .ref h_t_ways, .ref h_t_round, .ref h_t_roughs, .int f_t_latest])), (h_t_best, .inl (cA, 4096, .inl f_t_best)), (h_t_bookIs, .inl (cA, 20, .inl f_t_bookIs)), (h_t_bookOf, .inl (cA, 20, .inl f_t_bookOf)), (h_t_next, .inl (cA, 4096, .inl f_t_next)), (h_t_w, .inl (cA, 190, .inl f_t_w))] s.heap.size = A at hD hQ
  have hA : ∀ q : Nat, s.heap.size ≤ q → A q := fun q h => by rw [← hAe]; exact Or.inr h
  clear hAe
  have hS : va_S A s.heap s.heap [] := va_S.rf
  have hl := lv_entry ([.ref h_t]) (n := 3) (Nat.le_of_ble_eq_true rfl)
  rw [lg_entry_eq]
  generalize (lg_sl ([.ref h_t]) ++ List.replicate (3 - (lg_sl ([.ref h_t])).length) Slot.unset).toArray = ls at hl ⊢
  have hl : lv_has ls 3 [(0, .ref h_t)] := hl
  have k1 := hts (.fieldLink RX11 122 "ToneSetsModel" "written" "I") (List.mem_of_getElem? (i := 1) rfl)
  have k2 := hts (.fieldLink RX11 16 "ToneSetsModel" "bookOf" "[I") (List.mem_of_getElem? (i := 2) rfl)
  have k3 := hts (.fieldLink RX11 7 "ToneSetsModel" "w" "[I") (List.mem_of_getElem? (i := 3) rfl)
  have k4 := hts (.fieldLink RX11 19 "ToneSetsModel" "bookIs" "[I") (List.mem_of_getElem? (i := 4) rfl)
  have uX11 := uX11_X11_wrong
  unfold m_Md_wrong at hm
  refine lv_iconst (v := 0) hx hb dX11_wrong_0 (by decide) ?_
  refine lv_topi (fun v1_1 ev1_1 => ?_)
  replace hm := lt_go ev1_1 hm
  refine lv_istore_n (lv' := [(1, .int v1_1), (0, .ref h_t)]) hx hb dX11_wrong_1 rfl hl (by decide) rfl (fun ls hl => ?_)
  have L2 : ∀ (n : Nat) (v1_2 : Int32) (f_t_best_1 : Nat → Int32) (f_t_next_1 : Nat → Int32), m_Md_wrong_L2 fu f_t_written f_t_bookOf f_t_w f_t_bookIs n v1_2 f_t_best_1 f_t_next_1 = some (r0, f_t_best_z, f_t_next_z) → ∀ (H : Heap) (locs : List Loc), va_P (dC, dI) vwCl [(h_t, .inr (10, [.ref h_t_w, .int f_t_known, .int f_t_kept, .int f_t_seed, .ref h_t_imageSeed, .ref h_t_bookOf, .ref h_t_bookIs, .int f_t_written, .ref h_t_forms, .int f_t_formRing, .int f_t_formMany, .ref h_t_best, .ref h_t_next, .ref h_t_ways, .ref h_t_round, .ref h_t_roughs, .int f_t_latest])), (h_t_best, .inl (cA, 4096, .inl f_t_best_1)), (h_t_bookIs, .inl (cA, 20, .inl f_t_bookIs)), (h_t_bookOf, .inl (cA, 20, .inl f_t_bookOf)), (h_t_next, .inl (cA, 4096, .inl f_t_next_1)), (h_t_w, .inl (cA, 190, .inl f_t_w))] H → va_D A [(h_t, .inr (10, [.ref h_t_w, .int f_t_known, .int f_t_kept, .int f_t_seed, .ref h_t_imageSeed, .ref h_t_bookOf, .ref h_t_bookIs, .int f_t_written, .ref h_t_forms, .int f_t_formRing, .int f_t_formMany, .ref h_t_best, .ref h_t_next, .ref h_t_ways, .ref h_t_round, .ref h_t_roughs, .int f_t_latest])), (h_t_best, .inl (cA, 4096, .inl f_t_best_1)), (h_t_bookIs, .inl (cA, 20, .inl f_t_bookIs)), (h_t_bookOf, .inl (cA, 20, .inl f_t_bookOf)), (h_t_next, .inl (cA, 4096, .inl f_t_next_1)), (h_t_w, .inl (cA, 190, .inl f_t_w))] → va_S A s.heap H locs → ∀ ls : Array Slot, lv_has ls 3 [(0, .ref h_t), (1, .int v1_2)] → W p l e (headSpec wsX11_wrong rmX11_wrong).room s m (([.ref h_t] : List Value).toArray) below meth c H locs 0 0 Q (F0 m 2 ls []) := by
    clear hm hP hD hS hl
    intro n
    induction n with
    | zero => intro _ _ _ hm; exact nomatch (show none = some _ from hm)
    | succ n ih =>
      intro v1_2 f_t_best_1 f_t_next_1 hm H locs hP hD hS ls hl
      unfold m_Md_wrong_L2 at hm
      refine lv_iload_n hx hb dX11_wrong_2 rfl (lv_at hl 1 rfl) ?_
      refine lv_aload_n hx hb dX11_wrong_3 rfl (lv_at hl 0 rfl) ?_
      refine va_get (D := (dC, dI)) (ci := 10) (v := .int f_t_written) (C := RX11) (T := TX11) (N := 17) hx hb hts uX11 hown hK hP 0 rfl rfl 7 (by decide) k1 (fun _ h9 => h9) rfl dX11_wrong_4 ?_
      refine lv_icmp_ge (tgt := 80) hx hb dX11_wrong_7 (by decide) (fun c7 => ?_) (fun c7 => ?_)
      · replace hm := if_t c7 hm
        refine lv_iconst (v := (-1)) hx hb dX11_wrong_80 (by decide) ?_
        cases hm
        exact W_mono hQ (W.iret hx hb hr (fun t ht hW => ⟨⟨_, (), rfl, rfl, by rw [ht]; exact hP, va_K.moved hW.alike hK, hD⟩, hS.F ht⟩) hS.2.2 dX11_wrong_81)
      · replace hm := if_f c7 hm
        refine lv_aload_n hx hb dX11_wrong_10 rfl (lv_at hl 0 rfl) ?_
        refine va_get (D := (dC, dI)) (ci := 10) (v := .ref h_t_bookOf) (C := RX11) (T := TX11) (N := 17) hx hb hts uX11 hown hK hP 0 rfl rfl 5 (by decide) k2 (fun _ h9 => h9) rfl dX11_wrong_11 ?_
        refine lv_iload_n hx hb dX11_wrong_14 rfl (lv_at hl 1 rfl) ?_
        obtain ⟨b15, hm⟩ := ck_go hm
        refine va_iald hx hb hK hP 3 0 rfl rfl b15 dX11_wrong_15 ?_
        refine lv_topi (fun v2_1 ev2_1 => ?_)
        replace hm := lt_go ev2_1 hm
        refine lv_istore_n (lv' := [(2, .int v2_1), (0, .ref h_t), (1, .int v1_2)]) hx hb dX11_wrong_16 rfl hl (by decide) rfl (fun ls hl => ?_)
        refine lv_aload_n hx hb dX11_wrong_17 rfl (lv_at hl 1 rfl) ?_
        refine lv_iload_n hx hb dX11_wrong_18 rfl (lv_at hl 0 rfl) ?_
        obtain ⟨r_1, hc19, hm⟩ := bd1_go hm
        refine my_cVi (As := [.int v2_1]) (rest := []) (WC := [(h_t, .inr (10, [.ref h_t_w, .int f_t_known, .int f_t_kept, .int f_t_seed, .ref h_t_imageSeed, .ref h_t_bookOf, .ref h_t_bookIs, .int f_t_written, .ref h_t_forms, .int f_t_formRing, .int f_t_formMany, .ref h_t_best, .ref h_t_next, .ref h_t_ways, .ref h_t_round, .ref h_t_roughs, .int f_t_latest])), (h_t_w, .inl (cA, 190, .inl f_t_w))]) (WC' := [(h_t, .inr (10, [.ref h_t_w, .int f_t_known, .int f_t_kept, .int f_t_seed, .ref h_t_imageSeed, .ref h_t_bookOf, .ref h_t_bookIs, .int f_t_written, .ref h_t_forms, .int f_t_formRing, .int f_t_formMany, .ref h_t_best, .ref h_t_next, .ref h_t_ways, .ref h_t_round, .ref h_t_roughs, .int f_t_latest])), (h_t_w, .inl (cA, 190, .inl f_t_w))]) (WR := [(h_t_best, .inl (cA, 4096, .inl f_t_best_1)), (h_t_bookIs, .inl (cA, 20, .inl f_t_bookIs)), (h_t_bookOf, .inl (cA, 20, .inl f_t_bookOf)), (h_t_next, .inl (cA, 4096, .inl f_t_next_1))]) (W' := [(h_t, .inr (10, [.ref h_t_w, .int f_t_known, .int f_t_kept, .int f_t_seed, .ref h_t_imageSeed, .ref h_t_bookOf, .ref h_t_bookIs, .int f_t_written, .ref h_t_forms, .int f_t_formRing, .int f_t_formMany, .ref h_t_best, .ref h_t_next, .ref h_t_ways, .ref h_t_round, .ref h_t_roughs, .int f_t_latest])), (h_t_best, .inl (cA, 4096, .inl f_t_best_1)), (h_t_bookIs, .inl (cA, 20, .inl f_t_bookIs)), (h_t_bookOf, .inl (cA, 20, .inl f_t_bookOf)), (h_t_next, .inl (cA, 4096, .inl f_t_next_1)), (h_t_w, .inl (cA, 190, .inl f_t_w))]) ⟨hx, hb, hml, hown, hts⟩ hK hP hD hS hA (c_Md_isPlace l dC dI cA h_t h_t_w h_t_imageSeed h_t_bookOf h_t_bookIs h_t_forms h_t_best h_t_next h_t_ways h_t_round h_t_roughs f_t_known f_t_kept f_t_seed f_t_written f_t_formRing f_t_formMany f_t_latest f_t_w v2_1 r_1 hc19) (cwV 1 hts gX11_wrong_X11_isPlace rfl rfl rfl (by decide +kernel) ⟨Nat.le_of_ble_eq_true rfl, Nat.le_of_ble_eq_true rfl⟩) [0, 5] [1, 2, 3, 4] [4, 0, 1, 2, 3, 5] rfl rfl rfl rfl (ci := 10) (q0 := 0) rfl rfl rfl rfl hl.1 (Nat.le_of_ble_eq_true rfl) dX11_wrong_19 ⟨Nat.zero_le _, Nat.zero_le _⟩ (fun H locs hP hD hS => ?_)
        refine lv_if_eq (tgt := 72) hx hb dX11_wrong_22 (by decide) (fun c22 => ?_) (fun c22 => ?_)
        · replace hm := if_t c22 hm
          refine lv_iload_n hx hb dX11_wrong_72 rfl (lv_at hl 2 rfl) ?_
          cases hm
          exact W_mono hQ (W.iret hx hb hr (fun t ht hW => ⟨⟨_, (), rfl, rfl, by rw [ht]; exact hP, va_K.moved hW.alike hK, hD⟩, hS.F ht⟩) hS.2.2 dX11_wrong_73)
        · replace hm := if_f c22 hm
          refine lv_aload_n hx hb dX11_wrong_25 rfl (lv_at hl 1 rfl) ?_
          refine va_get (D := (dC, dI)) (ci := 10) (v := .ref h_t_w) (C := RX11) (T := TX11) (N := 17) hx hb hts uX11 hown hK hP 0 rfl rfl 0 (by decide) k3 (fun _ h9 => h9) rfl dX11_wrong_26 ?_
          refine lv_iconst (v := 2) hx hb dX11_wrong_29 (by decide) ?_
          obtain ⟨b30, hm⟩ := ck_go hm
          refine va_iald hx hb hK hP 5 0 rfl rfl b30 dX11_wrong_30 ?_
          refine lv_if_eq (tgt := 72) hx hb dX11_wrong_31 (by decide) (fun c31 => ?_) (fun c31 => ?_)
          · replace hm := if_t c31 hm
            refine lv_iload_n hx hb dX11_wrong_72 rfl (lv_at hl 2 rfl) ?_
            cases hm
            exact W_mono hQ (W.iret hx hb hr (fun t ht hW => ⟨⟨_, (), rfl, rfl, by rw [ht]; exact hP, va_K.moved hW.alike hK, hD⟩, hS.F ht⟩) hS.2.2 dX11_wrong_73)
          · replace hm := if_f c31 hm
            refine lv_aload_n hx hb dX11_wrong_34 rfl (lv_at hl 1 rfl) ?_
            refine va_get (D := (dC, dI)) (ci := 10) (v := .ref h_t_w) (C := RX11) (T := TX11) (N := 17) hx hb hts uX11 hown hK hP 0 rfl rfl 0 (by decide) k3 (fun _ h9 => h9) rfl dX11_wrong_35 ?_
            refine lv_iconst (v := 2) hx hb dX11_wrong_38 (by decide) ?_
            refine lv_iload_n hx hb dX11_wrong_39 rfl (lv_at hl 0 rfl) ?_
            refine lv_iadd hx hb dX11_wrong_40 ?_
            obtain ⟨b41, hm⟩ := ck_go hm
            refine va_iald hx hb hK hP 5 0 rfl rfl b41 dX11_wrong_41 ?_
            refine lv_if_eq (tgt := 72) hx hb dX11_wrong_42 (by decide) (fun c42 => ?_) (fun c42 => ?_)
            · replace hm := if_t c42 hm
              refine lv_iload_n hx hb dX11_wrong_72 rfl (lv_at hl 2 rfl) ?_
              cases hm
              exact W_mono hQ (W.iret hx hb hr (fun t ht hW => ⟨⟨_, (), rfl, rfl, by rw [ht]; exact hP, va_K.moved hW.alike hK, hD⟩, hS.F ht⟩) hS.2.2 dX11_wrong_73)
            · replace hm := if_f c42 hm
              refine lv_aload_n hx hb dX11_wrong_45 rfl (lv_at hl 1 rfl) ?_
              refine lv_aload_n hx hb dX11_wrong_46 rfl (lv_at hl 1 rfl) ?_
              refine va_get (D := (dC, dI)) (ci := 10) (v := .ref h_t_w) (C := RX11) (T := TX11) (N := 17) hx hb hts uX11 hown hK hP 0 rfl rfl 0 (by decide) k3 (fun _ h9 => h9) rfl dX11_wrong_47 ?_
              refine lv_iconst (v := 2) hx hb dX11_wrong_50 (by decide) ?_
              obtain ⟨b51, hm⟩ := ck_go hm
              refine va_iald hx hb hK hP 5 0 rfl rfl b51 dX11_wrong_51 ?_
              refine lv_aload_n hx hb dX11_wrong_52 rfl (lv_at hl 1 rfl) ?_
              refine va_get (D := (dC, dI)) (ci := 10) (v := .ref h_t_w) (C := RX11) (T := TX11) (N := 17) hx hb hts uX11 hown hK hP 0 rfl rfl 0 (by decide) k3 (fun _ h9 => h9) rfl dX11_wrong_53 ?_
              refine lv_iconst (v := 2) hx hb dX11_wrong_56 (by decide) ?_
              refine lv_iload_n hx hb dX11_wrong_57 rfl (lv_at hl 0 rfl) ?_
              refine lv_iadd hx hb dX11_wrong_58 ?_
              obtain ⟨b59, hm⟩ := ck_go hm
              refine va_iald hx hb hK hP 5 0 rfl rfl b59 dX11_wrong_59 ?_
              obtain ⟨r_2, f_t_best_2, f_t_next_2, hc60, hm⟩ := bd3_go hm
              refine my_cVi (As := [.int (f_t_w (2 : Int32).toNatClampNeg), .int (f_t_w (2 + v2_1).toNatClampNeg)]) (rest := []) (WC := [(h_t, .inr (10, [.ref h_t_w, .int f_t_known, .int f_t_kept, .int f_t_seed, .ref h_t_imageSeed, .ref h_t_bookOf, .ref h_t_bookIs, .int f_t_written, .ref h_t_forms, .int f_t_formRing, .int f_t_formMany, .ref h_t_best, .ref h_t_next, .ref h_t_ways, .ref h_t_round, .ref h_t_roughs, .int f_t_latest])), (h_t_best, .inl (cA, 4096, .inl f_t_best_1)), (h_t_next, .inl (cA, 4096, .inl f_t_next_1)), (h_t_w, .inl (cA, 190, .inl f_t_w))]) (WC' := [(h_t, .inr (10, [.ref h_t_w, .int f_t_known, .int f_t_kept, .int f_t_seed, .ref h_t_imageSeed, .ref h_t_bookOf, .ref h_t_bookIs, .int f_t_written, .ref h_t_forms, .int f_t_formRing, .int f_t_formMany, .ref h_t_best, .ref h_t_next, .ref h_t_ways, .ref h_t_round, .ref h_t_roughs, .int f_t_latest])), (h_t_best, .inl (cA, 4096, .inl f_t_best_2)), (h_t_next, .inl (cA, 4096, .inl f_t_next_2)), (h_t_w, .inl (cA, 190, .inl f_t_w))]) (WR := [(h_t_bookIs, .inl (cA, 20, .inl f_t_bookIs)), (h_t_bookOf, .inl (cA, 20, .inl f_t_bookOf))]) (W' := [(h_t, .inr (10, [.ref h_t_w, .int f_t_known, .int f_t_kept, .int f_t_seed, .ref h_t_imageSeed, .ref h_t_bookOf, .ref h_t_bookIs, .int f_t_written, .ref h_t_forms, .int f_t_formRing, .int f_t_formMany, .ref h_t_best, .ref h_t_next, .ref h_t_ways, .ref h_t_round, .ref h_t_roughs, .int f_t_latest])), (h_t_best, .inl (cA, 4096, .inl f_t_best_2)), (h_t_bookIs, .inl (cA, 20, .inl f_t_bookIs)), (h_t_bookOf, .inl (cA, 20, .inl f_t_bookOf)), (h_t_next, .inl (cA, 4096, .inl f_t_next_2)), (h_t_w, .inl (cA, 190, .inl f_t_w))]) ⟨hx, hb, hml, hown, hts⟩ hK hP hD hS hA (c_Md_wayOf l dC dI cA fu h_t h_t_w h_t_imageSeed h_t_bookOf h_t_bookIs h_t_forms h_t_best h_t_next h_t_ways h_t_round h_t_roughs f_t_known f_t_kept f_t_seed f_t_written f_t_formRing f_t_formMany f_t_latest f_t_best_1 f_t_next_1 f_t_w (f_t_w (2 : Int32).toNatClampNeg) (f_t_w (2 + v2_1).toNatClampNeg) r_2 f_t_best_2 f_t_next_2 hc60) (cwV 2 hts gX11_wrong_X11_wayOf rfl rfl rfl (by decide +kernel) ⟨Nat.le_of_ble_eq_true rfl, Nat.le_of_ble_eq_true rfl⟩) [0, 1, 4, 5] [2, 3] [2, 3, 0, 1, 4, 5] rfl rfl rfl rfl (ci := 10) (q0 := 0) rfl rfl rfl rfl hl.1 (Nat.le_of_ble_eq_true rfl) dX11_wrong_60 ⟨Nat.zero_le _, Nat.zero_le _⟩ (fun H locs hP hD hS => ?_)
              refine lv_aload_n hx hb dX11_wrong_63 rfl (lv_at hl 1 rfl) ?_
              refine va_get (D := (dC, dI)) (ci := 10) (v := .ref h_t_bookIs) (C := RX11) (T := TX11) (N := 17) hx hb hts uX11 hown hK hP 0 rfl rfl 6 (by decide) k4 (fun _ h9 => h9) rfl dX11_wrong_64 ?_
              refine lv_iload_n hx hb dX11_wrong_67 rfl (lv_at hl 2 rfl) ?_
              obtain ⟨b68, hm⟩ := ck_go hm
              refine va_iald hx hb hK hP 2 0 rfl rfl b68 dX11_wrong_68 ?_
              refine lv_icmp_eq (tgt := 74) hx hb dX11_wrong_69 (by decide) (fun c69 => ?_) (fun c69 => ?_)
              · replace hm := if_t c69 hm
                obtain ⟨v1_3, ev1_3⟩ : ∃ z : Int32, z = v1_2 + 1 := ⟨_, rfl⟩
                replace hm := lt_go ev1_3 hm
                refine lv_iinc (v := v1_3) (lv' := [(1, .int v1_3), (2, .int v2_1), (0, .ref h_t)]) hx hb dX11_wrong_74 hl (k := 2) rfl (by rw [ev1_3]; rfl) (by decide) rfl (fun ls hl => ?_)
                refine lv_goto (tgt := 2) hx hb dX11_wrong_77 (by decide) ?_
                exact ih _ _ _ hm _ _ hP hD hS _ (lv_sub hl [2, 0] rfl)
              · replace hm := if_f c69 hm
                refine lv_iload_n hx hb dX11_wrong_72 rfl (lv_at hl 2 rfl) ?_
                cases hm
                exact W_mono hQ (W.iret hx hb hr (fun t ht hW => ⟨⟨_, (), rfl, rfl, by rw [ht]; exact hP, va_K.moved hW.alike hK, hD⟩, hS.F ht⟩) hS.2.2 dX11_wrong_73)
  exact L2 _ _ _ _ hm _ _ hP hD hS _ (lv_sub hl [1, 0] rfl)
abbrev rmX11_told : Room := { frames := 7, cells := 0, slots := 0, locals := 168 }
theorem uX11_X11_told : ∀ w ∈ wsX110, w ∈ wsX11_told := fun _ h => List.mem_cons_of_mem _ (List.mem_append_right _ (h))
set_option maxHeartbeats 40000000 in
set_option maxRecDepth 100000 in
theorem c_Md_told (l : Launch) (dC : Nat → ClassId) (dI : Nat → Nat → Nat) (cA : ClassId) (fu : Nat) (h_t h_t_w h_t_imageSeed h_t_bookOf h_t_bookIs h_t_forms h_t_best h_t_next h_t_ways h_t_round h_t_roughs : Nat) (f_t_known : Int32) (f_t_kept : Int32) (f_t_seed : Int32) (f_t_written : Int32) (f_t_formRing : Int32) (f_t_formMany : Int32) (f_t_latest : Int32) (f_t_best : Nat → Int32) (f_t_bookIs : Nat → Int32) (f_t_bookOf : Nat → Int32) (f_t_forms : Nat → Int32) (f_t_next : Nat → Int32) (f_t_round : Nat → Int32) (f_t_w : Nat → Int32) (f_t_ways : Nat → Int32) (a1 : Int32) (r0 : Int32) (f_t_best_z : Nat → Int32) (f_t_formMany_z : Int32) (f_t_formRing_z : Int32) (f_t_forms_z : Nat → Int32) (f_t_next_z : Nat → Int32) (f_t_round_z : Nat → Int32) (f_t_ways_z : Nat → Int32) (hm : m_Md_told fu f_t_best f_t_bookIs f_t_bookOf f_t_formMany f_t_formRing f_t_forms f_t_known f_t_next f_t_round f_t_seed f_t_w f_t_ways f_t_written a1 = some (r0, f_t_best_z, f_t_formMany_z, f_t_formRing_z, f_t_forms_z, f_t_next_z, f_t_round_z, f_t_ways_z)) (sz : Nat) : Met l yX11_told wsX11_told rmX11_told (mPre (dC, dI) cA [.ref h_t, .int a1] sz [(h_t, .inr (10, [.ref h_t_w, .int f_t_known, .int f_t_kept, .int f_t_seed, .ref h_t_imageSeed, .ref h_t_bookOf, .ref h_t_bookIs, .int f_t_written, .ref h_t_forms, .int f_t_formRing, .int f_t_formMany, .ref h_t_best, .ref h_t_next, .ref h_t_ways, .ref h_t_round, .ref h_t_roughs, .int f_t_latest])), (h_t_best, .inl (cA, 4096, .inl f_t_best)), (h_t_bookIs, .inl (cA, 20, .inl f_t_bookIs)), (h_t_bookOf, .inl (cA, 20, .inl f_t_bookOf)), (h_t_forms, .inl (cA, 400, .inl f_t_forms)), (h_t_next, .inl (cA, 4096, .inl f_t_next)), (h_t_round, .inl (cA, 2048, .inl f_t_round)), (h_t_w, .inl (cA, 190, .inl f_t_w)), (h_t_ways, .inl (cA, 64, .inl f_t_ways))]) (mPosI (dC, dI) cA r0 (va_A [(h_t, .inr (10, [.ref h_t_w, .int f_t_known, .int f_t_kept, .int f_t_seed, .ref h_t_imageSeed, .ref h_t_bookOf, .ref h_t_bookIs, .int f_t_written, .ref h_t_forms, .int f_t_formRing, .int f_t_formMany, .ref h_t_best, .ref h_t_next, .ref h_t_ways, .ref h_t_round, .ref h_t_roughs, .int f_t_latest])), (h_t_best, .inl (cA, 4096, .inl f_t_best)), (h_t_bookIs, .inl (cA, 20, .inl f_t_bookIs)), (h_t_bookOf, .inl (cA, 20, .inl f_t_bookOf)), (h_t_forms, .inl (cA, 400, .inl f_t_forms)), (h_t_next, .inl (cA, 4096, .inl f_t_next)), (h_t_round, .inl (cA, 2048, .inl f_t_round)), (h_t_w, .inl (cA, 190, .inl f_t_w)), (h_t_ways, .inl (cA, 64, .inl f_t_ways))] sz) [(h_t, .inr (10, [.ref h_t_w, .int f_t_known, .int f_t_kept, .int f_t_seed, .ref h_t_imageSeed, .ref h_t_bookOf, .ref h_t_bookIs, .int f_t_written, .ref h_t_forms, .int f_t_formRing_z, .int f_t_formMany_z, .ref h_t_best, .ref h_t_next, .ref h_t_ways, .ref h_t_round, .ref h_t_roughs, .int f_t_latest])), (h_t_best, .inl (cA, 4096, .inl f_t_best_z)), (h_t_bookIs, .inl (cA, 20, .inl f_t_bookIs)), (h_t_bookOf, .inl (cA, 20, .inl f_t_bookOf)), (h_t_forms, .inl (cA, 400, .inl f_t_forms_z)), (h_t_next, .inl (cA, 4096, .inl f_t_next_z)), (h_t_round, .inl (cA, 2048, .inl f_t_round_z)), (h_t_w, .inl (cA, 190, .inl f_t_w)), (h_t_ways, .inl (cA, 64, .inl f_t_ways_z))]) 0 0 (va_A [(h_t, .inr (10, [.ref h_t_w, .int f_t_known, .int f_t_kept, .int f_t_seed, .ref h_t_imageSeed, .ref h_t_bookOf, .ref h_t_bookIs, .int f_t_written, .ref h_t_forms, .int f_t_formRing, .int f_t_formMany, .ref h_t_best, .ref h_t_next, .ref h_t_ways, .ref h_t_round, .ref h_t_roughs, .int f_t_latest])), (h_t_best, .inl (cA, 4096, .inl f_t_best)), (h_t_bookIs, .inl (cA, 20, .inl f_t_bookIs)), (h_t_bookOf, .inl (cA, 20, .inl f_t_bookOf)), (h_t_forms, .inl (cA, 400, .inl f_t_forms)), (h_t_next, .inl (cA, 4096, .inl f_t_next)), (h_t_round, .inl (cA, 2048, .inl f_t_round)), (h_t_w, .inl (cA, 190, .inl f_t_w)), (h_t_ways, .inl (cA, 64, .inl f_t_ways))] sz) := by
  refine Met.ofW (cc := cX11_told) (maxL := 2) (ret := (some .int)) (by decide) rfl ?_
  intro p e s m args below meth c s₁ B hml hv
  obtain ⟨rfl, hsz, hP, hK, hD0⟩ := hv
  refine W_gen (fun Q hQ => ?_)
  have hx := B.exec
  have hb := B.bytes
  have hr := B.returns
  have hts := atoms_spec (ws := wsX11_told) B.pre
  have hown : s.vm.findClass RX11 = some m.cls := findClass_of_methodNamed B.named
  have hlocks := B.notSynchronized
  subst hsz
  have hD := hD0.self (sz := s.heap.size)
  clear hD0
  generalize hAe : va_A [(h_t, .inr (10, [.ref h_t_w, .int f_t_known, .int f_t_kept, .int f_t_seed, .ref h_t_imageSeed, .ref h_t_bookOf, .ref h_t_bookIs, .int f_t_written, .ref h_t_forms, .int f_t_formRing, .int f_t_formMany, .ref h_t_best, .ref h_t_next, .ref h_t_ways, .ref h_t_round, .ref h_t_roughs, .int f_t_latest])), (h_t_best, .inl (cA, 4096, .inl f_t_best)), (h_t_bookIs, .inl (cA, 20, .inl f_t_bookIs)), (h_t_bookOf, .inl (cA, 20, .inl f_t_bookOf)), (h_t_forms, .inl (cA, 400, .inl f_t_forms)), (h_t_next, .inl (cA, 4096, .inl f_t_next)), (h_t_round, .inl (cA, 2048, .inl f_t_round)), (h_t_w, .inl (cA, 190, .inl f_t_w)), (h_t_ways, .inl (cA, 64, .inl f_t_ways))] s.heap.size = A at hD hQ
  have hA : ∀ q : Nat, s.heap.size ≤ q → A q := fun q h => by rw [← hAe]; exact Or.inr h
  clear hAe
  have hS : va_S A s.heap s.heap [] := va_S.rf
  have hl := lv_entry ([.ref h_t, .int a1]) (n := 2) (Nat.le_of_ble_eq_true rfl)
  rw [lg_entry_eq]
  generalize (lg_sl ([.ref h_t, .int a1]) ++ List.replicate (2 - (lg_sl ([.ref h_t, .int a1])).length) Slot.unset).toArray = ls at hl ⊢
  have hl : lv_has ls 2 [(0, .ref h_t), (1, .int a1)] := hl
  have k1 := hts (.fieldLink RX11 7 "ToneSetsModel" "w" "[I") (List.mem_of_getElem? (i := 1) rfl)
  have k2 := hts (.fieldLink RX11 77 "ToneSetsModel" "formMany" "I") (List.mem_of_getElem? (i := 2) rfl)
  have k3 := hts (.fieldLink RX11 122 "ToneSetsModel" "written" "I") (List.mem_of_getElem? (i := 3) rfl)
  have k4 := hts (.fieldLink RX11 44 "ToneSetsModel" "known" "I") (List.mem_of_getElem? (i := 4) rfl)
  have k5 := hts (.fieldLink RX11 140 "ToneSetsModel" "seed" "I") (List.mem_of_getElem? (i := 5) rfl)
  have k6 := hts (.constant RX11 143 (-1000000002)) (List.mem_of_getElem? (i := 6) rfl)
  have uX11 := uX11_X11_told
  unfold m_Md_told at hm
  refine lv_iload_n hx hb dX11_told_0 rfl (lv_at hl 1 rfl) ?_
  by_cases s1_0 : a1 = 0
  · replace hm := if_t s1_0 hm
    refine lv_tableIn (tgt := 56) hx hb dX11_told_1 (by rw [s1_0]; decide) (by rw [s1_0]; decide) (by rw [s1_0]; rfl) (by decide) ?_
    refine lv_aload_n hx hb dX11_told_56 rfl (lv_at hl 0 rfl) ?_
    obtain ⟨r_1, hc57, hm⟩ := bd1_go hm
    refine my_cVi (As := []) (rest := []) (WC := [(h_t, .inr (10, [.ref h_t_w, .int f_t_known, .int f_t_kept, .int f_t_seed, .ref h_t_imageSeed, .ref h_t_bookOf, .ref h_t_bookIs, .int f_t_written, .ref h_t_forms, .int f_t_formRing, .int f_t_formMany, .ref h_t_best, .ref h_t_next, .ref h_t_ways, .ref h_t_round, .ref h_t_roughs, .int f_t_latest])), (h_t_w, .inl (cA, 190, .inl f_t_w))]) (WC' := [(h_t, .inr (10, [.ref h_t_w, .int f_t_known, .int f_t_kept, .int f_t_seed, .ref h_t_imageSeed, .ref h_t_bookOf, .ref h_t_bookIs, .int f_t_written, .ref h_t_forms, .int f_t_formRing, .int f_t_formMany, .ref h_t_best, .ref h_t_next, .ref h_t_ways, .ref h_t_round, .ref h_t_roughs, .int f_t_latest])), (h_t_w, .inl (cA, 190, .inl f_t_w))]) (WR := [(h_t_best, .inl (cA, 4096, .inl f_t_best)), (h_t_bookIs, .inl (cA, 20, .inl f_t_bookIs)), (h_t_bookOf, .inl (cA, 20, .inl f_t_bookOf)), (h_t_forms, .inl (cA, 400, .inl f_t_forms)), (h_t_next, .inl (cA, 4096, .inl f_t_next)), (h_t_round, .inl (cA, 2048, .inl f_t_round)), (h_t_ways, .inl (cA, 64, .inl f_t_ways))]) (W' := [(h_t, .inr (10, [.ref h_t_w, .int f_t_known, .int f_t_kept, .int f_t_seed, .ref h_t_imageSeed, .ref h_t_bookOf, .ref h_t_bookIs, .int f_t_written, .ref h_t_forms, .int f_t_formRing, .int f_t_formMany, .ref h_t_best, .ref h_t_next, .ref h_t_ways, .ref h_t_round, .ref h_t_roughs, .int f_t_latest])), (h_t_best, .inl (cA, 4096, .inl f_t_best)), (h_t_bookIs, .inl (cA, 20, .inl f_t_bookIs)), (h_t_bookOf, .inl (cA, 20, .inl f_t_bookOf)), (h_t_forms, .inl (cA, 400, .inl f_t_forms)), (h_t_next, .inl (cA, 4096, .inl f_t_next)), (h_t_round, .inl (cA, 2048, .inl f_t_round)), (h_t_w, .inl (cA, 190, .inl f_t_w)), (h_t_ways, .inl (cA, 64, .inl f_t_ways))]) ⟨hx, hb, hml, hown, hts⟩ hK hP hD hS hA (c_Md_m l dC dI cA h_t h_t_w h_t_imageSeed h_t_bookOf h_t_bookIs h_t_forms h_t_best h_t_next h_t_ways h_t_round h_t_roughs f_t_known f_t_kept f_t_seed f_t_written f_t_formRing f_t_formMany f_t_latest f_t_w r_1 hc57) (cwV 0 hts gX11_told_X11_m rfl rfl rfl (by decide +kernel) ⟨Nat.le_of_ble_eq_true rfl, Nat.le_of_ble_eq_true rfl⟩) [0, 7] [1, 2, 3, 4, 5, 6, 8] [7, 0, 1, 2, 3, 4, 5, 8, 6] rfl rfl rfl rfl (ci := 10) (q0 := 0) rfl rfl rfl rfl hl.1 (Nat.le_of_ble_eq_true rfl) dX11_told_57 ⟨Nat.zero_le _, Nat.zero_le _⟩ (fun H locs hP hD hS => ?_)
    cases hm
    exact W_mono hQ (W.iret hx hb hr (fun t ht hW => ⟨⟨_, (), rfl, rfl, by rw [ht]; exact hP, va_K.moved hW.alike hK, hD⟩, hS.F ht⟩) hS.2.2 dX11_told_60)
  replace hm := if_f s1_0 hm
  by_cases s1_1 : a1 = 1
  · replace hm := if_t s1_1 hm
    refine lv_tableIn (tgt := 61) hx hb dX11_told_1 (by rw [s1_1]; decide) (by rw [s1_1]; decide) (by rw [s1_1]; rfl) (by decide) ?_
    refine lv_aload_n hx hb dX11_told_61 rfl (lv_at hl 0 rfl) ?_
    refine va_get (D := (dC, dI)) (ci := 10) (v := .ref h_t_w) (C := RX11) (T := TX11) (N := 17) hx hb hts uX11 hown hK hP 0 rfl rfl 0 (by decide) k1 (fun _ h9 => h9) rfl dX11_told_62 ?_
    refine lv_iconst (v := 1) hx hb dX11_told_65 (by decide) ?_
    obtain ⟨b66, hm⟩ := ck_go hm
    refine va_iald hx hb hK hP 7 0 rfl rfl b66 dX11_told_66 ?_
    cases hm
    exact W_mono hQ (W.iret hx hb hr (fun t ht hW => ⟨⟨_, (), rfl, rfl, by rw [ht]; exact hP, va_K.moved hW.alike hK, hD⟩, hS.F ht⟩) hS.2.2 dX11_told_67)
  replace hm := if_f s1_1 hm
  by_cases s1_2 : a1 = 2
  · replace hm := if_t s1_2 hm
    refine lv_tableIn (tgt := 68) hx hb dX11_told_1 (by rw [s1_2]; decide) (by rw [s1_2]; decide) (by rw [s1_2]; rfl) (by decide) ?_
    refine lv_aload_n hx hb dX11_told_68 rfl (lv_at hl 0 rfl) ?_
    obtain ⟨f_t_formMany_1, f_t_formRing_1, f_t_forms_1, hc69, hm⟩ := bd3_go hm
    refine my_cVv (As := []) (rest := []) (WC := [(h_t, .inr (10, [.ref h_t_w, .int f_t_known, .int f_t_kept, .int f_t_seed, .ref h_t_imageSeed, .ref h_t_bookOf, .ref h_t_bookIs, .int f_t_written, .ref h_t_forms, .int f_t_formRing, .int f_t_formMany, .ref h_t_best, .ref h_t_next, .ref h_t_ways, .ref h_t_round, .ref h_t_roughs, .int f_t_latest])), (h_t_forms, .inl (cA, 400, .inl f_t_forms)), (h_t_w, .inl (cA, 190, .inl f_t_w))]) (WC' := [(h_t, .inr (10, [.ref h_t_w, .int f_t_known, .int f_t_kept, .int f_t_seed, .ref h_t_imageSeed, .ref h_t_bookOf, .ref h_t_bookIs, .int f_t_written, .ref h_t_forms, .int f_t_formRing_1, .int f_t_formMany_1, .ref h_t_best, .ref h_t_next, .ref h_t_ways, .ref h_t_round, .ref h_t_roughs, .int f_t_latest])), (h_t_forms, .inl (cA, 400, .inl f_t_forms_1)), (h_t_w, .inl (cA, 190, .inl f_t_w))]) (WR := [(h_t_best, .inl (cA, 4096, .inl f_t_best)), (h_t_bookIs, .inl (cA, 20, .inl f_t_bookIs)), (h_t_bookOf, .inl (cA, 20, .inl f_t_bookOf)), (h_t_next, .inl (cA, 4096, .inl f_t_next)), (h_t_round, .inl (cA, 2048, .inl f_t_round)), (h_t_ways, .inl (cA, 64, .inl f_t_ways))]) (W' := [(h_t, .inr (10, [.ref h_t_w, .int f_t_known, .int f_t_kept, .int f_t_seed, .ref h_t_imageSeed, .ref h_t_bookOf, .ref h_t_bookIs, .int f_t_written, .ref h_t_forms, .int f_t_formRing_1, .int f_t_formMany_1, .ref h_t_best, .ref h_t_next, .ref h_t_ways, .ref h_t_round, .ref h_t_roughs, .int f_t_latest])), (h_t_best, .inl (cA, 4096, .inl f_t_best)), (h_t_bookIs, .inl (cA, 20, .inl f_t_bookIs)), (h_t_bookOf, .inl (cA, 20, .inl f_t_bookOf)), (h_t_forms, .inl (cA, 400, .inl f_t_forms_1)), (h_t_next, .inl (cA, 4096, .inl f_t_next)), (h_t_round, .inl (cA, 2048, .inl f_t_round)), (h_t_w, .inl (cA, 190, .inl f_t_w)), (h_t_ways, .inl (cA, 64, .inl f_t_ways))]) ⟨hx, hb, hml, hown, hts⟩ hK hP hD hS hA (c_Md_layForms l dC dI cA fu h_t h_t_w h_t_imageSeed h_t_bookOf h_t_bookIs h_t_forms h_t_best h_t_next h_t_ways h_t_round h_t_roughs f_t_known f_t_kept f_t_seed f_t_written f_t_formRing f_t_formMany f_t_latest f_t_forms f_t_w f_t_formMany_1 f_t_formRing_1 f_t_forms_1 hc69) (cwV 0 hts gX11_told_X11_layForms rfl rfl rfl (by decide +kernel) ⟨Nat.le_of_ble_eq_true rfl, Nat.le_of_ble_eq_true rfl⟩) [0, 4, 7] [1, 2, 3, 5, 6, 8] [6, 0, 1, 2, 7, 3, 4, 8, 5] rfl rfl rfl rfl (ci := 10) (q0 := 0) rfl rfl rfl rfl hl.1 (Nat.le_of_ble_eq_true rfl) dX11_told_69 ⟨Nat.zero_le _, Nat.zero_le _⟩ (fun H locs hP hD hS => ?_)
    refine lv_aload_n hx hb dX11_told_72 rfl (lv_at hl 0 rfl) ?_
    refine va_get (D := (dC, dI)) (ci := 10) (v := .int f_t_formMany_1) (C := RX11) (T := TX11) (N := 17) hx hb hts uX11 hown hK hP 0 rfl rfl 10 (by decide) k2 (fun _ h9 => h9) rfl dX11_told_73 ?_
    cases hm
    exact W_mono hQ (W.iret hx hb hr (fun t ht hW => ⟨⟨_, (), rfl, rfl, by rw [ht]; exact hP, va_K.moved hW.alike hK, hD⟩, hS.F ht⟩) hS.2.2 dX11_told_76)
  replace hm := if_f s1_2 hm
  by_cases s1_3 : a1 = 3
  · replace hm := if_t s1_3 hm
    refine lv_tableIn (tgt := 77) hx hb dX11_told_1 (by rw [s1_3]; decide) (by rw [s1_3]; decide) (by rw [s1_3]; rfl) (by decide) ?_
    refine lv_aload_n hx hb dX11_told_77 rfl (lv_at hl 0 rfl) ?_
    obtain ⟨r_2, f_t_formMany_2, f_t_formRing_2, f_t_forms_2, hc78, hm⟩ := bd4_go hm
    refine my_cVi (As := []) (rest := []) (WC := [(h_t, .inr (10, [.ref h_t_w, .int f_t_known, .int f_t_kept, .int f_t_seed, .ref h_t_imageSeed, .ref h_t_bookOf, .ref h_t_bookIs, .int f_t_written, .ref h_t_forms, .int f_t_formRing, .int f_t_formMany, .ref h_t_best, .ref h_t_next, .ref h_t_ways, .ref h_t_round, .ref h_t_roughs, .int f_t_latest])), (h_t_forms, .inl (cA, 400, .inl f_t_forms)), (h_t_w, .inl (cA, 190, .inl f_t_w))]) (WC' := [(h_t, .inr (10, [.ref h_t_w, .int f_t_known, .int f_t_kept, .int f_t_seed, .ref h_t_imageSeed, .ref h_t_bookOf, .ref h_t_bookIs, .int f_t_written, .ref h_t_forms, .int f_t_formRing_2, .int f_t_formMany_2, .ref h_t_best, .ref h_t_next, .ref h_t_ways, .ref h_t_round, .ref h_t_roughs, .int f_t_latest])), (h_t_forms, .inl (cA, 400, .inl f_t_forms_2)), (h_t_w, .inl (cA, 190, .inl f_t_w))]) (WR := [(h_t_best, .inl (cA, 4096, .inl f_t_best)), (h_t_bookIs, .inl (cA, 20, .inl f_t_bookIs)), (h_t_bookOf, .inl (cA, 20, .inl f_t_bookOf)), (h_t_next, .inl (cA, 4096, .inl f_t_next)), (h_t_round, .inl (cA, 2048, .inl f_t_round)), (h_t_ways, .inl (cA, 64, .inl f_t_ways))]) (W' := [(h_t, .inr (10, [.ref h_t_w, .int f_t_known, .int f_t_kept, .int f_t_seed, .ref h_t_imageSeed, .ref h_t_bookOf, .ref h_t_bookIs, .int f_t_written, .ref h_t_forms, .int f_t_formRing_2, .int f_t_formMany_2, .ref h_t_best, .ref h_t_next, .ref h_t_ways, .ref h_t_round, .ref h_t_roughs, .int f_t_latest])), (h_t_best, .inl (cA, 4096, .inl f_t_best)), (h_t_bookIs, .inl (cA, 20, .inl f_t_bookIs)), (h_t_bookOf, .inl (cA, 20, .inl f_t_bookOf)), (h_t_forms, .inl (cA, 400, .inl f_t_forms_2)), (h_t_next, .inl (cA, 4096, .inl f_t_next)), (h_t_round, .inl (cA, 2048, .inl f_t_round)), (h_t_w, .inl (cA, 190, .inl f_t_w)), (h_t_ways, .inl (cA, 64, .inl f_t_ways))]) ⟨hx, hb, hml, hown, hts⟩ hK hP hD hS hA (c_Md_twinPairs l dC dI cA fu h_t h_t_w h_t_imageSeed h_t_bookOf h_t_bookIs h_t_forms h_t_best h_t_next h_t_ways h_t_round h_t_roughs f_t_known f_t_kept f_t_seed f_t_written f_t_formRing f_t_formMany f_t_latest f_t_forms f_t_w r_2 f_t_formMany_2 f_t_formRing_2 f_t_forms_2 hc78) (cwV 0 hts gX11_told_X11_twinPairs rfl rfl rfl (by decide +kernel) ⟨Nat.le_of_ble_eq_true rfl, Nat.le_of_ble_eq_true rfl⟩) [0, 4, 7] [1, 2, 3, 5, 6, 8] [6, 0, 1, 2, 7, 3, 4, 8, 5] rfl rfl rfl rfl (ci := 10) (q0 := 0) rfl rfl rfl rfl hl.1 (Nat.le_of_ble_eq_true rfl) dX11_told_78 ⟨Nat.zero_le _, Nat.zero_le _⟩ (fun H locs hP hD hS => ?_)
    cases hm
    exact W_mono hQ (W.iret hx hb hr (fun t ht hW => ⟨⟨_, (), rfl, rfl, by rw [ht]; exact hP, va_K.moved hW.alike hK, hD⟩, hS.F ht⟩) hS.2.2 dX11_told_81)
  replace hm := if_f s1_3 hm
  by_cases s1_4 : a1 = 4
  · replace hm := if_t s1_4 hm
    refine lv_tableIn (tgt := 82) hx hb dX11_told_1 (by rw [s1_4]; decide) (by rw [s1_4]; decide) (by rw [s1_4]; rfl) (by decide) ?_
    refine lv_aload_n hx hb dX11_told_82 rfl (lv_at hl 0 rfl) ?_
    obtain ⟨r_3, f_t_best_1, f_t_next_1, f_t_round_1, f_t_ways_1, hc83, hm⟩ := bd5_go hm
    refine my_cVi (As := []) (rest := []) (WC := [(h_t, .inr (10, [.ref h_t_w, .int f_t_known, .int f_t_kept, .int f_t_seed, .ref h_t_imageSeed, .ref h_t_bookOf, .ref h_t_bookIs, .int f_t_written, .ref h_t_forms, .int f_t_formRing, .int f_t_formMany, .ref h_t_best, .ref h_t_next, .ref h_t_ways, .ref h_t_round, .ref h_t_roughs, .int f_t_latest])), (h_t_best, .inl (cA, 4096, .inl f_t_best)), (h_t_next, .inl (cA, 4096, .inl f_t_next)), (h_t_round, .inl (cA, 2048, .inl f_t_round)), (h_t_w, .inl (cA, 190, .inl f_t_w)), (h_t_ways, .inl (cA, 64, .inl f_t_ways))]) (WC' := [(h_t, .inr (10, [.ref h_t_w, .int f_t_known, .int f_t_kept, .int f_t_seed, .ref h_t_imageSeed, .ref h_t_bookOf, .ref h_t_bookIs, .int f_t_written, .ref h_t_forms, .int f_t_formRing, .int f_t_formMany, .ref h_t_best, .ref h_t_next, .ref h_t_ways, .ref h_t_round, .ref h_t_roughs, .int f_t_latest])), (h_t_best, .inl (cA, 4096, .inl f_t_best_1)), (h_t_next, .inl (cA, 4096, .inl f_t_next_1)), (h_t_round, .inl (cA, 2048, .inl f_t_round_1)), (h_t_w, .inl (cA, 190, .inl f_t_w)), (h_t_ways, .inl (cA, 64, .inl f_t_ways_1))]) (WR := [(h_t_bookIs, .inl (cA, 20, .inl f_t_bookIs)), (h_t_bookOf, .inl (cA, 20, .inl f_t_bookOf)), (h_t_forms, .inl (cA, 400, .inl f_t_forms))]) (W' := [(h_t, .inr (10, [.ref h_t_w, .int f_t_known, .int f_t_kept, .int f_t_seed, .ref h_t_imageSeed, .ref h_t_bookOf, .ref h_t_bookIs, .int f_t_written, .ref h_t_forms, .int f_t_formRing, .int f_t_formMany, .ref h_t_best, .ref h_t_next, .ref h_t_ways, .ref h_t_round, .ref h_t_roughs, .int f_t_latest])), (h_t_best, .inl (cA, 4096, .inl f_t_best_1)), (h_t_bookIs, .inl (cA, 20, .inl f_t_bookIs)), (h_t_bookOf, .inl (cA, 20, .inl f_t_bookOf)), (h_t_forms, .inl (cA, 400, .inl f_t_forms)), (h_t_next, .inl (cA, 4096, .inl f_t_next_1)), (h_t_round, .inl (cA, 2048, .inl f_t_round_1)), (h_t_w, .inl (cA, 190, .inl f_t_w)), (h_t_ways, .inl (cA, 64, .inl f_t_ways_1))]) ⟨hx, hb, hml, hown, hts⟩ hK hP hD hS hA (c_Md_roundNow l dC dI cA fu h_t h_t_w h_t_imageSeed h_t_bookOf h_t_bookIs h_t_forms h_t_best h_t_next h_t_ways h_t_round h_t_roughs f_t_known f_t_kept f_t_seed f_t_written f_t_formRing f_t_formMany f_t_latest f_t_best f_t_next f_t_round f_t_w f_t_ways r_3 f_t_best_1 f_t_next_1 f_t_round_1 f_t_ways_1 hc83) (cwV 0 hts gX11_told_X11_roundNow rfl rfl rfl (by decide +kernel) ⟨Nat.le_of_ble_eq_true rfl, Nat.le_of_ble_eq_true rfl⟩) [0, 1, 5, 6, 7, 8] [2, 3, 4] [3, 4, 0, 1, 2, 5, 6, 7, 8] rfl rfl rfl rfl (ci := 10) (q0 := 0) rfl rfl rfl rfl hl.1 (Nat.le_of_ble_eq_true rfl) dX11_told_83 ⟨Nat.zero_le _, Nat.zero_le _⟩ (fun H locs hP hD hS => ?_)
    cases hm
    exact W_mono hQ (W.iret hx hb hr (fun t ht hW => ⟨⟨_, (), rfl, rfl, by rw [ht]; exact hP, va_K.moved hW.alike hK, hD⟩, hS.F ht⟩) hS.2.2 dX11_told_86)
  replace hm := if_f s1_4 hm
  by_cases s1_5 : a1 = 5
  · replace hm := if_t s1_5 hm
    refine lv_tableIn (tgt := 87) hx hb dX11_told_1 (by rw [s1_5]; decide) (by rw [s1_5]; decide) (by rw [s1_5]; rfl) (by decide) ?_
    refine lv_aload_n hx hb dX11_told_87 rfl (lv_at hl 0 rfl) ?_
    obtain ⟨r_4, hc88, hm⟩ := bd1_go hm
    refine my_cVi (As := []) (rest := []) (WC := [(h_t, .inr (10, [.ref h_t_w, .int f_t_known, .int f_t_kept, .int f_t_seed, .ref h_t_imageSeed, .ref h_t_bookOf, .ref h_t_bookIs, .int f_t_written, .ref h_t_forms, .int f_t_formRing, .int f_t_formMany, .ref h_t_best, .ref h_t_next, .ref h_t_ways, .ref h_t_round, .ref h_t_roughs, .int f_t_latest])), (h_t_w, .inl (cA, 190, .inl f_t_w))]) (WC' := [(h_t, .inr (10, [.ref h_t_w, .int f_t_known, .int f_t_kept, .int f_t_seed, .ref h_t_imageSeed, .ref h_t_bookOf, .ref h_t_bookIs, .int f_t_written, .ref h_t_forms, .int f_t_formRing, .int f_t_formMany, .ref h_t_best, .ref h_t_next, .ref h_t_ways, .ref h_t_round, .ref h_t_roughs, .int f_t_latest])), (h_t_w, .inl (cA, 190, .inl f_t_w))]) (WR := [(h_t_best, .inl (cA, 4096, .inl f_t_best)), (h_t_bookIs, .inl (cA, 20, .inl f_t_bookIs)), (h_t_bookOf, .inl (cA, 20, .inl f_t_bookOf)), (h_t_forms, .inl (cA, 400, .inl f_t_forms)), (h_t_next, .inl (cA, 4096, .inl f_t_next)), (h_t_round, .inl (cA, 2048, .inl f_t_round)), (h_t_ways, .inl (cA, 64, .inl f_t_ways))]) (W' := [(h_t, .inr (10, [.ref h_t_w, .int f_t_known, .int f_t_kept, .int f_t_seed, .ref h_t_imageSeed, .ref h_t_bookOf, .ref h_t_bookIs, .int f_t_written, .ref h_t_forms, .int f_t_formRing, .int f_t_formMany, .ref h_t_best, .ref h_t_next, .ref h_t_ways, .ref h_t_round, .ref h_t_roughs, .int f_t_latest])), (h_t_best, .inl (cA, 4096, .inl f_t_best)), (h_t_bookIs, .inl (cA, 20, .inl f_t_bookIs)), (h_t_bookOf, .inl (cA, 20, .inl f_t_bookOf)), (h_t_forms, .inl (cA, 400, .inl f_t_forms)), (h_t_next, .inl (cA, 4096, .inl f_t_next)), (h_t_round, .inl (cA, 2048, .inl f_t_round)), (h_t_w, .inl (cA, 190, .inl f_t_w)), (h_t_ways, .inl (cA, 64, .inl f_t_ways))]) ⟨hx, hb, hml, hown, hts⟩ hK hP hD hS hA (c_Md_unlikeForms l dC dI cA fu h_t h_t_w h_t_imageSeed h_t_bookOf h_t_bookIs h_t_forms h_t_best h_t_next h_t_ways h_t_round h_t_roughs f_t_known f_t_kept f_t_seed f_t_written f_t_formRing f_t_formMany f_t_latest f_t_w r_4 hc88) (cwV 0 hts gX11_told_X11_unlikeForms rfl rfl rfl (by decide +kernel) ⟨Nat.le_of_ble_eq_true rfl, Nat.le_of_ble_eq_true rfl⟩) [0, 7] [1, 2, 3, 4, 5, 6, 8] [7, 0, 1, 2, 3, 4, 5, 8, 6] rfl rfl rfl rfl (ci := 10) (q0 := 0) rfl rfl rfl rfl hl.1 (Nat.le_of_ble_eq_true rfl) dX11_told_88 ⟨Nat.zero_le _, Nat.zero_le _⟩ (fun H locs hP hD hS => ?_)
    cases hm
    exact W_mono hQ (W.iret hx hb hr (fun t ht hW => ⟨⟨_, (), rfl, rfl, by rw [ht]; exact hP, va_K.moved hW.alike hK, hD⟩, hS.F ht⟩) hS.2.2 dX11_told_91)
  replace hm := if_f s1_5 hm
  by_cases s1_6 : a1 = 6
  · replace hm := if_t s1_6 hm
    refine lv_tableIn (tgt := 92) hx hb dX11_told_1 (by rw [s1_6]; decide) (by rw [s1_6]; decide) (by rw [s1_6]; rfl) (by decide) ?_
    refine lv_aload_n hx hb dX11_told_92 rfl (lv_at hl 0 rfl) ?_
    refine va_get (D := (dC, dI)) (ci := 10) (v := .int f_t_written) (C := RX11) (T := TX11) (N := 17) hx hb hts uX11 hown hK hP 0 rfl rfl 7 (by decide) k3 (fun _ h9 => h9) rfl dX11_told_93 ?_
    cases hm
    exact W_mono hQ (W.iret hx hb hr (fun t ht hW => ⟨⟨_, (), rfl, rfl, by rw [ht]; exact hP, va_K.moved hW.alike hK, hD⟩, hS.F ht⟩) hS.2.2 dX11_told_96)
  replace hm := if_f s1_6 hm
  by_cases s1_7 : a1 = 7
  · replace hm := if_t s1_7 hm
    refine lv_tableIn (tgt := 97) hx hb dX11_told_1 (by rw [s1_7]; decide) (by rw [s1_7]; decide) (by rw [s1_7]; rfl) (by decide) ?_
    refine lv_aload_n hx hb dX11_told_97 rfl (lv_at hl 0 rfl) ?_
    obtain ⟨r_5, f_t_best_2, f_t_next_2, hc98, hm⟩ := bd3_go hm
    refine my_cVi (As := []) (rest := []) (WC := [(h_t, .inr (10, [.ref h_t_w, .int f_t_known, .int f_t_kept, .int f_t_seed, .ref h_t_imageSeed, .ref h_t_bookOf, .ref h_t_bookIs, .int f_t_written, .ref h_t_forms, .int f_t_formRing, .int f_t_formMany, .ref h_t_best, .ref h_t_next, .ref h_t_ways, .ref h_t_round, .ref h_t_roughs, .int f_t_latest])), (h_t_best, .inl (cA, 4096, .inl f_t_best)), (h_t_bookIs, .inl (cA, 20, .inl f_t_bookIs)), (h_t_bookOf, .inl (cA, 20, .inl f_t_bookOf)), (h_t_next, .inl (cA, 4096, .inl f_t_next)), (h_t_w, .inl (cA, 190, .inl f_t_w))]) (WC' := [(h_t, .inr (10, [.ref h_t_w, .int f_t_known, .int f_t_kept, .int f_t_seed, .ref h_t_imageSeed, .ref h_t_bookOf, .ref h_t_bookIs, .int f_t_written, .ref h_t_forms, .int f_t_formRing, .int f_t_formMany, .ref h_t_best, .ref h_t_next, .ref h_t_ways, .ref h_t_round, .ref h_t_roughs, .int f_t_latest])), (h_t_best, .inl (cA, 4096, .inl f_t_best_2)), (h_t_bookIs, .inl (cA, 20, .inl f_t_bookIs)), (h_t_bookOf, .inl (cA, 20, .inl f_t_bookOf)), (h_t_next, .inl (cA, 4096, .inl f_t_next_2)), (h_t_w, .inl (cA, 190, .inl f_t_w))]) (WR := [(h_t_forms, .inl (cA, 400, .inl f_t_forms)), (h_t_round, .inl (cA, 2048, .inl f_t_round)), (h_t_ways, .inl (cA, 64, .inl f_t_ways))]) (W' := [(h_t, .inr (10, [.ref h_t_w, .int f_t_known, .int f_t_kept, .int f_t_seed, .ref h_t_imageSeed, .ref h_t_bookOf, .ref h_t_bookIs, .int f_t_written, .ref h_t_forms, .int f_t_formRing, .int f_t_formMany, .ref h_t_best, .ref h_t_next, .ref h_t_ways, .ref h_t_round, .ref h_t_roughs, .int f_t_latest])), (h_t_best, .inl (cA, 4096, .inl f_t_best_2)), (h_t_bookIs, .inl (cA, 20, .inl f_t_bookIs)), (h_t_bookOf, .inl (cA, 20, .inl f_t_bookOf)), (h_t_forms, .inl (cA, 400, .inl f_t_forms)), (h_t_next, .inl (cA, 4096, .inl f_t_next_2)), (h_t_round, .inl (cA, 2048, .inl f_t_round)), (h_t_w, .inl (cA, 190, .inl f_t_w)), (h_t_ways, .inl (cA, 64, .inl f_t_ways))]) ⟨hx, hb, hml, hown, hts⟩ hK hP hD hS hA (c_Md_wrong l dC dI cA fu h_t h_t_w h_t_imageSeed h_t_bookOf h_t_bookIs h_t_forms h_t_best h_t_next h_t_ways h_t_round h_t_roughs f_t_known f_t_kept f_t_seed f_t_written f_t_formRing f_t_formMany f_t_latest f_t_best f_t_bookIs f_t_bookOf f_t_next f_t_w r_5 f_t_best_2 f_t_next_2 hc98) (cwV 0 hts gX11_told_X11_wrong rfl rfl rfl (by decide +kernel) ⟨Nat.le_of_ble_eq_true rfl, Nat.le_of_ble_eq_true rfl⟩) [0, 1, 2, 3, 5, 7] [4, 6, 8] [3, 4, 5, 6, 0, 7, 1, 8, 2] rfl rfl rfl rfl (ci := 10) (q0 := 0) rfl rfl rfl rfl hl.1 (Nat.le_of_ble_eq_true rfl) dX11_told_98 ⟨Nat.zero_le _, Nat.zero_le _⟩ (fun H locs hP hD hS => ?_)
    cases hm
    exact W_mono hQ (W.iret hx hb hr (fun t ht hW => ⟨⟨_, (), rfl, rfl, by rw [ht]; exact hP, va_K.moved hW.alike hK, hD⟩, hS.F ht⟩) hS.2.2 dX11_told_101)
  replace hm := if_f s1_7 hm
  by_cases s1_8 : a1 = 8
  · replace hm := if_t s1_8 hm
    refine lv_tableIn (tgt := 102) hx hb dX11_told_1 (by rw [s1_8]; decide) (by rw [s1_8]; decide) (by rw [s1_8]; rfl) (by decide) ?_
    refine lv_aload_n hx hb dX11_told_102 rfl (lv_at hl 0 rfl) ?_
    refine va_get (D := (dC, dI)) (ci := 10) (v := .int f_t_known) (C := RX11) (T := TX11) (N := 17) hx hb hts uX11 hown hK hP 0 rfl rfl 1 (by decide) k4 (fun _ h9 => h9) rfl dX11_told_103 ?_
    cases hm
    exact W_mono hQ (W.iret hx hb hr (fun t ht hW => ⟨⟨_, (), rfl, rfl, by rw [ht]; exact hP, va_K.moved hW.alike hK, hD⟩, hS.F ht⟩) hS.2.2 dX11_told_106)
  replace hm := if_f s1_8 hm
  by_cases s1_9 : a1 = 9
  · replace hm := if_t s1_9 hm
    refine lv_tableIn (tgt := 107) hx hb dX11_told_1 (by rw [s1_9]; decide) (by rw [s1_9]; decide) (by rw [s1_9]; rfl) (by decide) ?_
    refine lv_aload_n hx hb dX11_told_107 rfl (lv_at hl 0 rfl) ?_
    refine va_get (D := (dC, dI)) (ci := 10) (v := .int f_t_seed) (C := RX11) (T := TX11) (N := 17) hx hb hts uX11 hown hK hP 0 rfl rfl 3 (by decide) k5 (fun _ h9 => h9) rfl dX11_told_108 ?_
    cases hm
    exact W_mono hQ (W.iret hx hb hr (fun t ht hW => ⟨⟨_, (), rfl, rfl, by rw [ht]; exact hP, va_K.moved hW.alike hK, hD⟩, hS.F ht⟩) hS.2.2 dX11_told_111)
  replace hm := if_f s1_9 hm
  refine lv_tableOut (tgt := 112) hx hb dX11_told_1 (sw_10 s1_0 s1_1 s1_2 s1_3 s1_4 s1_5 s1_6 s1_7 s1_8 s1_9) (by decide) ?_
  refine lv_ldc (v := (-1000000002)) hx hb hown k6 dX11_told_112 ?_
  cases hm
  exact W_mono hQ (W.iret hx hb hr (fun t ht hW => ⟨⟨_, (), rfl, rfl, by rw [ht]; exact hP, va_K.moved hW.alike hK, hD⟩, hS.F ht⟩) hS.2.2 dX11_told_114)
abbrev rmX11_undo : Room := { frames := 1, cells := 0, slots := 0, locals := 25 }
theorem uX11_X11_undo : ∀ w ∈ wsX110, w ∈ wsX11_undo := fun _ h => List.mem_cons_of_mem _ (List.mem_append_right _ (h))
set_option maxHeartbeats 40000000 in
set_option maxRecDepth 100000 in
theorem c_Md_undo (l : Launch) (dC : Nat → ClassId) (dI : Nat → Nat → Nat) (cA : ClassId) (fu : Nat) (h_t h_t_w h_t_imageSeed h_t_bookOf h_t_bookIs h_t_forms h_t_best h_t_next h_t_ways h_t_round h_t_roughs : Nat) (f_t_known : Int32) (f_t_kept : Int32) (f_t_seed : Int32) (f_t_written : Int32) (f_t_formRing : Int32) (f_t_formMany : Int32) (f_t_latest : Int32) (f_t_w : Nat → Int32) (a1 : Int32) (r0 : Int32) (f_t_known_z : Int32) (f_t_w_z : Nat → Int32) (hm : m_Md_undo fu f_t_known f_t_w a1 = some (r0, f_t_known_z, f_t_w_z)) (sz : Nat) : Met l yX11_undo wsX11_undo rmX11_undo (mPre (dC, dI) cA [.ref h_t, .int a1] sz [(h_t, .inr (10, [.ref h_t_w, .int f_t_known, .int f_t_kept, .int f_t_seed, .ref h_t_imageSeed, .ref h_t_bookOf, .ref h_t_bookIs, .int f_t_written, .ref h_t_forms, .int f_t_formRing, .int f_t_formMany, .ref h_t_best, .ref h_t_next, .ref h_t_ways, .ref h_t_round, .ref h_t_roughs, .int f_t_latest])), (h_t_w, .inl (cA, 190, .inl f_t_w))]) (mPosI (dC, dI) cA r0 (va_A [(h_t, .inr (10, [.ref h_t_w, .int f_t_known, .int f_t_kept, .int f_t_seed, .ref h_t_imageSeed, .ref h_t_bookOf, .ref h_t_bookIs, .int f_t_written, .ref h_t_forms, .int f_t_formRing, .int f_t_formMany, .ref h_t_best, .ref h_t_next, .ref h_t_ways, .ref h_t_round, .ref h_t_roughs, .int f_t_latest])), (h_t_w, .inl (cA, 190, .inl f_t_w))] sz) [(h_t, .inr (10, [.ref h_t_w, .int f_t_known_z, .int f_t_kept, .int f_t_seed, .ref h_t_imageSeed, .ref h_t_bookOf, .ref h_t_bookIs, .int f_t_written, .ref h_t_forms, .int f_t_formRing, .int f_t_formMany, .ref h_t_best, .ref h_t_next, .ref h_t_ways, .ref h_t_round, .ref h_t_roughs, .int f_t_latest])), (h_t_w, .inl (cA, 190, .inl f_t_w_z))]) 0 0 (va_A [(h_t, .inr (10, [.ref h_t_w, .int f_t_known, .int f_t_kept, .int f_t_seed, .ref h_t_imageSeed, .ref h_t_bookOf, .ref h_t_bookIs, .int f_t_written, .ref h_t_forms, .int f_t_formRing, .int f_t_formMany, .ref h_t_best, .ref h_t_next, .ref h_t_ways, .ref h_t_round, .ref h_t_roughs, .int f_t_latest])), (h_t_w, .inl (cA, 190, .inl f_t_w))] sz) := by
  refine Met.ofW (cc := cX11_undo) (maxL := 3) (ret := (some .int)) (by decide) rfl ?_
  intro p e s m args below meth c s₁ B hml hv
  obtain ⟨rfl, hsz, hP, hK, hD0⟩ := hv
  refine W_gen (fun Q hQ => ?_)
  have hx := B.exec
  have hb := B.bytes
  have hr := B.returns
  have hts := atoms_spec (ws := wsX11_undo) B.pre
  have hown : s.vm.findClass RX11 = some m.cls := findClass_of_methodNamed B.named
  have hlocks := B.notSynchronized
  subst hsz
  have hD := hD0.self (sz := s.heap.size)
  clear hD0
  generalize hAe : va_A [(h_t, .inr (10, [.ref h_t_w, .int f_t_known, .int f_t_kept, .int f_t_seed, .ref h_t_imageSeed, .ref h_t_bookOf, .ref h_t_bookIs, .int f_t_written, .ref h_t_forms, .int f_t_formRing, .int f_t_formMany, .ref h_t_best, .ref h_t_next, .ref h_t_ways, .ref h_t_round, .ref h_t_roughs, .int f_t_latest])), (h_t_w, .inl (cA, 190, .inl f_t_w))] s.heap.size = A at hD hQ
  have hA : ∀ q : Nat, s.heap.size ≤ q → A q := fun q h => by rw [← hAe]; exact Or.inr h
  clear hAe
  have hS : va_S A s.heap s.heap [] := va_S.rf
  have hl := lv_entry ([.ref h_t, .int a1]) (n := 3) (Nat.le_of_ble_eq_true rfl)
  rw [lg_entry_eq]
  generalize (lg_sl ([.ref h_t, .int a1]) ++ List.replicate (3 - (lg_sl ([.ref h_t, .int a1])).length) Slot.unset).toArray = ls at hl ⊢
  have hl : lv_has ls 3 [(0, .ref h_t), (1, .int a1)] := hl
  have k1 := hts (.constantLong RX11 208 (16)) (List.mem_of_getElem? (i := 1) rfl)
  have k3 := hts (.fieldLink RX11 44 "ToneSetsModel" "known" "I") (List.mem_of_getElem? (i := 3) rfl)
  have k5 := hts (.fieldLink RX11 7 "ToneSetsModel" "w" "[I") (List.mem_of_getElem? (i := 5) rfl)
  have k4 := hts (.constant RX11 160 (-1000000003)) (List.mem_of_getElem? (i := 4) rfl)
  have k2 := hts (.constant RX11 143 (-1000000002)) (List.mem_of_getElem? (i := 2) rfl)
  have uX11 := uX11_X11_undo
  unfold m_Md_undo at hm
  refine lv_iload_n hx hb dX11_undo_0 rfl (lv_at hl 1 rfl) ?_
  refine lv_i2l (v := Int32.toInt64 a1) hx hb dX11_undo_1 rfl ?_
  refine lv_lconst (v := 1) hx hb dX11_undo_2 (by decide) ?_
  refine lv_ldc2 (v := 16) hx hb hown k1 dX11_undo_3 ?_
  obtain ⟨r_1, hc6, hm⟩ := bd1_go hm
  refine my_cSi (As := [.long (Int32.toInt64 a1), .long 1, .long 16]) (rest := []) (WC := []) (WC' := []) (WR := [(h_t, .inr (10, [.ref h_t_w, .int f_t_known, .int f_t_kept, .int f_t_seed, .ref h_t_imageSeed, .ref h_t_bookOf, .ref h_t_bookIs, .int f_t_written, .ref h_t_forms, .int f_t_formRing, .int f_t_formMany, .ref h_t_best, .ref h_t_next, .ref h_t_ways, .ref h_t_round, .ref h_t_roughs, .int f_t_latest])), (h_t_w, .inl (cA, 190, .inl f_t_w))]) (W' := [(h_t, .inr (10, [.ref h_t_w, .int f_t_known, .int f_t_kept, .int f_t_seed, .ref h_t_imageSeed, .ref h_t_bookOf, .ref h_t_bookIs, .int f_t_written, .ref h_t_forms, .int f_t_formRing, .int f_t_formMany, .ref h_t_best, .ref h_t_next, .ref h_t_ways, .ref h_t_round, .ref h_t_roughs, .int f_t_latest])), (h_t_w, .inl (cA, 190, .inl f_t_w))]) ⟨hx, hb, hml, hown, hts⟩ hK hP hD hS hA (c_Md_in l dC dI cA (Int32.toInt64 a1) 1 16 r_1 hc6) (va_cwS 3 hts gX11_undo_X11_in rfl rfl rfl (by decide +kernel) ⟨Nat.le_of_ble_eq_true rfl, Nat.le_of_ble_eq_true rfl⟩) [] [0, 1] [0, 1] rfl rfl rfl rfl rfl rfl hl.1 (Nat.le_of_ble_eq_true rfl) dX11_undo_6 ⟨Nat.zero_le _, Nat.zero_le _⟩ (fun H locs hP hD hS => ?_)
  refine lv_if_ne (tgt := 15) hx hb dX11_undo_9 (by decide) (fun c9 => ?_) (fun c9 => ?_)
  · replace hm := if_f c9 hm
    refine lv_iload_n hx hb dX11_undo_15 rfl (lv_at hl 1 rfl) ?_
    refine lv_aload_n hx hb dX11_undo_16 rfl (lv_at hl 0 rfl) ?_
    refine va_get (D := (dC, dI)) (ci := 10) (v := .int f_t_known) (C := RX11) (T := TX11) (N := 17) hx hb hts uX11 hown hK hP 0 rfl rfl 1 (by decide) k3 (fun _ h9 => h9) rfl dX11_undo_17 ?_
    refine lv_icmp_le (tgt := 26) hx hb dX11_undo_20 (by decide) (fun c20 => ?_) (fun c20 => ?_)
    · replace hm := if_t c20 hm
      refine lv_iconst (v := 0) hx hb dX11_undo_26 (by decide) ?_
      refine lv_topi (fun v2_1 ev2_1 => ?_)
      replace hm := lt_go ev2_1 hm
      refine lv_istore_n (lv' := [(2, .int v2_1), (0, .ref h_t), (1, .int a1)]) hx hb dX11_undo_27 rfl hl (by decide) rfl (fun ls hl => ?_)
      have L28 : ∀ (n : Nat) (v2_2 : Int32) (f_t_w_1 : Nat → Int32) (f_t_w_2 : Nat → Int32), m_Md_undo_L28 fu a1 n v2_2 f_t_w_1 = some f_t_w_2 → ∀ (H : Heap) (locs : List Loc), va_P (dC, dI) vwCl [(h_t, .inr (10, [.ref h_t_w, .int f_t_known, .int f_t_kept, .int f_t_seed, .ref h_t_imageSeed, .ref h_t_bookOf, .ref h_t_bookIs, .int f_t_written, .ref h_t_forms, .int f_t_formRing, .int f_t_formMany, .ref h_t_best, .ref h_t_next, .ref h_t_ways, .ref h_t_round, .ref h_t_roughs, .int f_t_latest])), (h_t_w, .inl (cA, 190, .inl f_t_w_1))] H → va_D A [(h_t, .inr (10, [.ref h_t_w, .int f_t_known, .int f_t_kept, .int f_t_seed, .ref h_t_imageSeed, .ref h_t_bookOf, .ref h_t_bookIs, .int f_t_written, .ref h_t_forms, .int f_t_formRing, .int f_t_formMany, .ref h_t_best, .ref h_t_next, .ref h_t_ways, .ref h_t_round, .ref h_t_roughs, .int f_t_latest])), (h_t_w, .inl (cA, 190, .inl f_t_w_1))] → va_S A s.heap H locs → ∀ ls : Array Slot, lv_has ls 3 [(0, .ref h_t), (1, .int a1), (2, .int v2_2)] → (∀ (H : Heap) (locs : List Loc), va_P (dC, dI) vwCl [(h_t, .inr (10, [.ref h_t_w, .int f_t_known, .int f_t_kept, .int f_t_seed, .ref h_t_imageSeed, .ref h_t_bookOf, .ref h_t_bookIs, .int f_t_written, .ref h_t_forms, .int f_t_formRing, .int f_t_formMany, .ref h_t_best, .ref h_t_next, .ref h_t_ways, .ref h_t_round, .ref h_t_roughs, .int f_t_latest])), (h_t_w, .inl (cA, 190, .inl f_t_w_2))] H → va_D A [(h_t, .inr (10, [.ref h_t_w, .int f_t_known, .int f_t_kept, .int f_t_seed, .ref h_t_imageSeed, .ref h_t_bookOf, .ref h_t_bookIs, .int f_t_written, .ref h_t_forms, .int f_t_formRing, .int f_t_formMany, .ref h_t_best, .ref h_t_next, .ref h_t_ways, .ref h_t_round, .ref h_t_roughs, .int f_t_latest])), (h_t_w, .inl (cA, 190, .inl f_t_w_2))] → va_S A s.heap H locs → ∀ ls : Array Slot, lv_has ls 3 [(0, .ref h_t), (1, .int a1)] → W p l e (headSpec wsX11_undo rmX11_undo).room s m (([.ref h_t, .int a1] : List Value).toArray) below meth c H locs 0 0 Q (F0 m 56 ls [])) → W p l e (headSpec wsX11_undo rmX11_undo).room s m (([.ref h_t, .int a1] : List Value).toArray) below meth c H locs 0 0 Q (F0 m 28 ls []) := by
        clear hm hP hD hS hl
        intro n
        induction n with
        | zero => intro _ _ _ hm; exact nomatch (show none = some _ from hm)
        | succ n ih =>
          intro v2_2 f_t_w_1 f_t_w_2 hm H locs hP hD hS ls hl KK
          unfold m_Md_undo_L28 at hm
          refine lv_iload_n hx hb dX11_undo_28 rfl (lv_at hl 2 rfl) ?_
          refine lv_iload_n hx hb dX11_undo_29 rfl (lv_at hl 1 rfl) ?_
          refine lv_iadd hx hb dX11_undo_30 ?_
          refine lv_bipush (v := 16) hx hb dX11_undo_31 (by decide) ?_
          refine lv_icmp_gt (tgt := 56) hx hb dX11_undo_33 (by decide) (fun c33 => ?_) (fun c33 => ?_)
          · replace hm := if_t c33 hm
            cases hm
            exact KK _ _ hP hD hS _ (lv_sub hl [0, 1] rfl)
          · replace hm := if_f c33 hm
            refine lv_aload_n hx hb dX11_undo_36 rfl (lv_at hl 0 rfl) ?_
            refine lv_bipush (v := 10) hx hb dX11_undo_37 (by decide) ?_
            refine lv_iload_n hx hb dX11_undo_39 rfl (lv_at hl 2 rfl) ?_
            refine lv_iload_n hx hb dX11_undo_40 rfl (lv_at hl 1 rfl) ?_
            refine lv_iadd hx hb dX11_undo_41 ?_
            refine lv_imul hx hb dX11_undo_42 ?_
            refine lv_bipush (v := 10) hx hb dX11_undo_43 (by decide) ?_
            refine lv_iload_n hx hb dX11_undo_45 rfl (lv_at hl 2 rfl) ?_
            refine lv_imul hx hb dX11_undo_46 ?_
            obtain ⟨f_t_w_3, hc47, hm⟩ := bd1_go hm
            refine my_cVv (As := [.int (10 * (v2_2 + a1)), .int (10 * v2_2)]) (rest := []) (WC := [(h_t, .inr (10, [.ref h_t_w, .int f_t_known, .int f_t_kept, .int f_t_seed, .ref h_t_imageSeed, .ref h_t_bookOf, .ref h_t_bookIs, .int f_t_written, .ref h_t_forms, .int f_t_formRing, .int f_t_formMany, .ref h_t_best, .ref h_t_next, .ref h_t_ways, .ref h_t_round, .ref h_t_roughs, .int f_t_latest])), (h_t_w, .inl (cA, 190, .inl f_t_w_1))]) (WC' := [(h_t, .inr (10, [.ref h_t_w, .int f_t_known, .int f_t_kept, .int f_t_seed, .ref h_t_imageSeed, .ref h_t_bookOf, .ref h_t_bookIs, .int f_t_written, .ref h_t_forms, .int f_t_formRing, .int f_t_formMany, .ref h_t_best, .ref h_t_next, .ref h_t_ways, .ref h_t_round, .ref h_t_roughs, .int f_t_latest])), (h_t_w, .inl (cA, 190, .inl f_t_w_3))]) (WR := []) (W' := [(h_t, .inr (10, [.ref h_t_w, .int f_t_known, .int f_t_kept, .int f_t_seed, .ref h_t_imageSeed, .ref h_t_bookOf, .ref h_t_bookIs, .int f_t_written, .ref h_t_forms, .int f_t_formRing, .int f_t_formMany, .ref h_t_best, .ref h_t_next, .ref h_t_ways, .ref h_t_round, .ref h_t_roughs, .int f_t_latest])), (h_t_w, .inl (cA, 190, .inl f_t_w_3))]) ⟨hx, hb, hml, hown, hts⟩ hK hP hD hS hA (c_Md_copyRow l dC dI cA fu h_t h_t_w h_t_imageSeed h_t_bookOf h_t_bookIs h_t_forms h_t_best h_t_next h_t_ways h_t_round h_t_roughs f_t_known f_t_kept f_t_seed f_t_written f_t_formRing f_t_formMany f_t_latest f_t_w_1 (10 * (v2_2 + a1)) (10 * v2_2) f_t_w_3 hc47) (cwV 2 hts gX11_undo_X11_copyRow rfl rfl rfl (by decide +kernel) ⟨Nat.le_of_ble_eq_true rfl, Nat.le_of_ble_eq_true rfl⟩) [0, 1] [] [0, 1] rfl rfl rfl rfl (ci := 10) (q0 := 0) rfl rfl rfl rfl hl.1 (Nat.le_of_ble_eq_true rfl) dX11_undo_47 ⟨Nat.zero_le _, Nat.zero_le _⟩ (fun H locs hP hD hS => ?_)
            obtain ⟨v2_3, ev2_3⟩ : ∃ z : Int32, z = v2_2 + 1 := ⟨_, rfl⟩
            replace hm := lt_go ev2_3 hm
            refine lv_iinc (v := v2_3) (lv' := [(2, .int v2_3), (0, .ref h_t), (1, .int a1)]) hx hb dX11_undo_50 hl (k := 2) rfl (by rw [ev2_3]; rfl) (by decide) rfl (fun ls hl => ?_)
            refine lv_goto (tgt := 28) hx hb dX11_undo_53 (by decide) ?_
            exact ih _ _ _ hm _ _ hP hD hS _ (lv_sub hl [1, 2, 0] rfl) KK
      obtain ⟨f_t_w_4, hl28, hm⟩ := bd1_go hm
      refine L28 _ _ _ _ hl28 _ _ hP hD hS _ (lv_sub hl [1, 2, 0] rfl) (fun H locs hP hD hS ls hl => ?_)
      refine lv_aload_n hx hb dX11_undo_56 rfl (lv_at hl 0 rfl) ?_
      refine lv_dup hx hb dX11_undo_57 rfl ?_
      refine va_get (D := (dC, dI)) (ci := 10) (v := .int f_t_known) (C := RX11) (T := TX11) (N := 17) hx hb hts uX11 hown hK hP 0 rfl rfl 1 (by decide) k3 (fun _ h9 => h9) rfl dX11_undo_58 ?_
      refine lv_iload_n hx hb dX11_undo_61 rfl (lv_at hl 1 rfl) ?_
      refine lv_isub hx hb dX11_undo_62 ?_
      refine lv_topi (fun f_t_known_1 ef_t_known_1 => ?_)
      replace hm := lt_go ef_t_known_1 hm
      refine my_put (W' := [(h_t, .inr (10, [.ref h_t_w, .int f_t_known_1, .int f_t_kept, .int f_t_seed, .ref h_t_imageSeed, .ref h_t_bookOf, .ref h_t_bookIs, .int f_t_written, .ref h_t_forms, .int f_t_formRing, .int f_t_formMany, .ref h_t_best, .ref h_t_next, .ref h_t_ways, .ref h_t_round, .ref h_t_roughs, .int f_t_latest])), (h_t_w, .inl (cA, 190, .inl f_t_w_4))]) (ci := 10) (v := .int f_t_known_1) (ty := .int) (C := RX11) (T := TX11) (N := 17) hx hb hts uX11 tyX11 tyX11_ok nmX11 hown hK hP hD hS 0 rfl rfl 1 (by decide) k3 (fun _ h9 => h9) rfl (by decide +kernel) rfl rfl (Nat.le_of_ble_eq_true rfl) dX11_undo_63 rfl (fun H locs hP hD hS => ?_)
      refine lv_aload_n hx hb dX11_undo_66 rfl (lv_at hl 0 rfl) ?_
      refine va_get (D := (dC, dI)) (ci := 10) (v := .ref h_t_w) (C := RX11) (T := TX11) (N := 17) hx hb hts uX11 hown hK hP 0 rfl rfl 0 (by decide) k5 (fun _ h9 => h9) rfl dX11_undo_67 ?_
      refine lv_iconst (v := 1) hx hb dX11_undo_70 (by decide) ?_
      obtain ⟨b71, hm⟩ := ck_go hm
      refine va_iald hx hb hK hP 1 0 rfl rfl b71 dX11_undo_71 ?_
      cases hm
      exact W_mono hQ (W.iret hx hb hr (fun t ht hW => ⟨⟨_, (), rfl, rfl, by rw [ht]; exact hP, va_K.moved hW.alike hK, hD⟩, hS.F ht⟩) hS.2.2 dX11_undo_72)
    · replace hm := if_f c20 hm
      refine lv_ldc (v := (-1000000003)) hx hb hown k4 dX11_undo_23 ?_
      cases hm
      exact W_mono hQ (W.iret hx hb hr (fun t ht hW => ⟨⟨_, (), rfl, rfl, by rw [ht]; exact hP, va_K.moved hW.alike hK, hD⟩, hS.F ht⟩) hS.2.2 dX11_undo_25)
  · replace hm := if_t c9 hm
    refine lv_ldc (v := (-1000000002)) hx hb hown k2 dX11_undo_12 ?_
    cases hm
    exact W_mono hQ (W.iret hx hb hr (fun t ht hW => ⟨⟨_, (), rfl, rfl, by rw [ht]; exact hP, va_K.moved hW.alike hK, hD⟩, hS.F ht⟩) hS.2.2 dX11_undo_14)
abbrev rmX11_way : Room := { frames := 5, cells := 0, slots := 0, locals := 114 }
theorem uX11_X11_way : ∀ w ∈ wsX110, w ∈ wsX11_way := fun _ h => List.mem_cons_of_mem _ (List.mem_append_right _ (h))
set_option maxHeartbeats 40000000 in
set_option maxRecDepth 100000 in
theorem c_Md_way (l : Launch) (dC : Nat → ClassId) (dI : Nat → Nat → Nat) (cA : ClassId) (fu : Nat) (h_t h_t_w h_t_imageSeed h_t_bookOf h_t_bookIs h_t_forms h_t_best h_t_next h_t_ways h_t_round h_t_roughs : Nat) (f_t_known : Int32) (f_t_kept : Int32) (f_t_seed : Int32) (f_t_written : Int32) (f_t_formRing : Int32) (f_t_formMany : Int32) (f_t_latest : Int32) (f_t_best : Nat → Int32) (f_t_next : Nat → Int32) (f_t_w : Nat → Int32) (a1 : Int32) (a2 : Int32) (r0 : Int32) (f_t_best_z : Nat → Int32) (f_t_next_z : Nat → Int32) (hm : m_Md_way fu f_t_best f_t_next f_t_w a1 a2 = some (r0, f_t_best_z, f_t_next_z)) (sz : Nat) : Met l yX11_way wsX11_way rmX11_way (mPre (dC, dI) cA [.ref h_t, .int a1, .int a2] sz [(h_t, .inr (10, [.ref h_t_w, .int f_t_known, .int f_t_kept, .int f_t_seed, .ref h_t_imageSeed, .ref h_t_bookOf, .ref h_t_bookIs, .int f_t_written, .ref h_t_forms, .int f_t_formRing, .int f_t_formMany, .ref h_t_best, .ref h_t_next, .ref h_t_ways, .ref h_t_round, .ref h_t_roughs, .int f_t_latest])), (h_t_best, .inl (cA, 4096, .inl f_t_best)), (h_t_next, .inl (cA, 4096, .inl f_t_next)), (h_t_w, .inl (cA, 190, .inl f_t_w))]) (mPosI (dC, dI) cA r0 (va_A [(h_t, .inr (10, [.ref h_t_w, .int f_t_known, .int f_t_kept, .int f_t_seed, .ref h_t_imageSeed, .ref h_t_bookOf, .ref h_t_bookIs, .int f_t_written, .ref h_t_forms, .int f_t_formRing, .int f_t_formMany, .ref h_t_best, .ref h_t_next, .ref h_t_ways, .ref h_t_round, .ref h_t_roughs, .int f_t_latest])), (h_t_best, .inl (cA, 4096, .inl f_t_best)), (h_t_next, .inl (cA, 4096, .inl f_t_next)), (h_t_w, .inl (cA, 190, .inl f_t_w))] sz) [(h_t, .inr (10, [.ref h_t_w, .int f_t_known, .int f_t_kept, .int f_t_seed, .ref h_t_imageSeed, .ref h_t_bookOf, .ref h_t_bookIs, .int f_t_written, .ref h_t_forms, .int f_t_formRing, .int f_t_formMany, .ref h_t_best, .ref h_t_next, .ref h_t_ways, .ref h_t_round, .ref h_t_roughs, .int f_t_latest])), (h_t_best, .inl (cA, 4096, .inl f_t_best_z)), (h_t_next, .inl (cA, 4096, .inl f_t_next_z)), (h_t_w, .inl (cA, 190, .inl f_t_w))]) 0 0 (va_A [(h_t, .inr (10, [.ref h_t_w, .int f_t_known, .int f_t_kept, .int f_t_seed, .ref h_t_imageSeed, .ref h_t_bookOf, .ref h_t_bookIs, .int f_t_written, .ref h_t_forms, .int f_t_formRing, .int f_t_formMany, .ref h_t_best, .ref h_t_next, .ref h_t_ways, .ref h_t_round, .ref h_t_roughs, .int f_t_latest])), (h_t_best, .inl (cA, 4096, .inl f_t_best)), (h_t_next, .inl (cA, 4096, .inl f_t_next)), (h_t_w, .inl (cA, 190, .inl f_t_w))] sz) := by
  refine Met.ofW (cc := cX11_way) (maxL := 3) (ret := (some .int)) (by decide) rfl ?_
  intro p e s m args below meth c s₁ B hml hv
  obtain ⟨rfl, hsz, hP, hK, hD0⟩ := hv
  refine W_gen (fun Q hQ => ?_)
  have hx := B.exec
  have hb := B.bytes
  have hr := B.returns
  have hts := atoms_spec (ws := wsX11_way) B.pre
  have hown : s.vm.findClass RX11 = some m.cls := findClass_of_methodNamed B.named
  have hlocks := B.notSynchronized
  subst hsz
  have hD := hD0.self (sz := s.heap.size)
  clear hD0
  generalize hAe : va_A [(h_t, .inr (10, [.ref h_t_w, .int f_t_known, .int f_t_kept, .int f_t_seed, .ref h_t_imageSeed, .ref h_t_bookOf, .ref h_t_bookIs, .int f_t_written, .ref h_t_forms, .int f_t_formRing, .int f_t_formMany, .ref h_t_best, .ref h_t_next, .ref h_t_ways, .ref h_t_round, .ref h_t_roughs, .int f_t_latest])), (h_t_best, .inl (cA, 4096, .inl f_t_best)), (h_t_next, .inl (cA, 4096, .inl f_t_next)), (h_t_w, .inl (cA, 190, .inl f_t_w))] s.heap.size = A at hD hQ
  have hA : ∀ q : Nat, s.heap.size ≤ q → A q := fun q h => by rw [← hAe]; exact Or.inr h
  clear hAe
  have hS : va_S A s.heap s.heap [] := va_S.rf
  have hl := lv_entry ([.ref h_t, .int a1, .int a2]) (n := 3) (Nat.le_of_ble_eq_true rfl)
  rw [lg_entry_eq]
  generalize (lg_sl ([.ref h_t, .int a1, .int a2]) ++ List.replicate (3 - (lg_sl ([.ref h_t, .int a1, .int a2])).length) Slot.unset).toArray = ls at hl ⊢
  have hl : lv_has ls 3 [(0, .ref h_t), (1, .int a1), (2, .int a2)] := hl
  have k1 := hts (.constant RX11 144 (-1000000001)) (List.mem_of_getElem? (i := 1) rfl)
  have k3 := hts (.constant RX11 160 (-1000000003)) (List.mem_of_getElem? (i := 3) rfl)
  have k2 := hts (.fieldLink RX11 7 "ToneSetsModel" "w" "[I") (List.mem_of_getElem? (i := 2) rfl)
  have uX11 := uX11_X11_way
  unfold m_Md_way at hm
  refine lv_aload_n hx hb dX11_way_0 rfl (lv_at hl 0 rfl) ?_
  refine lv_iload_n hx hb dX11_way_1 rfl (lv_at hl 1 rfl) ?_
  obtain ⟨r_1, hc2, hm⟩ := bd1_go hm
  refine my_cVi (As := [.int a1]) (rest := []) (WC := [(h_t, .inr (10, [.ref h_t_w, .int f_t_known, .int f_t_kept, .int f_t_seed, .ref h_t_imageSeed, .ref h_t_bookOf, .ref h_t_bookIs, .int f_t_written, .ref h_t_forms, .int f_t_formRing, .int f_t_formMany, .ref h_t_best, .ref h_t_next, .ref h_t_ways, .ref h_t_round, .ref h_t_roughs, .int f_t_latest])), (h_t_w, .inl (cA, 190, .inl f_t_w))]) (WC' := [(h_t, .inr (10, [.ref h_t_w, .int f_t_known, .int f_t_kept, .int f_t_seed, .ref h_t_imageSeed, .ref h_t_bookOf, .ref h_t_bookIs, .int f_t_written, .ref h_t_forms, .int f_t_formRing, .int f_t_formMany, .ref h_t_best, .ref h_t_next, .ref h_t_ways, .ref h_t_round, .ref h_t_roughs, .int f_t_latest])), (h_t_w, .inl (cA, 190, .inl f_t_w))]) (WR := [(h_t_best, .inl (cA, 4096, .inl f_t_best)), (h_t_next, .inl (cA, 4096, .inl f_t_next))]) (W' := [(h_t, .inr (10, [.ref h_t_w, .int f_t_known, .int f_t_kept, .int f_t_seed, .ref h_t_imageSeed, .ref h_t_bookOf, .ref h_t_bookIs, .int f_t_written, .ref h_t_forms, .int f_t_formRing, .int f_t_formMany, .ref h_t_best, .ref h_t_next, .ref h_t_ways, .ref h_t_round, .ref h_t_roughs, .int f_t_latest])), (h_t_best, .inl (cA, 4096, .inl f_t_best)), (h_t_next, .inl (cA, 4096, .inl f_t_next)), (h_t_w, .inl (cA, 190, .inl f_t_w))]) ⟨hx, hb, hml, hown, hts⟩ hK hP hD hS hA (c_Md_isPlace l dC dI cA h_t h_t_w h_t_imageSeed h_t_bookOf h_t_bookIs h_t_forms h_t_best h_t_next h_t_ways h_t_round h_t_roughs f_t_known f_t_kept f_t_seed f_t_written f_t_formRing f_t_formMany f_t_latest f_t_w a1 r_1 hc2) (cwV 1 hts gX11_way_X11_isPlace rfl rfl rfl (by decide +kernel) ⟨Nat.le_of_ble_eq_true rfl, Nat.le_of_ble_eq_true rfl⟩) [0, 3] [1, 2] [2, 0, 1, 3] rfl rfl rfl rfl (ci := 10) (q0 := 0) rfl rfl rfl rfl hl.1 (Nat.le_of_ble_eq_true rfl) dX11_way_2 ⟨Nat.zero_le _, Nat.zero_le _⟩ (fun H locs hP hD hS => ?_)
  refine lv_if_eq (tgt := 16) hx hb dX11_way_5 (by decide) (fun c5 => ?_) (fun c5 => ?_)
  · replace hm := if_t c5 hm
    refine lv_ldc (v := (-1000000001)) hx hb hown k1 dX11_way_16 ?_
    cases hm
    exact W_mono hQ (W.iret hx hb hr (fun t ht hW => ⟨⟨_, (), rfl, rfl, by rw [ht]; exact hP, va_K.moved hW.alike hK, hD⟩, hS.F ht⟩) hS.2.2 dX11_way_18)
  · replace hm := if_f c5 hm
    refine lv_aload_n hx hb dX11_way_8 rfl (lv_at hl 0 rfl) ?_
    refine lv_iload_n hx hb dX11_way_9 rfl (lv_at hl 2 rfl) ?_
    obtain ⟨r_2, hc10, hm⟩ := bd1_go hm
    refine my_cVi (As := [.int a2]) (rest := []) (WC := [(h_t, .inr (10, [.ref h_t_w, .int f_t_known, .int f_t_kept, .int f_t_seed, .ref h_t_imageSeed, .ref h_t_bookOf, .ref h_t_bookIs, .int f_t_written, .ref h_t_forms, .int f_t_formRing, .int f_t_formMany, .ref h_t_best, .ref h_t_next, .ref h_t_ways, .ref h_t_round, .ref h_t_roughs, .int f_t_latest])), (h_t_w, .inl (cA, 190, .inl f_t_w))]) (WC' := [(h_t, .inr (10, [.ref h_t_w, .int f_t_known, .int f_t_kept, .int f_t_seed, .ref h_t_imageSeed, .ref h_t_bookOf, .ref h_t_bookIs, .int f_t_written, .ref h_t_forms, .int f_t_formRing, .int f_t_formMany, .ref h_t_best, .ref h_t_next, .ref h_t_ways, .ref h_t_round, .ref h_t_roughs, .int f_t_latest])), (h_t_w, .inl (cA, 190, .inl f_t_w))]) (WR := [(h_t_best, .inl (cA, 4096, .inl f_t_best)), (h_t_next, .inl (cA, 4096, .inl f_t_next))]) (W' := [(h_t, .inr (10, [.ref h_t_w, .int f_t_known, .int f_t_kept, .int f_t_seed, .ref h_t_imageSeed, .ref h_t_bookOf, .ref h_t_bookIs, .int f_t_written, .ref h_t_forms, .int f_t_formRing, .int f_t_formMany, .ref h_t_best, .ref h_t_next, .ref h_t_ways, .ref h_t_round, .ref h_t_roughs, .int f_t_latest])), (h_t_best, .inl (cA, 4096, .inl f_t_best)), (h_t_next, .inl (cA, 4096, .inl f_t_next)), (h_t_w, .inl (cA, 190, .inl f_t_w))]) ⟨hx, hb, hml, hown, hts⟩ hK hP hD hS hA (c_Md_isPlace l dC dI cA h_t h_t_w h_t_imageSeed h_t_bookOf h_t_bookIs h_t_forms h_t_best h_t_next h_t_ways h_t_round h_t_roughs f_t_known f_t_kept f_t_seed f_t_written f_t_formRing f_t_formMany f_t_latest f_t_w a2 r_2 hc10) (cwV 1 hts gX11_way_X11_isPlace rfl rfl rfl (by decide +kernel) ⟨Nat.le_of_ble_eq_true rfl, Nat.le_of_ble_eq_true rfl⟩) [0, 3] [1, 2] [2, 0, 1, 3] rfl rfl rfl rfl (ci := 10) (q0 := 0) rfl rfl rfl rfl hl.1 (Nat.le_of_ble_eq_true rfl) dX11_way_10 ⟨Nat.zero_le _, Nat.zero_le _⟩ (fun H locs hP hD hS => ?_)
    refine lv_if_ne (tgt := 19) hx hb dX11_way_13 (by decide) (fun c13 => ?_) (fun c13 => ?_)
    · replace hm := if_f c13 hm
      refine lv_aload_n hx hb dX11_way_19 rfl (lv_at hl 0 rfl) ?_
      refine lv_iload_n hx hb dX11_way_20 rfl (lv_at hl 1 rfl) ?_
      refine lv_iload_n hx hb dX11_way_21 rfl (lv_at hl 2 rfl) ?_
      obtain ⟨r_3, hc22, hm⟩ := bd1_go hm
      refine my_cVi (As := [.int a1, .int a2]) (rest := []) (WC := [(h_t, .inr (10, [.ref h_t_w, .int f_t_known, .int f_t_kept, .int f_t_seed, .ref h_t_imageSeed, .ref h_t_bookOf, .ref h_t_bookIs, .int f_t_written, .ref h_t_forms, .int f_t_formRing, .int f_t_formMany, .ref h_t_best, .ref h_t_next, .ref h_t_ways, .ref h_t_round, .ref h_t_roughs, .int f_t_latest])), (h_t_w, .inl (cA, 190, .inl f_t_w))]) (WC' := [(h_t, .inr (10, [.ref h_t_w, .int f_t_known, .int f_t_kept, .int f_t_seed, .ref h_t_imageSeed, .ref h_t_bookOf, .ref h_t_bookIs, .int f_t_written, .ref h_t_forms, .int f_t_formRing, .int f_t_formMany, .ref h_t_best, .ref h_t_next, .ref h_t_ways, .ref h_t_round, .ref h_t_roughs, .int f_t_latest])), (h_t_w, .inl (cA, 190, .inl f_t_w))]) (WR := [(h_t_best, .inl (cA, 4096, .inl f_t_best)), (h_t_next, .inl (cA, 4096, .inl f_t_next))]) (W' := [(h_t, .inr (10, [.ref h_t_w, .int f_t_known, .int f_t_kept, .int f_t_seed, .ref h_t_imageSeed, .ref h_t_bookOf, .ref h_t_bookIs, .int f_t_written, .ref h_t_forms, .int f_t_formRing, .int f_t_formMany, .ref h_t_best, .ref h_t_next, .ref h_t_ways, .ref h_t_round, .ref h_t_roughs, .int f_t_latest])), (h_t_best, .inl (cA, 4096, .inl f_t_best)), (h_t_next, .inl (cA, 4096, .inl f_t_next)), (h_t_w, .inl (cA, 190, .inl f_t_w))]) ⟨hx, hb, hml, hown, hts⟩ hK hP hD hS hA (c_Md_areWays l dC dI cA h_t h_t_w h_t_imageSeed h_t_bookOf h_t_bookIs h_t_forms h_t_best h_t_next h_t_ways h_t_round h_t_roughs f_t_known f_t_kept f_t_seed f_t_written f_t_formRing f_t_formMany f_t_latest f_t_w a1 a2 r_3 hc22) (cwV 2 hts gX11_way_X11_areWays rfl rfl rfl (by decide +kernel) ⟨Nat.le_of_ble_eq_true rfl, Nat.le_of_ble_eq_true rfl⟩) [0, 3] [1, 2] [2, 0, 1, 3] rfl rfl rfl rfl (ci := 10) (q0 := 0) rfl rfl rfl rfl hl.1 (Nat.le_of_ble_eq_true rfl) dX11_way_22 ⟨Nat.zero_le _, Nat.zero_le _⟩ (fun H locs hP hD hS => ?_)
      refine lv_if_eq (tgt := 51) hx hb dX11_way_25 (by decide) (fun c25 => ?_) (fun c25 => ?_)
      · replace hm := if_t c25 hm
        refine lv_ldc (v := (-1000000003)) hx hb hown k3 dX11_way_51 ?_
        cases hm
        exact W_mono hQ (W.iret hx hb hr (fun t ht hW => ⟨⟨_, (), rfl, rfl, by rw [ht]; exact hP, va_K.moved hW.alike hK, hD⟩, hS.F ht⟩) hS.2.2 dX11_way_53)
      · replace hm := if_f c25 hm
        refine lv_aload_n hx hb dX11_way_28 rfl (lv_at hl 0 rfl) ?_
        refine lv_aload_n hx hb dX11_way_29 rfl (lv_at hl 0 rfl) ?_
        refine va_get (D := (dC, dI)) (ci := 10) (v := .ref h_t_w) (C := RX11) (T := TX11) (N := 17) hx hb hts uX11 hown hK hP 0 rfl rfl 0 (by decide) k2 (fun _ h9 => h9) rfl dX11_way_30 ?_
        refine lv_iconst (v := 2) hx hb dX11_way_33 (by decide) ?_
        refine lv_iload_n hx hb dX11_way_34 rfl (lv_at hl 1 rfl) ?_
        refine lv_iadd hx hb dX11_way_35 ?_
        obtain ⟨b36, hm⟩ := ck_go hm
        refine va_iald hx hb hK hP 3 0 rfl rfl b36 dX11_way_36 ?_
        refine lv_aload_n hx hb dX11_way_37 rfl (lv_at hl 0 rfl) ?_
        refine va_get (D := (dC, dI)) (ci := 10) (v := .ref h_t_w) (C := RX11) (T := TX11) (N := 17) hx hb hts uX11 hown hK hP 0 rfl rfl 0 (by decide) k2 (fun _ h9 => h9) rfl dX11_way_38 ?_
        refine lv_iconst (v := 2) hx hb dX11_way_41 (by decide) ?_
        refine lv_iload_n hx hb dX11_way_42 rfl (lv_at hl 2 rfl) ?_
        refine lv_iadd hx hb dX11_way_43 ?_
        obtain ⟨b44, hm⟩ := ck_go hm
        refine va_iald hx hb hK hP 3 0 rfl rfl b44 dX11_way_44 ?_
        obtain ⟨r_4, f_t_best_1, f_t_next_1, hc45, hm⟩ := bd3_go hm
        refine my_cVi (As := [.int (f_t_w (2 + a1).toNatClampNeg), .int (f_t_w (2 + a2).toNatClampNeg)]) (rest := []) (WC := [(h_t, .inr (10, [.ref h_t_w, .int f_t_known, .int f_t_kept, .int f_t_seed, .ref h_t_imageSeed, .ref h_t_bookOf, .ref h_t_bookIs, .int f_t_written, .ref h_t_forms, .int f_t_formRing, .int f_t_formMany, .ref h_t_best, .ref h_t_next, .ref h_t_ways, .ref h_t_round, .ref h_t_roughs, .int f_t_latest])), (h_t_best, .inl (cA, 4096, .inl f_t_best)), (h_t_next, .inl (cA, 4096, .inl f_t_next)), (h_t_w, .inl (cA, 190, .inl f_t_w))]) (WC' := [(h_t, .inr (10, [.ref h_t_w, .int f_t_known, .int f_t_kept, .int f_t_seed, .ref h_t_imageSeed, .ref h_t_bookOf, .ref h_t_bookIs, .int f_t_written, .ref h_t_forms, .int f_t_formRing, .int f_t_formMany, .ref h_t_best, .ref h_t_next, .ref h_t_ways, .ref h_t_round, .ref h_t_roughs, .int f_t_latest])), (h_t_best, .inl (cA, 4096, .inl f_t_best_1)), (h_t_next, .inl (cA, 4096, .inl f_t_next_1)), (h_t_w, .inl (cA, 190, .inl f_t_w))]) (WR := []) (W' := [(h_t, .inr (10, [.ref h_t_w, .int f_t_known, .int f_t_kept, .int f_t_seed, .ref h_t_imageSeed, .ref h_t_bookOf, .ref h_t_bookIs, .int f_t_written, .ref h_t_forms, .int f_t_formRing, .int f_t_formMany, .ref h_t_best, .ref h_t_next, .ref h_t_ways, .ref h_t_round, .ref h_t_roughs, .int f_t_latest])), (h_t_best, .inl (cA, 4096, .inl f_t_best_1)), (h_t_next, .inl (cA, 4096, .inl f_t_next_1)), (h_t_w, .inl (cA, 190, .inl f_t_w))]) ⟨hx, hb, hml, hown, hts⟩ hK hP hD hS hA (c_Md_wayOf l dC dI cA fu h_t h_t_w h_t_imageSeed h_t_bookOf h_t_bookIs h_t_forms h_t_best h_t_next h_t_ways h_t_round h_t_roughs f_t_known f_t_kept f_t_seed f_t_written f_t_formRing f_t_formMany f_t_latest f_t_best f_t_next f_t_w (f_t_w (2 + a1).toNatClampNeg) (f_t_w (2 + a2).toNatClampNeg) r_4 f_t_best_1 f_t_next_1 hc45) (cwV 2 hts gX11_way_X11_wayOf rfl rfl rfl (by decide +kernel) ⟨Nat.le_of_ble_eq_true rfl, Nat.le_of_ble_eq_true rfl⟩) [0, 1, 2, 3] [] [0, 1, 2, 3] rfl rfl rfl rfl (ci := 10) (q0 := 0) rfl rfl rfl rfl hl.1 (Nat.le_of_ble_eq_true rfl) dX11_way_45 ⟨Nat.zero_le _, Nat.zero_le _⟩ (fun H locs hP hD hS => ?_)
        refine lv_goto (tgt := 53) hx hb dX11_way_48 (by decide) ?_
        cases hm
        exact W_mono hQ (W.iret hx hb hr (fun t ht hW => ⟨⟨_, (), rfl, rfl, by rw [ht]; exact hP, va_K.moved hW.alike hK, hD⟩, hS.F ht⟩) hS.2.2 dX11_way_53)
    · replace hm := if_t c13 hm
      refine lv_ldc (v := (-1000000001)) hx hb hown k1 dX11_way_16 ?_
      cases hm
      exact W_mono hQ (W.iret hx hb hr (fun t ht hW => ⟨⟨_, (), rfl, rfl, by rw [ht]; exact hP, va_K.moved hW.alike hK, hD⟩, hS.F ht⟩) hS.2.2 dX11_way_18)
