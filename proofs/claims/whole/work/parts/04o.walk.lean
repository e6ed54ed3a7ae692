abbrev rmX11_write : Room := { frames := 2, cells := 0, slots := 0, locals := 46 }
theorem uX11_X11_write : ∀ w ∈ wsX110, w ∈ wsX11_write := fun _ h => List.mem_cons_of_mem _ (List.mem_append_right _ (h))
set_option maxHeartbeats 40000000 in
set_option maxRecDepth 100000 in
theorem c_Md_write (l : Launch) (dC : Nat → ClassId) (dI : Nat → Nat → Nat) (cA : ClassId) (h_t h_t_w h_t_imageSeed h_t_bookOf h_t_bookIs h_t_forms h_t_best h_t_next h_t_ways h_t_round h_t_roughs : Nat) (f_t_known : Int32) (f_t_kept : Int32) (f_t_seed : Int32) (f_t_written : Int32) (f_t_formRing : Int32) (f_t_formMany : Int32) (f_t_latest : Int32) (f_t_bookIs : Nat → Int32) (f_t_bookOf : Nat → Int32) (f_t_w : Nat → Int32) (a1 : Int32) (a2 : Int32) (r0 : Int32) (f_t_bookIs_z : Nat → Int32) (f_t_bookOf_z : Nat → Int32) (f_t_written_z : Int32) (hm : m_Md_write f_t_bookIs f_t_bookOf f_t_w f_t_written a1 a2 = some (r0, f_t_bookIs_z, f_t_bookOf_z, f_t_written_z)) (sz : Nat) : Met l yX11_write wsX11_write rmX11_write (mPre (dC, dI) cA [.ref h_t, .int a1, .int a2] sz [(h_t, .inr (10, [.ref h_t_w, .int f_t_known, .int f_t_kept, .int f_t_seed, .ref h_t_imageSeed, .ref h_t_bookOf, .ref h_t_bookIs, .int f_t_written, .ref h_t_forms, .int f_t_formRing, .int f_t_formMany, .ref h_t_best, .ref h_t_next, .ref h_t_ways, .ref h_t_round, .ref h_t_roughs, .int f_t_latest])), (h_t_bookIs, .inl (cA, 20, .inl f_t_bookIs)), (h_t_bookOf, .inl (cA, 20, .inl f_t_bookOf)), (h_t_w, .inl (cA, 190, .inl f_t_w))]) (mPosI (dC, dI) cA r0 (va_A [(h_t, .inr (10, [.ref h_t_w, .int f_t_known, .int f_t_kept, .int f_t_seed, .ref h_t_imageSeed, .ref h_t_bookOf, .ref h_t_bookIs, .int f_t_written, .ref h_t_forms, .int f_t_formRing, .int f_t_formMany, .ref h_t_best, .ref h_t_next, .ref h_t_ways, .ref h_t_round, .ref h_t_roughs, .int f_t_latest])), (h_t_bookIs, .inl (cA, 20, .inl f_t_bookIs)), (h_t_bookOf, .inl (cA, 20, .inl f_t_bookOf)), (h_t_w, .inl (cA, 190, .inl f_t_w))] sz) [(h_t, .inr (10, [.ref h_t_w, .int f_t_known, .int f_t_kept, .int f_t_seed, .ref h_t_imageSeed, .ref h_t_bookOf, .ref h_t_bookIs, .int f_t_written_z, .ref h_t_forms, .int f_t_formRing, .int f_t_formMany, .ref h_t_best, .ref h_t_next, .ref h_t_ways, .ref h_t_round, .ref h_t_roughs, .int f_t_latest])), (h_t_bookIs, .inl (cA, 20, .inl f_t_bookIs_z)), (h_t_bookOf, .inl (cA, 20, .inl f_t_bookOf_z)), (h_t_w, .inl (cA, 190, .inl f_t_w))]) 0 0 (va_A [(h_t, .inr (10, [.ref h_t_w, .int f_t_known, .int f_t_kept, .int f_t_seed, .ref h_t_imageSeed, .ref h_t_bookOf, .ref h_t_bookIs, .int f_t_written, .ref h_t_forms, .int f_t_formRing, .int f_t_formMany, .ref h_t_best, .ref h_t_next, .ref h_t_ways, .ref h_t_round, .ref h_t_roughs, .int f_t_latest])), (h_t_bookIs, .inl (cA, 20, .inl f_t_bookIs)), (h_t_bookOf, .inl (cA, 20, .inl f_t_bookOf)), (h_t_w, .inl (cA, 190, .inl f_t_w))] sz) := by
  refine Met.ofW (cc := cX11_write) (maxL := 3) (ret := (some .int)) (by decide) rfl ?_
  intro p e s m args below meth c s₁ B hml hv
  obtain ⟨rfl, hsz, hP, hK, hD0⟩ := hv
  refine W_gen (fun Q hQ => ?_)
  have hx := B.exec
  have hb := B.bytes
  have hr := B.returns
  have hts := atoms_spec (ws := wsX11_write) B.pre
  have hown : s.vm.findClass RX11 = some m.cls := findClass_of_methodNamed B.named
  have hlocks := B.notSynchronized
  subst hsz
  have hD := hD0.self (sz := s.heap.size)
  clear hD0
  generalize hAe : va_A [(h_t, .inr (10, [.ref h_t_w, .int f_t_known, .int f_t_kept, .int f_t_seed, .ref h_t_imageSeed, .ref h_t_bookOf, .ref h_t_bookIs, .int f_t_written, .ref h_t_forms, .int f_t_formRing, .int f_t_formMany, .ref h_t_best, .ref h_t_next, .ref h_t_ways, .ref h_t_round, .ref h_t_roughs, .int f_t_latest])), (h_t_bookIs, .inl (cA, 20, .inl f_t_bookIs)), (h_t_bookOf, .inl (cA, 20, .inl f_t_bookOf)), (h_t_w, .inl (cA, 190, .inl f_t_w))] s.heap.size = A at hD hQ
  have hA : ∀ q : Nat, s.heap.size ≤ q → A q := fun q h => by rw [← hAe]; exact Or.inr h
  clear hAe
  have hS : va_S A s.heap s.heap [] := va_S.rf
  have hl := lv_entry ([.ref h_t, .int a1, .int a2]) (n := 3) (Nat.le_of_ble_eq_true rfl)
  rw [lg_entry_eq]
  generalize (lg_sl ([.ref h_t, .int a1, .int a2]) ++ List.replicate (3 - (lg_sl ([.ref h_t, .int a1, .int a2])).length) Slot.unset).toArray = ls at hl ⊢
  have hl : lv_has ls 3 [(0, .ref h_t), (1, .int a1), (2, .int a2)] := hl
  have k2 := hts (.fieldLink RX11 122 "ToneSetsModel" "written" "I") (List.mem_of_getElem? (i := 2) rfl)
  have k4 := hts (.fieldLink RX11 16 "ToneSetsModel" "bookOf" "[I") (List.mem_of_getElem? (i := 4) rfl)
  have k5 := hts (.fieldLink RX11 19 "ToneSetsModel" "bookIs" "[I") (List.mem_of_getElem? (i := 5) rfl)
  have k3 := hts (.constant RX11 178 (-1000000004)) (List.mem_of_getElem? (i := 3) rfl)
  have k1 := hts (.constant RX11 144 (-1000000001)) (List.mem_of_getElem? (i := 1) rfl)
  have uX11 := uX11_X11_write
  unfold m_Md_write at hm
  refine lv_aload_n hx hb dX11_write_0 rfl (lv_at hl 0 rfl) ?_
  refine lv_iload_n hx hb dX11_write_1 rfl (lv_at hl 1 rfl) ?_
  obtain ⟨r_1, hc2, hm⟩ := bd1_go hm
  refine my_cVi (As := [.int a1]) (rest := []) (WC := [(h_t, .inr (10, [.ref h_t_w, .int f_t_known, .int f_t_kept, .int f_t_seed, .ref h_t_imageSeed, .ref h_t_bookOf, .ref h_t_bookIs, .int f_t_written, .ref h_t_forms, .int f_t_formRing, .int f_t_formMany, .ref h_t_best, .ref h_t_next, .ref h_t_ways, .ref h_t_round, .ref h_t_roughs, .int f_t_latest])), (h_t_w, .inl (cA, 190, .inl f_t_w))]) (WC' := [(h_t, .inr (10, [.ref h_t_w, .int f_t_known, .int f_t_kept, .int f_t_seed, .ref h_t_imageSeed, .ref h_t_bookOf, .ref h_t_bookIs, .int f_t_written, .ref h_t_forms, .int f_t_formRing, .int f_t_formMany, .ref h_t_best, .ref h_t_next, .ref h_t_ways, .ref h_t_round, .ref h_t_roughs, .int f_t_latest])), (h_t_w, .inl (cA, 190, .inl f_t_w))]) (WR := [(h_t_bookIs, .inl (cA, 20, .inl f_t_bookIs)), (h_t_bookOf, .inl (cA, 20, .inl f_t_bookOf))]) (W' := [(h_t, .inr (10, [.ref h_t_w, .int f_t_known, .int f_t_kept, .int f_t_seed, .ref h_t_imageSeed, .ref h_t_bookOf, .ref h_t_bookIs, .int f_t_written, .ref h_t_forms, .int f_t_formRing, .int f_t_formMany, .ref h_t_best, .ref h_t_next, .ref h_t_ways, .ref h_t_round, .ref h_t_roughs, .int f_t_latest])), (h_t_bookIs, .inl (cA, 20, .inl f_t_bookIs)), (h_t_bookOf, .inl (cA, 20, .inl f_t_bookOf)), (h_t_w, .inl (cA, 190, .inl f_t_w))]) ⟨hx, hb, hml, hown, hts⟩ hK hP hD hS hA (c_Md_isPlace l dC dI cA h_t h_t_w h_t_imageSeed h_t_bookOf h_t_bookIs h_t_forms h_t_best h_t_next h_t_ways h_t_round h_t_roughs f_t_known f_t_kept f_t_seed f_t_written f_t_formRing f_t_formMany f_t_latest f_t_w a1 r_1 hc2) (cwV 1 hts gX11_write_X11_isPlace rfl rfl rfl (by decide +kernel) ⟨Nat.le_of_ble_eq_true rfl, Nat.le_of_ble_eq_true rfl⟩) [0, 3] [1, 2] [2, 0, 1, 3] rfl rfl rfl rfl (ci := 10) (q0 := 0) rfl rfl rfl rfl hl.1 (Nat.le_of_ble_eq_true rfl) dX11_write_2 ⟨Nat.zero_le _, Nat.zero_le _⟩ (fun H locs hP hD hS => ?_)
  refine lv_if_ne (tgt := 11) hx hb dX11_write_5 (by decide) (fun c5 => ?_) (fun c5 => ?_)
  · replace hm := if_f c5 hm
    refine lv_aload_n hx hb dX11_write_11 rfl (lv_at hl 0 rfl) ?_
    refine va_get (D := (dC, dI)) (ci := 10) (v := .int f_t_written) (C := RX11) (T := TX11) (N := 17) hx hb hts uX11 hown hK hP 0 rfl rfl 7 (by decide) k2 (fun _ h9 => h9) rfl dX11_write_12 ?_
    refine lv_bipush (v := 20) hx hb dX11_write_15 (by decide) ?_
    refine lv_icmp_ne (tgt := 23) hx hb dX11_write_17 (by decide) (fun c17 => ?_) (fun c17 => ?_)
    · replace hm := if_f c17 hm
      refine lv_aload_n hx hb dX11_write_23 rfl (lv_at hl 0 rfl) ?_
      refine va_get (D := (dC, dI)) (ci := 10) (v := .ref h_t_bookOf) (C := RX11) (T := TX11) (N := 17) hx hb hts uX11 hown hK hP 0 rfl rfl 5 (by decide) k4 (fun _ h9 => h9) rfl dX11_write_24 ?_
      refine lv_aload_n hx hb dX11_write_27 rfl (lv_at hl 0 rfl) ?_
      refine va_get (D := (dC, dI)) (ci := 10) (v := .int f_t_written) (C := RX11) (T := TX11) (N := 17) hx hb hts uX11 hown hK hP 0 rfl rfl 7 (by decide) k2 (fun _ h9 => h9) rfl dX11_write_28 ?_
      refine lv_iload_n hx hb dX11_write_31 rfl (lv_at hl 1 rfl) ?_
      obtain ⟨b32, hm⟩ := ck_go hm
      refine my_iast (W' := fun z' => [(h_t, .inr (10, [.ref h_t_w, .int f_t_known, .int f_t_kept, .int f_t_seed, .ref h_t_imageSeed, .ref h_t_bookOf, .ref h_t_bookIs, .int f_t_written, .ref h_t_forms, .int f_t_formRing, .int f_t_formMany, .ref h_t_best, .ref h_t_next, .ref h_t_ways, .ref h_t_round, .ref h_t_roughs, .int f_t_latest])), (h_t_bookIs, .inl (cA, 20, .inl f_t_bookIs)), (h_t_bookOf, .inl (cA, 20, .inl z')), (h_t_w, .inl (cA, 190, .inl f_t_w))]) hx hb hK hP hD hS 2 0 rfl rfl b32 dX11_write_32 (fun _ => rfl) (fun f_t_bookOf_1 ef_t_bookOf_1 H locs hP hD hS => ?_)
      replace hm := lt_go ef_t_bookOf_1 hm
      refine lv_aload_n hx hb dX11_write_33 rfl (lv_at hl 0 rfl) ?_
      refine va_get (D := (dC, dI)) (ci := 10) (v := .ref h_t_bookIs) (C := RX11) (T := TX11) (N := 17) hx hb hts uX11 hown hK hP 0 rfl rfl 6 (by decide) k5 (fun _ h9 => h9) rfl dX11_write_34 ?_
      refine lv_aload_n hx hb dX11_write_37 rfl (lv_at hl 0 rfl) ?_
      refine va_get (D := (dC, dI)) (ci := 10) (v := .int f_t_written) (C := RX11) (T := TX11) (N := 17) hx hb hts uX11 hown hK hP 0 rfl rfl 7 (by decide) k2 (fun _ h9 => h9) rfl dX11_write_38 ?_
      refine lv_iload_n hx hb dX11_write_41 rfl (lv_at hl 2 rfl) ?_
      obtain ⟨b42, hm⟩ := ck_go hm
      refine my_iast (W' := fun z' => [(h_t, .inr (10, [.ref h_t_w, .int f_t_known, .int f_t_kept, .int f_t_seed, .ref h_t_imageSeed, .ref h_t_bookOf, .ref h_t_bookIs, .int f_t_written, .ref h_t_forms, .int f_t_formRing, .int f_t_formMany, .ref h_t_best, .ref h_t_next, .ref h_t_ways, .ref h_t_round, .ref h_t_roughs, .int f_t_latest])), (h_t_bookIs, .inl (cA, 20, .inl z')), (h_t_bookOf, .inl (cA, 20, .inl f_t_bookOf_1)), (h_t_w, .inl (cA, 190, .inl f_t_w))]) hx hb hK hP hD hS 1 0 rfl rfl b42 dX11_write_42 (fun _ => rfl) (fun f_t_bookIs_1 ef_t_bookIs_1 H locs hP hD hS => ?_)
      replace hm := lt_go ef_t_bookIs_1 hm
      refine lv_aload_n hx hb dX11_write_43 rfl (lv_at hl 0 rfl) ?_
      refine lv_dup hx hb dX11_write_44 rfl ?_
      refine va_get (D := (dC, dI)) (ci := 10) (v := .int f_t_written) (C := RX11) (T := TX11) (N := 17) hx hb hts uX11 hown hK hP 0 rfl rfl 7 (by decide) k2 (fun _ h9 => h9) rfl dX11_write_45 ?_
      refine lv_iconst (v := 1) hx hb dX11_write_48 (by decide) ?_
      refine lv_iadd hx hb dX11_write_49 ?_
      refine lv_topi (fun f_t_written_1 ef_t_written_1 => ?_)
      replace hm := lt_go ef_t_written_1 hm
      refine my_put (W' := [(h_t, .inr (10, [.ref h_t_w, .int f_t_known, .int f_t_kept, .int f_t_seed, .ref h_t_imageSeed, .ref h_t_bookOf, .ref h_t_bookIs, .int f_t_written_1, .ref h_t_forms, .int f_t_formRing, .int f_t_formMany, .ref h_t_best, .ref h_t_next, .ref h_t_ways, .ref h_t_round, .ref h_t_roughs, .int f_t_latest])), (h_t_bookIs, .inl (cA, 20, .inl f_t_bookIs_1)), (h_t_bookOf, .inl (cA, 20, .inl f_t_bookOf_1)), (h_t_w, .inl (cA, 190, .inl f_t_w))]) (ci := 10) (v := .int f_t_written_1) (ty := .int) (C := RX11) (T := TX11) (N := 17) hx hb hts uX11 tyX11 tyX11_ok nmX11 hown hK hP hD hS 0 rfl rfl 7 (by decide) k2 (fun _ h9 => h9) rfl (by decide +kernel) rfl rfl (Nat.le_of_ble_eq_true rfl) dX11_write_50 rfl (fun H locs hP hD hS => ?_)
      refine lv_aload_n hx hb dX11_write_53 rfl (lv_at hl 0 rfl) ?_
      refine va_get (D := (dC, dI)) (ci := 10) (v := .int f_t_written_1) (C := RX11) (T := TX11) (N := 17) hx hb hts uX11 hown hK hP 0 rfl rfl 7 (by decide) k2 (fun _ h9 => h9) rfl dX11_write_54 ?_
      cases hm
      exact W_mono hQ (W.iret hx hb hr (fun t ht hW => ⟨⟨_, (), rfl, rfl, by rw [ht]; exact hP, va_K.moved hW.alike hK, hD⟩, hS.F ht⟩) hS.2.2 dX11_write_57)
    · replace hm := if_t c17 hm
      refine lv_ldc (v := (-1000000004)) hx hb hown k3 dX11_write_20 ?_
      cases hm
      exact W_mono hQ (W.iret hx hb hr (fun t ht hW => ⟨⟨_, (), rfl, rfl, by rw [ht]; exact hP, va_K.moved hW.alike hK, hD⟩, hS.F ht⟩) hS.2.2 dX11_write_22)
  · replace hm := if_t c5 hm
    refine lv_ldc (v := (-1000000001)) hx hb hown k1 dX11_write_8 ?_
    cases hm
    exact W_mono hQ (W.iret hx hb hr (fun t ht hW => ⟨⟨_, (), rfl, rfl, by rw [ht]; exact hP, va_K.moved hW.alike hK, hD⟩, hS.F ht⟩) hS.2.2 dX11_write_10)
