abbrev rmX11_easy : Room := { frames := 5, cells := 0, slots := 0, locals := 115 }
theorem uX11_X11_easy : ∀ w ∈ wsX110, w ∈ wsX11_easy := fun _ h => List.mem_cons_of_mem _ (List.mem_append_right _ (h))
set_option maxHeartbeats 40000000 in
set_option maxRecDepth 100000 in
theorem c_Md_easy (l : Launch) (dC : Nat → ClassId) (dI : Nat → Nat → Nat) (cA : ClassId) (fu : Nat) (h_t h_t_w h_t_imageSeed h_t_bookOf h_t_bookIs h_t_forms h_t_best h_t_next h_t_ways h_t_round h_t_roughs : Nat) (f_t_known : Int32) (f_t_kept : Int32) (f_t_seed : Int32) (f_t_written : Int32) (f_t_formRing : Int32) (f_t_formMany : Int32) (f_t_latest : Int32) (f_t_best : Nat → Int32) (f_t_roughs : Nat → Int32) (f_t_w : Nat → Int32) (a1 : Int32) (a2 : Int32) (a3 : Int32) (r0 : Int32) (f_t_best_z : Nat → Int32) (f_t_roughs_z : Nat → Int32) (hm : m_Md_easy fu f_t_best f_t_roughs f_t_w a1 a2 a3 = some (r0, f_t_best_z, f_t_roughs_z)) (sz : Nat) : Met l yX11_easy wsX11_easy rmX11_easy (mPre (dC, dI) cA [.ref h_t, .int a1, .int a2, .int a3] sz [(h_t, .inr (10, [.ref h_t_w, .int f_t_known, .int f_t_kept, .int f_t_seed, .ref h_t_imageSeed, .ref h_t_bookOf, .ref h_t_bookIs, .int f_t_written, .ref h_t_forms, .int f_t_formRing, .int f_t_formMany, .ref h_t_best, .ref h_t_next, .ref h_t_ways, .ref h_t_round, .ref h_t_roughs, .int f_t_latest])), (h_t_best, .inl (cA, 4096, .inl f_t_best)), (h_t_roughs, .inl (cA, 4096, .inl f_t_roughs)), (h_t_w, .inl (cA, 190, .inl f_t_w))]) (mPosI (dC, dI) cA r0 (va_A [(h_t, .inr (10, [.ref h_t_w, .int f_t_known, .int f_t_kept, .int f_t_seed, .ref h_t_imageSeed, .ref h_t_bookOf, .ref h_t_bookIs, .int f_t_written, .ref h_t_forms, .int f_t_formRing, .int f_t_formMany, .ref h_t_best, .ref h_t_next, .ref h_t_ways, .ref h_t_round, .ref h_t_roughs, .int f_t_latest])), (h_t_best, .inl (cA, 4096, .inl f_t_best)), (h_t_roughs, .inl (cA, 4096, .inl f_t_roughs)), (h_t_w, .inl (cA, 190, .inl f_t_w))] sz) [(h_t, .inr (10, [.ref h_t_w, .int f_t_known, .int f_t_kept, .int f_t_seed, .ref h_t_imageSeed, .ref h_t_bookOf, .ref h_t_bookIs, .int f_t_written, .ref h_t_forms, .int f_t_formRing, .int f_t_formMany, .ref h_t_best, .ref h_t_next, .ref h_t_ways, .ref h_t_round, .ref h_t_roughs, .int f_t_latest])), (h_t_best, .inl (cA, 4096, .inl f_t_best_z)), (h_t_roughs, .inl (cA, 4096, .inl f_t_roughs_z)), (h_t_w, .inl (cA, 190, .inl f_t_w))]) 0 0 (va_A [(h_t, .inr (10, [.ref h_t_w, .int f_t_known, .int f_t_kept, .int f_t_seed, .ref h_t_imageSeed, .ref h_t_bookOf, .ref h_t_bookIs, .int f_t_written, .ref h_t_forms, .int f_t_formRing, .int f_t_formMany, .ref h_t_best, .ref h_t_next, .ref h_t_ways, .ref h_t_round, .ref h_t_roughs, .int f_t_latest])), (h_t_best, .inl (cA, 4096, .inl f_t_best)), (h_t_roughs, .inl (cA, 4096, .inl f_t_roughs)), (h_t_w, .inl (cA, 190, .inl f_t_w))] sz) := by
  refine Met.ofW (cc := cX11_easy) (maxL := 4) (ret := (some .int)) (by decide) rfl ?_
  intro p e s m args below meth c s₁ B hml hv
  obtain ⟨rfl, hsz, hP, hK, hD0⟩ := hv
  refine W_gen (fun Q hQ => ?_)
  have hx := B.exec
  have hb := B.bytes
  have hr := B.returns
  have hts := atoms_spec (ws := wsX11_easy) B.pre
  have hown : s.vm.findClass RX11 = some m.cls := findClass_of_methodNamed B.named
  have hlocks := B.notSynchronized
  subst hsz
  have hD := hD0.self (sz := s.heap.size)
  clear hD0
  generalize hAe : va_A [(h_t, .inr (10, [.ref h_t_w, .int f_t_known, .int f_t_kept, .int f_t_seed, .ref h_t_imageSeed, .ref h_t_bookOf, .ref h_t_bookIs, .int f_t_written, .ref h_t_forms, .int f_t_formRing, .int f_t_formMany, .ref h_t_best, .ref h_t_next, .ref h_t_ways, .ref h_t_round, .ref h_t_roughs, .int f_t_latest])), (h_t_best, .inl (cA, 4096, .inl f_t_best)), (h_t_roughs, .inl (cA, 4096, .inl f_t_roughs)), (h_t_w, .inl (cA, 190, .inl f_t_w))] s.heap.size = A at hD hQ
  have hA : ∀ q : Nat, s.heap.size ≤ q → A q := fun q h => by rw [← hAe]; exact Or.inr h
  clear hAe
  have hS : va_S A s.heap s.heap [] := va_S.rf
  have hl := lv_entry ([.ref h_t, .int a1, .int a2, .int a3]) (n := 4) (Nat.le_of_ble_eq_true rfl)
  rw [lg_entry_eq]
  generalize (lg_sl ([.ref h_t, .int a1, .int a2, .int a3]) ++ List.replicate (4 - (lg_sl ([.ref h_t, .int a1, .int a2, .int a3])).length) Slot.unset).toArray = ls at hl ⊢
  have hl : lv_has ls 4 [(0, .ref h_t), (1, .int a1), (2, .int a2), (3, .int a3)] := hl
  have k1 := hts (.constant RX11 144 (-1000000001)) (List.mem_of_getElem? (i := 1) rfl)
  have k3 := hts (.fieldLink RX11 7 "ToneSetsModel" "w" "[I") (List.mem_of_getElem? (i := 3) rfl)
  have k5 := hts (.fieldLink RX11 25 "ToneSetsModel" "best" "[I") (List.mem_of_getElem? (i := 5) rfl)
  have k4 := hts (.constant RX11 160 (-1000000003)) (List.mem_of_getElem? (i := 4) rfl)
  have k2 := hts (.constant RX11 143 (-1000000002)) (List.mem_of_getElem? (i := 2) rfl)
  have uX11 := uX11_X11_easy
  unfold m_Md_easy at hm
  refine lv_aload_n hx hb dX11_easy_0 rfl (lv_at hl 0 rfl) ?_
  refine lv_iload_n hx hb dX11_easy_1 rfl (lv_at hl 1 rfl) ?_
  obtain ⟨r_1, hc2, hm⟩ := bd1_go hm
  refine my_cVi (As := [.int a1]) (rest := []) (WC := [(h_t, .inr (10, [.ref h_t_w, .int f_t_known, .int f_t_kept, .int f_t_seed, .ref h_t_imageSeed, .ref h_t_bookOf, .ref h_t_bookIs, .int f_t_written, .ref h_t_forms, .int f_t_formRing, .int f_t_formMany, .ref h_t_best, .ref h_t_next, .ref h_t_ways, .ref h_t_round, .ref h_t_roughs, .int f_t_latest])), (h_t_w, .inl (cA, 190, .inl f_t_w))]) (WC' := [(h_t, .inr (10, [.ref h_t_w, .int f_t_known, .int f_t_kept, .int f_t_seed, .ref h_t_imageSeed, .ref h_t_bookOf, .ref h_t_bookIs, .int f_t_written, .ref h_t_forms, .int f_t_formRing, .int f_t_formMany, .ref h_t_best, .ref h_t_next, .ref h_t_ways, .ref h_t_round, .ref h_t_roughs, .int f_t_latest])), (h_t_w, .inl (cA, 190, .inl f_t_w))]) (WR := [(h_t_best, .inl (cA, 4096, .inl f_t_best)), (h_t_roughs, .inl (cA, 4096, .inl f_t_roughs))]) (W' := [(h_t, .inr (10, [.ref h_t_w, .int f_t_known, .int f_t_kept, .int f_t_seed, .ref h_t_imageSeed, .ref h_t_bookOf, .ref h_t_bookIs, .int f_t_written, .ref h_t_forms, .int f_t_formRing, .int f_t_formMany, .ref h_t_best, .ref h_t_next, .ref h_t_ways, .ref h_t_round, .ref h_t_roughs, .int f_t_latest])), (h_t_best, .inl (cA, 4096, .inl f_t_best)), (h_t_roughs, .inl (cA, 4096, .inl f_t_roughs)), (h_t_w, .inl (cA, 190, .inl f_t_w))]) ⟨hx, hb, hml, hown, hts⟩ hK hP hD hS hA (c_Md_isPlace l dC dI cA h_t h_t_w h_t_imageSeed h_t_bookOf h_t_bookIs h_t_forms h_t_best h_t_next h_t_ways h_t_round h_t_roughs f_t_known f_t_kept f_t_seed f_t_written f_t_formRing f_t_formMany f_t_latest f_t_w a1 r_1 hc2) (cwV 1 hts gX11_easy_X11_isPlace rfl rfl rfl (by decide +kernel) ⟨Nat.le_of_ble_eq_true rfl, Nat.le_of_ble_eq_true rfl⟩) [0, 3] [1, 2] [2, 0, 1, 3] rfl rfl rfl rfl (ci := 10) (q0 := 0) rfl rfl rfl rfl hl.1 (Nat.le_of_ble_eq_true rfl) dX11_easy_2 ⟨Nat.zero_le _, Nat.zero_le _⟩ (fun H locs hP hD hS => ?_)
  refine lv_if_eq (tgt := 16) hx hb dX11_easy_5 (by decide) (fun c5 => ?_) (fun c5 => ?_)
  · replace hm := if_t c5 hm
    refine lv_ldc (v := (-1000000001)) hx hb hown k1 dX11_easy_16 ?_
    cases hm
    exact W_mono hQ (W.iret hx hb hr (fun t ht hW => ⟨⟨_, (), rfl, rfl, by rw [ht]; exact hP, va_K.moved hW.alike hK, hD⟩, hS.F ht⟩) hS.2.2 dX11_easy_18)
  · replace hm := if_f c5 hm
    refine lv_aload_n hx hb dX11_easy_8 rfl (lv_at hl 0 rfl) ?_
    refine lv_iload_n hx hb dX11_easy_9 rfl (lv_at hl 2 rfl) ?_
    obtain ⟨r_2, hc10, hm⟩ := bd1_go hm
    refine my_cVi (As := [.int a2]) (rest := []) (WC := [(h_t, .inr (10, [.ref h_t_w, .int f_t_known, .int f_t_kept, .int f_t_seed, .ref h_t_imageSeed, .ref h_t_bookOf, .ref h_t_bookIs, .int f_t_written, .ref h_t_forms, .int f_t_formRing, .int f_t_formMany, .ref h_t_best, .ref h_t_next, .ref h_t_ways, .ref h_t_round, .ref h_t_roughs, .int f_t_latest])), (h_t_w, .inl (cA, 190, .inl f_t_w))]) (WC' := [(h_t, .inr (10, [.ref h_t_w, .int f_t_known, .int f_t_kept, .int f_t_seed, .ref h_t_imageSeed, .ref h_t_bookOf, .ref h_t_bookIs, .int f_t_written, .ref h_t_forms, .int f_t_formRing, .int f_t_formMany, .ref h_t_best, .ref h_t_next, .ref h_t_ways, .ref h_t_round, .ref h_t_roughs, .int f_t_latest])), (h_t_w, .inl (cA, 190, .inl f_t_w))]) (WR := [(h_t_best, .inl (cA, 4096, .inl f_t_best)), (h_t_roughs, .inl (cA, 4096, .inl f_t_roughs))]) (W' := [(h_t, .inr (10, [.ref h_t_w, .int f_t_known, .int f_t_kept, .int f_t_seed, .ref h_t_imageSeed, .ref h_t_bookOf, .ref h_t_bookIs, .int f_t_written, .ref h_t_forms, .int f_t_formRing, .int f_t_formMany, .ref h_t_best, .ref h_t_next, .ref h_t_ways, .ref h_t_round, .ref h_t_roughs, .int f_t_latest])), (h_t_best, .inl (cA, 4096, .inl f_t_best)), (h_t_roughs, .inl (cA, 4096, .inl f_t_roughs)), (h_t_w, .inl (cA, 190, .inl f_t_w))]) ⟨hx, hb, hml, hown, hts⟩ hK hP hD hS hA (c_Md_isPlace l dC dI cA h_t h_t_w h_t_imageSeed h_t_bookOf h_t_bookIs h_t_forms h_t_best h_t_next h_t_ways h_t_round h_t_roughs f_t_known f_t_kept f_t_seed f_t_written f_t_formRing f_t_formMany f_t_latest f_t_w a2 r_2 hc10) (cwV 1 hts gX11_easy_X11_isPlace rfl rfl rfl (by decide +kernel) ⟨Nat.le_of_ble_eq_true rfl, Nat.le_of_ble_eq_true rfl⟩) [0, 3] [1, 2] [2, 0, 1, 3] rfl rfl rfl rfl (ci := 10) (q0 := 0) rfl rfl rfl rfl hl.1 (Nat.le_of_ble_eq_true rfl) dX11_easy_10 ⟨Nat.zero_le _, Nat.zero_le _⟩ (fun H locs hP hD hS => ?_)
    refine lv_if_ne (tgt := 19) hx hb dX11_easy_13 (by decide) (fun c13 => ?_) (fun c13 => ?_)
    · replace hm := if_f c13 hm
      refine lv_iload_n hx hb dX11_easy_19 rfl (lv_at hl 3 rfl) ?_
      refine lv_i2l (v := Int32.toInt64 a3) hx hb dX11_easy_20 rfl ?_
      refine lv_lconst (v := 0) hx hb dX11_easy_21 (by decide) ?_
      refine lv_lconst (v := 1) hx hb dX11_easy_22 (by decide) ?_
      obtain ⟨r_3, hc23, hm⟩ := bd1_go hm
      refine my_cSi (As := [.long (Int32.toInt64 a3), .long 0, .long 1]) (rest := []) (WC := []) (WC' := []) (WR := [(h_t, .inr (10, [.ref h_t_w, .int f_t_known, .int f_t_kept, .int f_t_seed, .ref h_t_imageSeed, .ref h_t_bookOf, .ref h_t_bookIs, .int f_t_written, .ref h_t_forms, .int f_t_formRing, .int f_t_formMany, .ref h_t_best, .ref h_t_next, .ref h_t_ways, .ref h_t_round, .ref h_t_roughs, .int f_t_latest])), (h_t_best, .inl (cA, 4096, .inl f_t_best)), (h_t_roughs, .inl (cA, 4096, .inl f_t_roughs)), (h_t_w, .inl (cA, 190, .inl f_t_w))]) (W' := [(h_t, .inr (10, [.ref h_t_w, .int f_t_known, .int f_t_kept, .int f_t_seed, .ref h_t_imageSeed, .ref h_t_bookOf, .ref h_t_bookIs, .int f_t_written, .ref h_t_forms, .int f_t_formRing, .int f_t_formMany, .ref h_t_best, .ref h_t_next, .ref h_t_ways, .ref h_t_round, .ref h_t_roughs, .int f_t_latest])), (h_t_best, .inl (cA, 4096, .inl f_t_best)), (h_t_roughs, .inl (cA, 4096, .inl f_t_roughs)), (h_t_w, .inl (cA, 190, .inl f_t_w))]) ⟨hx, hb, hml, hown, hts⟩ hK hP hD hS hA (c_Md_in l dC dI cA (Int32.toInt64 a3) 0 1 r_3 hc23) (va_cwS 3 hts gX11_easy_X11_in rfl rfl rfl (by decide +kernel) ⟨Nat.le_of_ble_eq_true rfl, Nat.le_of_ble_eq_true rfl⟩) [] [0, 1, 2, 3] [0, 1, 2, 3] rfl rfl rfl rfl rfl rfl hl.1 (Nat.le_of_ble_eq_true rfl) dX11_easy_23 ⟨Nat.zero_le _, Nat.zero_le _⟩ (fun H locs hP hD hS => ?_)
      refine lv_if_ne (tgt := 32) hx hb dX11_easy_26 (by decide) (fun c26 => ?_) (fun c26 => ?_)
      · replace hm := if_f c26 hm
        refine lv_aload_n hx hb dX11_easy_32 rfl (lv_at hl 0 rfl) ?_
        refine va_get (D := (dC, dI)) (ci := 10) (v := .ref h_t_w) (C := RX11) (T := TX11) (N := 17) hx hb hts uX11 hown hK hP 0 rfl rfl 0 (by decide) k3 (fun _ h9 => h9) rfl dX11_easy_33 ?_
        refine lv_iconst (v := 2) hx hb dX11_easy_36 (by decide) ?_
        refine lv_iload_n hx hb dX11_easy_37 rfl (lv_at hl 1 rfl) ?_
        refine lv_iadd hx hb dX11_easy_38 ?_
        obtain ⟨b39, hm⟩ := ck_go hm
        refine va_iald hx hb hK hP 3 0 rfl rfl b39 dX11_easy_39 ?_
        obtain ⟨r_4, hc40, hm⟩ := bd1_go hm
        refine my_cSi (As := [.int (f_t_w (2 + a1).toNatClampNeg)]) (rest := []) (WC := []) (WC' := []) (WR := [(h_t, .inr (10, [.ref h_t_w, .int f_t_known, .int f_t_kept, .int f_t_seed, .ref h_t_imageSeed, .ref h_t_bookOf, .ref h_t_bookIs, .int f_t_written, .ref h_t_forms, .int f_t_formRing, .int f_t_formMany, .ref h_t_best, .ref h_t_next, .ref h_t_ways, .ref h_t_round, .ref h_t_roughs, .int f_t_latest])), (h_t_best, .inl (cA, 4096, .inl f_t_best)), (h_t_roughs, .inl (cA, 4096, .inl f_t_roughs)), (h_t_w, .inl (cA, 190, .inl f_t_w))]) (W' := [(h_t, .inr (10, [.ref h_t_w, .int f_t_known, .int f_t_kept, .int f_t_seed, .ref h_t_imageSeed, .ref h_t_bookOf, .ref h_t_bookIs, .int f_t_written, .ref h_t_forms, .int f_t_formRing, .int f_t_formMany, .ref h_t_best, .ref h_t_next, .ref h_t_ways, .ref h_t_round, .ref h_t_roughs, .int f_t_latest])), (h_t_best, .inl (cA, 4096, .inl f_t_best)), (h_t_roughs, .inl (cA, 4096, .inl f_t_roughs)), (h_t_w, .inl (cA, 190, .inl f_t_w))]) ⟨hx, hb, hml, hown, hts⟩ hK hP hD hS hA (c_Md_ones l dC dI cA fu (f_t_w (2 + a1).toNatClampNeg) r_4 hc40) (va_cwS 1 hts gX11_easy_X11_ones rfl rfl rfl (by decide +kernel) ⟨Nat.le_of_ble_eq_true rfl, Nat.le_of_ble_eq_true rfl⟩) [] [0, 1, 2, 3] [0, 1, 2, 3] rfl rfl rfl rfl rfl rfl hl.1 (Nat.le_of_ble_eq_true rfl) dX11_easy_40 ⟨Nat.zero_le _, Nat.zero_le _⟩ (fun H locs hP hD hS => ?_)
        refine lv_aload_n hx hb dX11_easy_43 rfl (lv_at hl 0 rfl) ?_
        refine va_get (D := (dC, dI)) (ci := 10) (v := .ref h_t_w) (C := RX11) (T := TX11) (N := 17) hx hb hts uX11 hown hK hP 0 rfl rfl 0 (by decide) k3 (fun _ h9 => h9) rfl dX11_easy_44 ?_
        refine lv_iconst (v := 2) hx hb dX11_easy_47 (by decide) ?_
        refine lv_iload_n hx hb dX11_easy_48 rfl (lv_at hl 2 rfl) ?_
        refine lv_iadd hx hb dX11_easy_49 ?_
        obtain ⟨b50, hm⟩ := ck_go hm
        refine va_iald hx hb hK hP 3 0 rfl rfl b50 dX11_easy_50 ?_
        obtain ⟨r_5, hc51, hm⟩ := bd1_go hm
        refine my_cSi (As := [.int (f_t_w (2 + a2).toNatClampNeg)]) (rest := [.int r_4]) (WC := []) (WC' := []) (WR := [(h_t, .inr (10, [.ref h_t_w, .int f_t_known, .int f_t_kept, .int f_t_seed, .ref h_t_imageSeed, .ref h_t_bookOf, .ref h_t_bookIs, .int f_t_written, .ref h_t_forms, .int f_t_formRing, .int f_t_formMany, .ref h_t_best, .ref h_t_next, .ref h_t_ways, .ref h_t_round, .ref h_t_roughs, .int f_t_latest])), (h_t_best, .inl (cA, 4096, .inl f_t_best)), (h_t_roughs, .inl (cA, 4096, .inl f_t_roughs)), (h_t_w, .inl (cA, 190, .inl f_t_w))]) (W' := [(h_t, .inr (10, [.ref h_t_w, .int f_t_known, .int f_t_kept, .int f_t_seed, .ref h_t_imageSeed, .ref h_t_bookOf, .ref h_t_bookIs, .int f_t_written, .ref h_t_forms, .int f_t_formRing, .int f_t_formMany, .ref h_t_best, .ref h_t_next, .ref h_t_ways, .ref h_t_round, .ref h_t_roughs, .int f_t_latest])), (h_t_best, .inl (cA, 4096, .inl f_t_best)), (h_t_roughs, .inl (cA, 4096, .inl f_t_roughs)), (h_t_w, .inl (cA, 190, .inl f_t_w))]) ⟨hx, hb, hml, hown, hts⟩ hK hP hD hS hA (c_Md_ones l dC dI cA fu (f_t_w (2 + a2).toNatClampNeg) r_5 hc51) (va_cwS 1 hts gX11_easy_X11_ones rfl rfl rfl (by decide +kernel) ⟨Nat.le_of_ble_eq_true rfl, Nat.le_of_ble_eq_true rfl⟩) [] [0, 1, 2, 3] [0, 1, 2, 3] rfl rfl rfl rfl rfl rfl hl.1 (Nat.le_of_ble_eq_true rfl) dX11_easy_51 ⟨Nat.zero_le _, Nat.zero_le _⟩ (fun H locs hP hD hS => ?_)
        refine lv_icmp_eq (tgt := 60) hx hb dX11_easy_54 (by decide) (fun c54 => ?_) (fun c54 => ?_)
        · replace hm := if_t c54 hm
          refine lv_aload_n hx hb dX11_easy_60 rfl (lv_at hl 0 rfl) ?_
          refine lv_aload_n hx hb dX11_easy_61 rfl (lv_at hl 0 rfl) ?_
          refine va_get (D := (dC, dI)) (ci := 10) (v := .ref h_t_w) (C := RX11) (T := TX11) (N := 17) hx hb hts uX11 hown hK hP 0 rfl rfl 0 (by decide) k3 (fun _ h9 => h9) rfl dX11_easy_62 ?_
          refine lv_iconst (v := 2) hx hb dX11_easy_65 (by decide) ?_
          refine lv_iload_n hx hb dX11_easy_66 rfl (lv_at hl 2 rfl) ?_
          refine lv_iadd hx hb dX11_easy_67 ?_
          obtain ⟨b68, hm⟩ := ck_go hm
          refine va_iald hx hb hK hP 3 0 rfl rfl b68 dX11_easy_68 ?_
          obtain ⟨f_t_best_1, f_t_roughs_1, hc69, hm⟩ := bd2_go hm
          refine my_cVv (As := [.int (f_t_w (2 + a2).toNatClampNeg)]) (rest := []) (WC := [(h_t, .inr (10, [.ref h_t_w, .int f_t_known, .int f_t_kept, .int f_t_seed, .ref h_t_imageSeed, .ref h_t_bookOf, .ref h_t_bookIs, .int f_t_written, .ref h_t_forms, .int f_t_formRing, .int f_t_formMany, .ref h_t_best, .ref h_t_next, .ref h_t_ways, .ref h_t_round, .ref h_t_roughs, .int f_t_latest])), (h_t_best, .inl (cA, 4096, .inl f_t_best)), (h_t_roughs, .inl (cA, 4096, .inl f_t_roughs)), (h_t_w, .inl (cA, 190, .inl f_t_w))]) (WC' := [(h_t, .inr (10, [.ref h_t_w, .int f_t_known, .int f_t_kept, .int f_t_seed, .ref h_t_imageSeed, .ref h_t_bookOf, .ref h_t_bookIs, .int f_t_written, .ref h_t_forms, .int f_t_formRing, .int f_t_formMany, .ref h_t_best, .ref h_t_next, .ref h_t_ways, .ref h_t_round, .ref h_t_roughs, .int f_t_latest])), (h_t_best, .inl (cA, 4096, .inl f_t_best_1)), (h_t_roughs, .inl (cA, 4096, .inl f_t_roughs_1)), (h_t_w, .inl (cA, 190, .inl f_t_w))]) (WR := []) (W' := [(h_t, .inr (10, [.ref h_t_w, .int f_t_known, .int f_t_kept, .int f_t_seed, .ref h_t_imageSeed, .ref h_t_bookOf, .ref h_t_bookIs, .int f_t_written, .ref h_t_forms, .int f_t_formRing, .int f_t_formMany, .ref h_t_best, .ref h_t_next, .ref h_t_ways, .ref h_t_round, .ref h_t_roughs, .int f_t_latest])), (h_t_best, .inl (cA, 4096, .inl f_t_best_1)), (h_t_roughs, .inl (cA, 4096, .inl f_t_roughs_1)), (h_t_w, .inl (cA, 190, .inl f_t_w))]) ⟨hx, hb, hml, hown, hts⟩ hK hP hD hS hA (c_Md_layEasy l dC dI cA fu h_t h_t_w h_t_imageSeed h_t_bookOf h_t_bookIs h_t_forms h_t_best h_t_next h_t_ways h_t_round h_t_roughs f_t_known f_t_kept f_t_seed f_t_written f_t_formRing f_t_formMany f_t_latest f_t_best f_t_roughs f_t_w (f_t_w (2 + a2).toNatClampNeg) f_t_best_1 f_t_roughs_1 hc69) (cwV 1 hts gX11_easy_X11_layEasy rfl rfl rfl (by decide +kernel) ⟨Nat.le_of_ble_eq_true rfl, Nat.le_of_ble_eq_true rfl⟩) [0, 1, 2, 3] [] [0, 1, 2, 3] rfl rfl rfl rfl (ci := 10) (q0 := 0) rfl rfl rfl rfl hl.1 (Nat.le_of_ble_eq_true rfl) dX11_easy_69 ⟨Nat.zero_le _, Nat.zero_le _⟩ (fun H locs hP hD hS => ?_)
          refine lv_iload_n hx hb dX11_easy_72 rfl (lv_at hl 3 rfl) ?_
          refine lv_if_ne (tgt := 92) hx hb dX11_easy_73 (by decide) (fun c73 => ?_) (fun c73 => ?_)
          · replace hm := if_f c73 hm
            refine lv_aload_n hx hb dX11_easy_92 rfl (lv_at hl 0 rfl) ?_
            refine lv_aload_n hx hb dX11_easy_93 rfl (lv_at hl 0 rfl) ?_
            refine va_get (D := (dC, dI)) (ci := 10) (v := .ref h_t_w) (C := RX11) (T := TX11) (N := 17) hx hb hts uX11 hown hK hP 0 rfl rfl 0 (by decide) k3 (fun _ h9 => h9) rfl dX11_easy_94 ?_
            refine lv_iconst (v := 2) hx hb dX11_easy_97 (by decide) ?_
            refine lv_iload_n hx hb dX11_easy_98 rfl (lv_at hl 1 rfl) ?_
            refine lv_iadd hx hb dX11_easy_99 ?_
            obtain ⟨b100, hm⟩ := ck_go hm
            refine va_iald hx hb hK hP 3 0 rfl rfl b100 dX11_easy_100 ?_
            refine lv_aload_n hx hb dX11_easy_101 rfl (lv_at hl 0 rfl) ?_
            refine va_get (D := (dC, dI)) (ci := 10) (v := .ref h_t_w) (C := RX11) (T := TX11) (N := 17) hx hb hts uX11 hown hK hP 0 rfl rfl 0 (by decide) k3 (fun _ h9 => h9) rfl dX11_easy_102 ?_
            refine lv_iconst (v := 2) hx hb dX11_easy_105 (by decide) ?_
            refine lv_iload_n hx hb dX11_easy_106 rfl (lv_at hl 2 rfl) ?_
            refine lv_iadd hx hb dX11_easy_107 ?_
            obtain ⟨b108, hm⟩ := ck_go hm
            refine va_iald hx hb hK hP 3 0 rfl rfl b108 dX11_easy_108 ?_
            obtain ⟨r_6, hc109, hm⟩ := bd1_go hm
            refine my_cVi (As := [.int (f_t_w (2 + a1).toNatClampNeg), .int (f_t_w (2 + a2).toNatClampNeg)]) (rest := []) (WC := [(h_t, .inr (10, [.ref h_t_w, .int f_t_known, .int f_t_kept, .int f_t_seed, .ref h_t_imageSeed, .ref h_t_bookOf, .ref h_t_bookIs, .int f_t_written, .ref h_t_forms, .int f_t_formRing, .int f_t_formMany, .ref h_t_best, .ref h_t_next, .ref h_t_ways, .ref h_t_round, .ref h_t_roughs, .int f_t_latest])), (h_t_best, .inl (cA, 4096, .inl f_t_best_1)), (h_t_roughs, .inl (cA, 4096, .inl f_t_roughs_1)), (h_t_w, .inl (cA, 190, .inl f_t_w))]) (WC' := [(h_t, .inr (10, [.ref h_t_w, .int f_t_known, .int f_t_kept, .int f_t_seed, .ref h_t_imageSeed, .ref h_t_bookOf, .ref h_t_bookIs, .int f_t_written, .ref h_t_forms, .int f_t_formRing, .int f_t_formMany, .ref h_t_best, .ref h_t_next, .ref h_t_ways, .ref h_t_round, .ref h_t_roughs, .int f_t_latest])), (h_t_best, .inl (cA, 4096, .inl f_t_best_1)), (h_t_roughs, .inl (cA, 4096, .inl f_t_roughs_1)), (h_t_w, .inl (cA, 190, .inl f_t_w))]) (WR := []) (W' := [(h_t, .inr (10, [.ref h_t_w, .int f_t_known, .int f_t_kept, .int f_t_seed, .ref h_t_imageSeed, .ref h_t_bookOf, .ref h_t_bookIs, .int f_t_written, .ref h_t_forms, .int f_t_formRing, .int f_t_formMany, .ref h_t_best, .ref h_t_next, .ref h_t_ways, .ref h_t_round, .ref h_t_roughs, .int f_t_latest])), (h_t_best, .inl (cA, 4096, .inl f_t_best_1)), (h_t_roughs, .inl (cA, 4096, .inl f_t_roughs_1)), (h_t_w, .inl (cA, 190, .inl f_t_w))]) ⟨hx, hb, hml, hown, hts⟩ hK hP hD hS hA (c_Md_easyNext l dC dI cA fu h_t h_t_w h_t_imageSeed h_t_bookOf h_t_bookIs h_t_forms h_t_best h_t_next h_t_ways h_t_round h_t_roughs f_t_known f_t_kept f_t_seed f_t_written f_t_formRing f_t_formMany f_t_latest f_t_best_1 f_t_roughs_1 f_t_w (f_t_w (2 + a1).toNatClampNeg) (f_t_w (2 + a2).toNatClampNeg) r_6 hc109) (cwV 2 hts gX11_easy_X11_easyNext rfl rfl rfl (by decide +kernel) ⟨Nat.le_of_ble_eq_true rfl, Nat.le_of_ble_eq_true rfl⟩) [0, 1, 2, 3] [] [0, 1, 2, 3] rfl rfl rfl rfl (ci := 10) (q0 := 0) rfl rfl rfl rfl hl.1 (Nat.le_of_ble_eq_true rfl) dX11_easy_109 ⟨Nat.zero_le _, Nat.zero_le _⟩ (fun H locs hP hD hS => ?_)
            cases hm
            exact W_mono hQ (W.iret hx hb hr (fun t ht hW => ⟨⟨_, (), rfl, rfl, by rw [ht]; exact hP, va_K.moved hW.alike hK, hD⟩, hS.F ht⟩) hS.2.2 dX11_easy_112)
          · replace hm := if_t c73 hm
            refine lv_aload_n hx hb dX11_easy_76 rfl (lv_at hl 0 rfl) ?_
            refine va_get (D := (dC, dI)) (ci := 10) (v := .ref h_t_best) (C := RX11) (T := TX11) (N := 17) hx hb hts uX11 hown hK hP 0 rfl rfl 11 (by decide) k5 (fun _ h9 => h9) rfl dX11_easy_77 ?_
            refine lv_aload_n hx hb dX11_easy_80 rfl (lv_at hl 0 rfl) ?_
            refine va_get (D := (dC, dI)) (ci := 10) (v := .ref h_t_w) (C := RX11) (T := TX11) (N := 17) hx hb hts uX11 hown hK hP 0 rfl rfl 0 (by decide) k3 (fun _ h9 => h9) rfl dX11_easy_81 ?_
            refine lv_iconst (v := 2) hx hb dX11_easy_84 (by decide) ?_
            refine lv_iload_n hx hb dX11_easy_85 rfl (lv_at hl 1 rfl) ?_
            refine lv_iadd hx hb dX11_easy_86 ?_
            obtain ⟨b87, hm⟩ := ck_go hm
            refine va_iald hx hb hK hP 3 0 rfl rfl b87 dX11_easy_87 ?_
            obtain ⟨b88, hm⟩ := ck_go hm
            refine va_iald hx hb hK hP 1 0 rfl rfl b88 dX11_easy_88 ?_
            refine lv_goto (tgt := 112) hx hb dX11_easy_89 (by decide) ?_
            cases hm
            exact W_mono hQ (W.iret hx hb hr (fun t ht hW => ⟨⟨_, (), rfl, rfl, by rw [ht]; exact hP, va_K.moved hW.alike hK, hD⟩, hS.F ht⟩) hS.2.2 dX11_easy_112)
        · replace hm := if_f c54 hm
          refine lv_ldc (v := (-1000000003)) hx hb hown k4 dX11_easy_57 ?_
          cases hm
          exact W_mono hQ (W.iret hx hb hr (fun t ht hW => ⟨⟨_, (), rfl, rfl, by rw [ht]; exact hP, va_K.moved hW.alike hK, hD⟩, hS.F ht⟩) hS.2.2 dX11_easy_59)
      · replace hm := if_t c26 hm
        refine lv_ldc (v := (-1000000002)) hx hb hown k2 dX11_easy_29 ?_
        cases hm
        exact W_mono hQ (W.iret hx hb hr (fun t ht hW => ⟨⟨_, (), rfl, rfl, by rw [ht]; exact hP, va_K.moved hW.alike hK, hD⟩, hS.F ht⟩) hS.2.2 dX11_easy_31)
    · replace hm := if_t c13 hm
      refine lv_ldc (v := (-1000000001)) hx hb hown k1 dX11_easy_16 ?_
      cases hm
      exact W_mono hQ (W.iret hx hb hr (fun t ht hW => ⟨⟨_, (), rfl, rfl, by rw [ht]; exact hP, va_K.moved hW.alike hK, hD⟩, hS.F ht⟩) hS.2.2 dX11_easy_18)
abbrev rmX11_formsOf : Room := { frames := 5, cells := 0, slots := 0, locals := 112 }
theorem uX11_X11_formsOf : ∀ w ∈ wsX110, w ∈ wsX11_formsOf := fun _ h => List.mem_cons_of_mem _ (List.mem_append_right _ (h))
set_option maxHeartbeats 40000000 in
set_option maxRecDepth 100000 in
theorem c_Md_formsOf (l : Launch) (dC : Nat → ClassId) (dI : Nat → Nat → Nat) (cA : ClassId) (fu : Nat) (h_t h_t_w h_t_imageSeed h_t_bookOf h_t_bookIs h_t_forms h_t_best h_t_next h_t_ways h_t_round h_t_roughs : Nat) (f_t_known : Int32) (f_t_kept : Int32) (f_t_seed : Int32) (f_t_written : Int32) (f_t_formRing : Int32) (f_t_formMany : Int32) (f_t_latest : Int32) (f_t_forms : Nat → Int32) (f_t_w : Nat → Int32) (a1 : Int32) (r0 : Int32) (f_t_formMany_z : Int32) (f_t_formRing_z : Int32) (f_t_forms_z : Nat → Int32) (hm : m_Md_formsOf fu f_t_formMany f_t_formRing f_t_forms f_t_w a1 = some (r0, f_t_formMany_z, f_t_formRing_z, f_t_forms_z)) (sz : Nat) : Met l yX11_formsOf wsX11_formsOf rmX11_formsOf (mPre (dC, dI) cA [.ref h_t, .int a1] sz [(h_t, .inr (10, [.ref h_t_w, .int f_t_known, .int f_t_kept, .int f_t_seed, .ref h_t_imageSeed, .ref h_t_bookOf, .ref h_t_bookIs, .int f_t_written, .ref h_t_forms, .int f_t_formRing, .int f_t_formMany, .ref h_t_best, .ref h_t_next, .ref h_t_ways, .ref h_t_round, .ref h_t_roughs, .int f_t_latest])), (h_t_forms, .inl (cA, 400, .inl f_t_forms)), (h_t_w, .inl (cA, 190, .inl f_t_w))]) (mPosI (dC, dI) cA r0 (va_A [(h_t, .inr (10, [.ref h_t_w, .int f_t_known, .int f_t_kept, .int f_t_seed, .ref h_t_imageSeed, .ref h_t_bookOf, .ref h_t_bookIs, .int f_t_written, .ref h_t_forms, .int f_t_formRing, .int f_t_formMany, .ref h_t_best, .ref h_t_next, .ref h_t_ways, .ref h_t_round, .ref h_t_roughs, .int f_t_latest])), (h_t_forms, .inl (cA, 400, .inl f_t_forms)), (h_t_w, .inl (cA, 190, .inl f_t_w))] sz) [(h_t, .inr (10, [.ref h_t_w, .int f_t_known, .int f_t_kept, .int f_t_seed, .ref h_t_imageSeed, .ref h_t_bookOf, .ref h_t_bookIs, .int f_t_written, .ref h_t_forms, .int f_t_formRing_z, .int f_t_formMany_z, .ref h_t_best, .ref h_t_next, .ref h_t_ways, .ref h_t_round, .ref h_t_roughs, .int f_t_latest])), (h_t_forms, .inl (cA, 400, .inl f_t_forms_z)), (h_t_w, .inl (cA, 190, .inl f_t_w))]) 0 0 (va_A [(h_t, .inr (10, [.ref h_t_w, .int f_t_known, .int f_t_kept, .int f_t_seed, .ref h_t_imageSeed, .ref h_t_bookOf, .ref h_t_bookIs, .int f_t_written, .ref h_t_forms, .int f_t_formRing, .int f_t_formMany, .ref h_t_best, .ref h_t_next, .ref h_t_ways, .ref h_t_round, .ref h_t_roughs, .int f_t_latest])), (h_t_forms, .inl (cA, 400, .inl f_t_forms)), (h_t_w, .inl (cA, 190, .inl f_t_w))] sz) := by
  refine Met.ofW (cc := cX11_formsOf) (maxL := 4) (ret := (some .int)) (by decide) rfl ?_
  intro p e s m args below meth c s₁ B hml hv
  obtain ⟨rfl, hsz, hP, hK, hD0⟩ := hv
  refine W_gen (fun Q hQ => ?_)
  have hx := B.exec
  have hb := B.bytes
  have hr := B.returns
  have hts := atoms_spec (ws := wsX11_formsOf) B.pre
  have hown : s.vm.findClass RX11 = some m.cls := findClass_of_methodNamed B.named
  have hlocks := B.notSynchronized
  subst hsz
  have hD := hD0.self (sz := s.heap.size)
  clear hD0
  generalize hAe : va_A [(h_t, .inr (10, [.ref h_t_w, .int f_t_known, .int f_t_kept, .int f_t_seed, .ref h_t_imageSeed, .ref h_t_bookOf, .ref h_t_bookIs, .int f_t_written, .ref h_t_forms, .int f_t_formRing, .int f_t_formMany, .ref h_t_best, .ref h_t_next, .ref h_t_ways, .ref h_t_round, .ref h_t_roughs, .int f_t_latest])), (h_t_forms, .inl (cA, 400, .inl f_t_forms)), (h_t_w, .inl (cA, 190, .inl f_t_w))] s.heap.size = A at hD hQ
  have hA : ∀ q : Nat, s.heap.size ≤ q → A q := fun q h => by rw [← hAe]; exact Or.inr h
  clear hAe
  have hS : va_S A s.heap s.heap [] := va_S.rf
  have hl := lv_entry ([.ref h_t, .int a1]) (n := 4) (Nat.le_of_ble_eq_true rfl)
  rw [lg_entry_eq]
  generalize (lg_sl ([.ref h_t, .int a1]) ++ List.replicate (4 - (lg_sl ([.ref h_t, .int a1])).length) Slot.unset).toArray = ls at hl ⊢
  have hl : lv_has ls 4 [(0, .ref h_t), (1, .int a1)] := hl
  have k1 := hts (.fieldLink RX11 77 "ToneSetsModel" "formMany" "I") (List.mem_of_getElem? (i := 1) rfl)
  have k2 := hts (.fieldLink RX11 22 "ToneSetsModel" "forms" "[I") (List.mem_of_getElem? (i := 2) rfl)
  have uX11 := uX11_X11_formsOf
  unfold m_Md_formsOf at hm
  refine lv_aload_n hx hb dX11_formsOf_0 rfl (lv_at hl 0 rfl) ?_
  obtain ⟨f_t_formMany_1, f_t_formRing_1, f_t_forms_1, hc1, hm⟩ := bd3_go hm
  refine my_cVv (As := []) (rest := []) (WC := [(h_t, .inr (10, [.ref h_t_w, .int f_t_known, .int f_t_kept, .int f_t_seed, .ref h_t_imageSeed, .ref h_t_bookOf, .ref h_t_bookIs, .int f_t_written, .ref h_t_forms, .int f_t_formRing, .int f_t_formMany, .ref h_t_best, .ref h_t_next, .ref h_t_ways, .ref h_t_round, .ref h_t_roughs, .int f_t_latest])), (h_t_forms, .inl (cA, 400, .inl f_t_forms)), (h_t_w, .inl (cA, 190, .inl f_t_w))]) (WC' := [(h_t, .inr (10, [.ref h_t_w, .int f_t_known, .int f_t_kept, .int f_t_seed, .ref h_t_imageSeed, .ref h_t_bookOf, .ref h_t_bookIs, .int f_t_written, .ref h_t_forms, .int f_t_formRing_1, .int f_t_formMany_1, .ref h_t_best, .ref h_t_next, .ref h_t_ways, .ref h_t_round, .ref h_t_roughs, .int f_t_latest])), (h_t_forms, .inl (cA, 400, .inl f_t_forms_1)), (h_t_w, .inl (cA, 190, .inl f_t_w))]) (WR := []) (W' := [(h_t, .inr (10, [.ref h_t_w, .int f_t_known, .int f_t_kept, .int f_t_seed, .ref h_t_imageSeed, .ref h_t_bookOf, .ref h_t_bookIs, .int f_t_written, .ref h_t_forms, .int f_t_formRing_1, .int f_t_formMany_1, .ref h_t_best, .ref h_t_next, .ref h_t_ways, .ref h_t_round, .ref h_t_roughs, .int f_t_latest])), (h_t_forms, .inl (cA, 400, .inl f_t_forms_1)), (h_t_w, .inl (cA, 190, .inl f_t_w))]) ⟨hx, hb, hml, hown, hts⟩ hK hP hD hS hA (c_Md_layForms l dC dI cA fu h_t h_t_w h_t_imageSeed h_t_bookOf h_t_bookIs h_t_forms h_t_best h_t_next h_t_ways h_t_round h_t_roughs f_t_known f_t_kept f_t_seed f_t_written f_t_formRing f_t_formMany f_t_latest f_t_forms f_t_w f_t_formMany_1 f_t_formRing_1 f_t_forms_1 hc1) (cwV 0 hts gX11_formsOf_X11_layForms rfl rfl rfl (by decide +kernel) ⟨Nat.le_of_ble_eq_true rfl, Nat.le_of_ble_eq_true rfl⟩) [0, 1, 2] [] [0, 1, 2] rfl rfl rfl rfl (ci := 10) (q0 := 0) rfl rfl rfl rfl hl.1 (Nat.le_of_ble_eq_true rfl) dX11_formsOf_1 ⟨Nat.zero_le _, Nat.zero_le _⟩ (fun H locs hP hD hS => ?_)
  refine lv_iconst (v := 0) hx hb dX11_formsOf_4 (by decide) ?_
  refine lv_topi (fun v2_1 ev2_1 => ?_)
  replace hm := lt_go ev2_1 hm
  refine lv_istore_n (lv' := [(2, .int v2_1), (0, .ref h_t), (1, .int a1)]) hx hb dX11_formsOf_5 rfl hl (by decide) rfl (fun ls hl => ?_)
  refine lv_iconst (v := 0) hx hb dX11_formsOf_6 (by decide) ?_
  refine lv_topi (fun v3_1 ev3_1 => ?_)
  replace hm := lt_go ev3_1 hm
  refine lv_istore_n (lv' := [(3, .int v3_1), (2, .int v2_1), (0, .ref h_t), (1, .int a1)]) hx hb dX11_formsOf_7 rfl hl (by decide) rfl (fun ls hl => ?_)
  have L8 : ∀ (n : Nat) (v2_2 : Int32) (v3_2 : Int32) (v2_3 : Int32), m_Md_formsOf_L8 fu f_t_formMany_1 f_t_forms_1 a1 n v2_2 v3_2 = some v2_3 → ∀ (H : Heap) (locs : List Loc), va_P (dC, dI) vwCl [(h_t, .inr (10, [.ref h_t_w, .int f_t_known, .int f_t_kept, .int f_t_seed, .ref h_t_imageSeed, .ref h_t_bookOf, .ref h_t_bookIs, .int f_t_written, .ref h_t_forms, .int f_t_formRing_1, .int f_t_formMany_1, .ref h_t_best, .ref h_t_next, .ref h_t_ways, .ref h_t_round, .ref h_t_roughs, .int f_t_latest])), (h_t_forms, .inl (cA, 400, .inl f_t_forms_1)), (h_t_w, .inl (cA, 190, .inl f_t_w))] H → va_D A [(h_t, .inr (10, [.ref h_t_w, .int f_t_known, .int f_t_kept, .int f_t_seed, .ref h_t_imageSeed, .ref h_t_bookOf, .ref h_t_bookIs, .int f_t_written, .ref h_t_forms, .int f_t_formRing_1, .int f_t_formMany_1, .ref h_t_best, .ref h_t_next, .ref h_t_ways, .ref h_t_round, .ref h_t_roughs, .int f_t_latest])), (h_t_forms, .inl (cA, 400, .inl f_t_forms_1)), (h_t_w, .inl (cA, 190, .inl f_t_w))] → va_S A s.heap H locs → ∀ ls : Array Slot, lv_has ls 4 [(0, .ref h_t), (1, .int a1), (2, .int v2_2), (3, .int v3_2)] → (∀ (H : Heap) (locs : List Loc), va_P (dC, dI) vwCl [(h_t, .inr (10, [.ref h_t_w, .int f_t_known, .int f_t_kept, .int f_t_seed, .ref h_t_imageSeed, .ref h_t_bookOf, .ref h_t_bookIs, .int f_t_written, .ref h_t_forms, .int f_t_formRing_1, .int f_t_formMany_1, .ref h_t_best, .ref h_t_next, .ref h_t_ways, .ref h_t_round, .ref h_t_roughs, .int f_t_latest])), (h_t_forms, .inl (cA, 400, .inl f_t_forms_1)), (h_t_w, .inl (cA, 190, .inl f_t_w))] H → va_D A [(h_t, .inr (10, [.ref h_t_w, .int f_t_known, .int f_t_kept, .int f_t_seed, .ref h_t_imageSeed, .ref h_t_bookOf, .ref h_t_bookIs, .int f_t_written, .ref h_t_forms, .int f_t_formRing_1, .int f_t_formMany_1, .ref h_t_best, .ref h_t_next, .ref h_t_ways, .ref h_t_round, .ref h_t_roughs, .int f_t_latest])), (h_t_forms, .inl (cA, 400, .inl f_t_forms_1)), (h_t_w, .inl (cA, 190, .inl f_t_w))] → va_S A s.heap H locs → ∀ ls : Array Slot, lv_has ls 4 [(2, .int v2_3)] → W p l e (headSpec wsX11_formsOf rmX11_formsOf).room s m (([.ref h_t, .int a1] : List Value).toArray) below meth c H locs 0 0 Q (F0 m 43 ls [])) → W p l e (headSpec wsX11_formsOf rmX11_formsOf).room s m (([.ref h_t, .int a1] : List Value).toArray) below meth c H locs 0 0 Q (F0 m 8 ls []) := by
    clear hm hP hD hS hl
    intro n
    induction n with
    | zero => intro _ _ _ hm; exact nomatch (show none = some _ from hm)
    | succ n ih =>
      intro v2_2 v3_2 v2_3 hm H locs hP hD hS ls hl KK
      unfold m_Md_formsOf_L8 at hm
      refine lv_iload_n hx hb dX11_formsOf_8 rfl (lv_at hl 3 rfl) ?_
      refine lv_aload_n hx hb dX11_formsOf_9 rfl (lv_at hl 0 rfl) ?_
      refine va_get (D := (dC, dI)) (ci := 10) (v := .int f_t_formMany_1) (C := RX11) (T := TX11) (N := 17) hx hb hts uX11 hown hK hP 0 rfl rfl 10 (by decide) k1 (fun _ h9 => h9) rfl dX11_formsOf_10 ?_
      refine lv_icmp_ge (tgt := 43) hx hb dX11_formsOf_13 (by decide) (fun c13 => ?_) (fun c13 => ?_)
      · replace hm := if_t c13 hm
        cases hm
        exact KK _ _ hP hD hS _ (lv_sub hl [2] rfl)
      · replace hm := if_f c13 hm
        refine lv_iload_n hx hb dX11_formsOf_16 rfl (lv_at hl 2 rfl) ?_
        refine lv_aload_n hx hb dX11_formsOf_17 rfl (lv_at hl 0 rfl) ?_
        refine va_get (D := (dC, dI)) (ci := 10) (v := .ref h_t_forms) (C := RX11) (T := TX11) (N := 17) hx hb hts uX11 hown hK hP 0 rfl rfl 8 (by decide) k2 (fun _ h9 => h9) rfl dX11_formsOf_18 ?_
        refine lv_iload_n hx hb dX11_formsOf_21 rfl (lv_at hl 3 rfl) ?_
        obtain ⟨b22, hm⟩ := ck_go hm
        refine va_iald hx hb hK hP 1 0 rfl rfl b22 dX11_formsOf_22 ?_
        obtain ⟨r_1, hc23, hm⟩ := bd1_go hm
        refine my_cSi (As := [.int (f_t_forms_1 v3_2.toNatClampNeg)]) (rest := [.int v2_2]) (WC := []) (WC' := []) (WR := [(h_t, .inr (10, [.ref h_t_w, .int f_t_known, .int f_t_kept, .int f_t_seed, .ref h_t_imageSeed, .ref h_t_bookOf, .ref h_t_bookIs, .int f_t_written, .ref h_t_forms, .int f_t_formRing_1, .int f_t_formMany_1, .ref h_t_best, .ref h_t_next, .ref h_t_ways, .ref h_t_round, .ref h_t_roughs, .int f_t_latest])), (h_t_forms, .inl (cA, 400, .inl f_t_forms_1)), (h_t_w, .inl (cA, 190, .inl f_t_w))]) (W' := [(h_t, .inr (10, [.ref h_t_w, .int f_t_known, .int f_t_kept, .int f_t_seed, .ref h_t_imageSeed, .ref h_t_bookOf, .ref h_t_bookIs, .int f_t_written, .ref h_t_forms, .int f_t_formRing_1, .int f_t_formMany_1, .ref h_t_best, .ref h_t_next, .ref h_t_ways, .ref h_t_round, .ref h_t_roughs, .int f_t_latest])), (h_t_forms, .inl (cA, 400, .inl f_t_forms_1)), (h_t_w, .inl (cA, 190, .inl f_t_w))]) ⟨hx, hb, hml, hown, hts⟩ hK hP hD hS hA (c_Md_ones l dC dI cA fu (f_t_forms_1 v3_2.toNatClampNeg) r_1 hc23) (va_cwS 1 hts gX11_formsOf_X11_ones rfl rfl rfl (by decide +kernel) ⟨Nat.le_of_ble_eq_true rfl, Nat.le_of_ble_eq_true rfl⟩) [] [0, 1, 2] [0, 1, 2] rfl rfl rfl rfl rfl rfl hl.1 (Nat.le_of_ble_eq_true rfl) dX11_formsOf_23 ⟨Nat.zero_le _, Nat.zero_le _⟩ (fun H locs hP hD hS => ?_)
        refine lv_iload_n hx hb dX11_formsOf_26 rfl (lv_at hl 1 rfl) ?_
        obtain ⟨q35_1, hqJ_1, hm⟩ := bd1_go hm
        have J_1 : ∀ (H : Heap) (locs : List Loc), va_P (dC, dI) vwCl [(h_t, .inr (10, [.ref h_t_w, .int f_t_known, .int f_t_kept, .int f_t_seed, .ref h_t_imageSeed, .ref h_t_bookOf, .ref h_t_bookIs, .int f_t_written, .ref h_t_forms, .int f_t_formRing_1, .int f_t_formMany_1, .ref h_t_best, .ref h_t_next, .ref h_t_ways, .ref h_t_round, .ref h_t_roughs, .int f_t_latest])), (h_t_forms, .inl (cA, 400, .inl f_t_forms_1)), (h_t_w, .inl (cA, 190, .inl f_t_w))] H → va_D A [(h_t, .inr (10, [.ref h_t_w, .int f_t_known, .int f_t_kept, .int f_t_seed, .ref h_t_imageSeed, .ref h_t_bookOf, .ref h_t_bookIs, .int f_t_written, .ref h_t_forms, .int f_t_formRing_1, .int f_t_formMany_1, .ref h_t_best, .ref h_t_next, .ref h_t_ways, .ref h_t_round, .ref h_t_roughs, .int f_t_latest])), (h_t_forms, .inl (cA, 400, .inl f_t_forms_1)), (h_t_w, .inl (cA, 190, .inl f_t_w))] → va_S A s.heap H locs → ∀ ls : Array Slot, lv_has ls 4 [(0, .ref h_t), (1, .int a1), (3, .int v3_2)] → W p l e (headSpec wsX11_formsOf rmX11_formsOf).room s m (([.ref h_t, .int a1] : List Value).toArray) below meth c H locs 0 0 Q (F0 m 35 ls [.int q35_1, .int v2_2]) := by
          intro H locs hP hD hS ls hl
          clear hqJ_1
          refine lv_iadd hx hb dX11_formsOf_35 ?_
          refine lv_topi (fun v2_4 ev2_4 => ?_)
          replace hm := lt_go ev2_4 hm
          refine lv_istore_n (lv' := [(2, .int v2_4), (0, .ref h_t), (1, .int a1), (3, .int v3_2)]) hx hb dX11_formsOf_36 rfl hl (by decide) rfl (fun ls hl => ?_)
          obtain ⟨v3_3, ev3_3⟩ : ∃ z : Int32, z = v3_2 + 1 := ⟨_, rfl⟩
          replace hm := lt_go ev3_3 hm
          refine lv_iinc (v := v3_3) (lv' := [(3, .int v3_3), (2, .int v2_4), (0, .ref h_t), (1, .int a1)]) hx hb dX11_formsOf_37 hl (k := 3) rfl (by rw [ev3_3]; rfl) (by decide) rfl (fun ls hl => ?_)
          refine lv_goto (tgt := 8) hx hb dX11_formsOf_40 (by decide) ?_
          exact ih _ _ _ hm _ _ hP hD hS _ (lv_sub hl [2, 3, 1, 0] rfl) KK
        clear hm
        refine lv_icmp_ne (tgt := 34) hx hb dX11_formsOf_27 (by decide) (fun c27 => ?_) (fun c27 => ?_)
        · replace hqJ_1 := if_f c27 hqJ_1
          refine lv_iconst (v := 0) hx hb dX11_formsOf_34 (by decide) ?_
          cases hqJ_1
          exact J_1 _ _ hP hD hS _ (lv_sub hl [0, 1, 3] rfl)
        · replace hqJ_1 := if_t c27 hqJ_1
          refine lv_iconst (v := 1) hx hb dX11_formsOf_30 (by decide) ?_
          refine lv_goto (tgt := 35) hx hb dX11_formsOf_31 (by decide) ?_
          cases hqJ_1
          exact J_1 _ _ hP hD hS _ (lv_sub hl [0, 1, 3] rfl)
  obtain ⟨v2_5, hl8, hm⟩ := bd1_go hm
  refine L8 _ _ _ _ hl8 _ _ hP hD hS _ (lv_sub hl [2, 3, 1, 0] rfl) (fun H locs hP hD hS ls hl => ?_)
  refine lv_iload_n hx hb dX11_formsOf_43 rfl (lv_at hl 0 rfl) ?_
  cases hm
  exact W_mono hQ (W.iret hx hb hr (fun t ht hW => ⟨⟨_, (), rfl, rfl, by rw [ht]; exact hP, va_K.moved hW.alike hK, hD⟩, hS.F ht⟩) hS.2.2 dX11_formsOf_44)
abbrev rmX11_formAt : Room := { frames := 6, cells := 0, slots := 0, locals := 136 }
set_option maxHeartbeats 40000000 in
set_option maxRecDepth 100000 in
theorem c_Md_formAt (l : Launch) (dC : Nat → ClassId) (dI : Nat → Nat → Nat) (cA : ClassId) (fu : Nat) (h_t h_t_w h_t_imageSeed h_t_bookOf h_t_bookIs h_t_forms h_t_best h_t_next h_t_ways h_t_round h_t_roughs : Nat) (f_t_known : Int32) (f_t_kept : Int32) (f_t_seed : Int32) (f_t_written : Int32) (f_t_formRing : Int32) (f_t_formMany : Int32) (f_t_latest : Int32) (f_t_forms : Nat → Int32) (f_t_w : Nat → Int32) (a1 : Int32) (a2 : Int32) (r0 : Int32) (f_t_formMany_z : Int32) (f_t_formRing_z : Int32) (f_t_forms_z : Nat → Int32) (hm : m_Md_formAt fu f_t_formMany f_t_formRing f_t_forms f_t_w a1 a2 = some (r0, f_t_formMany_z, f_t_formRing_z, f_t_forms_z)) (sz : Nat) : Met l yX11_formAt wsX11_formAt rmX11_formAt (mPre (dC, dI) cA [.ref h_t, .int a1, .int a2] sz [(h_t, .inr (10, [.ref h_t_w, .int f_t_known, .int f_t_kept, .int f_t_seed, .ref h_t_imageSeed, .ref h_t_bookOf, .ref h_t_bookIs, .int f_t_written, .ref h_t_forms, .int f_t_formRing, .int f_t_formMany, .ref h_t_best, .ref h_t_next, .ref h_t_ways, .ref h_t_round, .ref h_t_roughs, .int f_t_latest])), (h_t_forms, .inl (cA, 400, .inl f_t_forms)), (h_t_w, .inl (cA, 190, .inl f_t_w))]) (mPosI (dC, dI) cA r0 (va_A [(h_t, .inr (10, [.ref h_t_w, .int f_t_known, .int f_t_kept, .int f_t_seed, .ref h_t_imageSeed, .ref h_t_bookOf, .ref h_t_bookIs, .int f_t_written, .ref h_t_forms, .int f_t_formRing, .int f_t_formMany, .ref h_t_best, .ref h_t_next, .ref h_t_ways, .ref h_t_round, .ref h_t_roughs, .int f_t_latest])), (h_t_forms, .inl (cA, 400, .inl f_t_forms)), (h_t_w, .inl (cA, 190, .inl f_t_w))] sz) [(h_t, .inr (10, [.ref h_t_w, .int f_t_known, .int f_t_kept, .int f_t_seed, .ref h_t_imageSeed, .ref h_t_bookOf, .ref h_t_bookIs, .int f_t_written, .ref h_t_forms, .int f_t_formRing_z, .int f_t_formMany_z, .ref h_t_best, .ref h_t_next, .ref h_t_ways, .ref h_t_round, .ref h_t_roughs, .int f_t_latest])), (h_t_forms, .inl (cA, 400, .inl f_t_forms_z)), (h_t_w, .inl (cA, 190, .inl f_t_w))]) 0 0 (va_A [(h_t, .inr (10, [.ref h_t_w, .int f_t_known, .int f_t_kept, .int f_t_seed, .ref h_t_imageSeed, .ref h_t_bookOf, .ref h_t_bookIs, .int f_t_written, .ref h_t_forms, .int f_t_formRing, .int f_t_formMany, .ref h_t_best, .ref h_t_next, .ref h_t_ways, .ref h_t_round, .ref h_t_roughs, .int f_t_latest])), (h_t_forms, .inl (cA, 400, .inl f_t_forms)), (h_t_w, .inl (cA, 190, .inl f_t_w))] sz) := by
  refine Met.ofW (cc := cX11_formAt) (maxL := 3) (ret := (some .int)) (by decide) rfl ?_
  intro p e s m args below meth c s₁ B hml hv
  obtain ⟨rfl, hsz, hP, hK, hD0⟩ := hv
  refine W_gen (fun Q hQ => ?_)
  have hx := B.exec
  have hb := B.bytes
  have hr := B.returns
  have hts := atoms_spec (ws := wsX11_formAt) B.pre
  have hown : s.vm.findClass RX11 = some m.cls := findClass_of_methodNamed B.named
  have hlocks := B.notSynchronized
  subst hsz
  have hD := hD0.self (sz := s.heap.size)
  clear hD0
  generalize hAe : va_A [(h_t, .inr (10, [.ref h_t_w, .int f_t_known, .int f_t_kept, .int f_t_seed, .ref h_t_imageSeed, .ref h_t_bookOf, .ref h_t_bookIs, .int f_t_written, .ref h_t_forms, .int f_t_formRing, .int f_t_formMany, .ref h_t_best, .ref h_t_next, .ref h_t_ways, .ref h_t_round, .ref h_t_roughs, .int f_t_latest])), (h_t_forms, .inl (cA, 400, .inl f_t_forms)), (h_t_w, .inl (cA, 190, .inl f_t_w))] s.heap.size = A at hD hQ
  have hA : ∀ q : Nat, s.heap.size ≤ q → A q := fun q h => by rw [← hAe]; exact Or.inr h
  clear hAe
  have hS : va_S A s.heap s.heap [] := va_S.rf
  have hl := lv_entry ([.ref h_t, .int a1, .int a2]) (n := 3) (Nat.le_of_ble_eq_true rfl)
  rw [lg_entry_eq]
  generalize (lg_sl ([.ref h_t, .int a1, .int a2]) ++ List.replicate (3 - (lg_sl ([.ref h_t, .int a1, .int a2])).length) Slot.unset).toArray = ls at hl ⊢
  have hl : lv_has ls 3 [(0, .ref h_t), (1, .int a1), (2, .int a2)] := hl
  have k2 := hts (.constant RX11 144 (-1000000001)) (List.mem_of_getElem? (i := 2) rfl)
  have k1 := hts (.constant RX11 143 (-1000000002)) (List.mem_of_getElem? (i := 1) rfl)
  unfold m_Md_formAt at hm
  refine lv_iload_n hx hb dX11_formAt_0 rfl (lv_at hl 1 rfl) ?_
  refine lv_i2l (v := Int32.toInt64 a1) hx hb dX11_formAt_1 rfl ?_
  refine lv_lconst (v := 0) hx hb dX11_formAt_2 (by decide) ?_
  refine lv_aload_n hx hb dX11_formAt_3 rfl (lv_at hl 0 rfl) ?_
  obtain ⟨r_1, hc4, hm⟩ := bd1_go hm
  refine my_cVi (As := []) (rest := [.long 0, .long (Int32.toInt64 a1)]) (WC := [(h_t, .inr (10, [.ref h_t_w, .int f_t_known, .int f_t_kept, .int f_t_seed, .ref h_t_imageSeed, .ref h_t_bookOf, .ref h_t_bookIs, .int f_t_written, .ref h_t_forms, .int f_t_formRing, .int f_t_formMany, .ref h_t_best, .ref h_t_next, .ref h_t_ways, .ref h_t_round, .ref h_t_roughs, .int f_t_latest])), (h_t_w, .inl (cA, 190, .inl f_t_w))]) (WC' := [(h_t, .inr (10, [.ref h_t_w, .int f_t_known, .int f_t_kept, .int f_t_seed, .ref h_t_imageSeed, .ref h_t_bookOf, .ref h_t_bookIs, .int f_t_written, .ref h_t_forms, .int f_t_formRing, .int f_t_formMany, .ref h_t_best, .ref h_t_next, .ref h_t_ways, .ref h_t_round, .ref h_t_roughs, .int f_t_latest])), (h_t_w, .inl (cA, 190, .inl f_t_w))]) (WR := [(h_t_forms, .inl (cA, 400, .inl f_t_forms))]) (W' := [(h_t, .inr (10, [.ref h_t_w, .int f_t_known, .int f_t_kept, .int f_t_seed, .ref h_t_imageSeed, .ref h_t_bookOf, .ref h_t_bookIs, .int f_t_written, .ref h_t_forms, .int f_t_formRing, .int f_t_formMany, .ref h_t_best, .ref h_t_next, .ref h_t_ways, .ref h_t_round, .ref h_t_roughs, .int f_t_latest])), (h_t_forms, .inl (cA, 400, .inl f_t_forms)), (h_t_w, .inl (cA, 190, .inl f_t_w))]) ⟨hx, hb, hml, hown, hts⟩ hK hP hD hS hA (c_Md_m l dC dI cA h_t h_t_w h_t_imageSeed h_t_bookOf h_t_bookIs h_t_forms h_t_best h_t_next h_t_ways h_t_round h_t_roughs f_t_known f_t_kept f_t_seed f_t_written f_t_formRing f_t_formMany f_t_latest f_t_w r_1 hc4) (cwV 0 hts gX11_formAt_X11_m rfl rfl rfl (by decide +kernel) ⟨Nat.le_of_ble_eq_true rfl, Nat.le_of_ble_eq_true rfl⟩) [0, 2] [1] [1, 0, 2] rfl rfl rfl rfl (ci := 10) (q0 := 0) rfl rfl rfl rfl hl.1 (Nat.le_of_ble_eq_true rfl) dX11_formAt_4 ⟨Nat.zero_le _, Nat.zero_le _⟩ (fun H locs hP hD hS => ?_)
  refine lv_i2l (v := Int32.toInt64 r_1) hx hb dX11_formAt_7 rfl ?_
  obtain ⟨r_2, hc8, hm⟩ := bd1_go hm
  refine my_cSi (As := [.long (Int32.toInt64 a1), .long 0, .long (Int32.toInt64 r_1)]) (rest := []) (WC := []) (WC' := []) (WR := [(h_t, .inr (10, [.ref h_t_w, .int f_t_known, .int f_t_kept, .int f_t_seed, .ref h_t_imageSeed, .ref h_t_bookOf, .ref h_t_bookIs, .int f_t_written, .ref h_t_forms, .int f_t_formRing, .int f_t_formMany, .ref h_t_best, .ref h_t_next, .ref h_t_ways, .ref h_t_round, .ref h_t_roughs, .int f_t_latest])), (h_t_forms, .inl (cA, 400, .inl f_t_forms)), (h_t_w, .inl (cA, 190, .inl f_t_w))]) (W' := [(h_t, .inr (10, [.ref h_t_w, .int f_t_known, .int f_t_kept, .int f_t_seed, .ref h_t_imageSeed, .ref h_t_bookOf, .ref h_t_bookIs, .int f_t_written, .ref h_t_forms, .int f_t_formRing, .int f_t_formMany, .ref h_t_best, .ref h_t_next, .ref h_t_ways, .ref h_t_round, .ref h_t_roughs, .int f_t_latest])), (h_t_forms, .inl (cA, 400, .inl f_t_forms)), (h_t_w, .inl (cA, 190, .inl f_t_w))]) ⟨hx, hb, hml, hown, hts⟩ hK hP hD hS hA (c_Md_in l dC dI cA (Int32.toInt64 a1) 0 (Int32.toInt64 r_1) r_2 hc8) (va_cwS 3 hts gX11_formAt_X11_in rfl rfl rfl (by decide +kernel) ⟨Nat.le_of_ble_eq_true rfl, Nat.le_of_ble_eq_true rfl⟩) [] [0, 1, 2] [0, 1, 2] rfl rfl rfl rfl rfl rfl hl.1 (Nat.le_of_ble_eq_true rfl) dX11_formAt_8 ⟨Nat.zero_le _, Nat.zero_le _⟩ (fun H locs hP hD hS => ?_)
  refine lv_if_ne (tgt := 17) hx hb dX11_formAt_11 (by decide) (fun c11 => ?_) (fun c11 => ?_)
  · replace hm := if_f c11 hm
    refine lv_iload_n hx hb dX11_formAt_17 rfl (lv_at hl 2 rfl) ?_
    refine lv_i2l (v := Int32.toInt64 a2) hx hb dX11_formAt_18 rfl ?_
    refine lv_lconst (v := 0) hx hb dX11_formAt_19 (by decide) ?_
    refine lv_aload_n hx hb dX11_formAt_20 rfl (lv_at hl 0 rfl) ?_
    refine lv_iload_n hx hb dX11_formAt_21 rfl (lv_at hl 1 rfl) ?_
    obtain ⟨r_3, f_t_formMany_1, f_t_formRing_1, f_t_forms_1, hc22, hm⟩ := bd4_go hm
    refine my_cVi (As := [.int a1]) (rest := [.long 0, .long (Int32.toInt64 a2)]) (WC := [(h_t, .inr (10, [.ref h_t_w, .int f_t_known, .int f_t_kept, .int f_t_seed, .ref h_t_imageSeed, .ref h_t_bookOf, .ref h_t_bookIs, .int f_t_written, .ref h_t_forms, .int f_t_formRing, .int f_t_formMany, .ref h_t_best, .ref h_t_next, .ref h_t_ways, .ref h_t_round, .ref h_t_roughs, .int f_t_latest])), (h_t_forms, .inl (cA, 400, .inl f_t_forms)), (h_t_w, .inl (cA, 190, .inl f_t_w))]) (WC' := [(h_t, .inr (10, [.ref h_t_w, .int f_t_known, .int f_t_kept, .int f_t_seed, .ref h_t_imageSeed, .ref h_t_bookOf, .ref h_t_bookIs, .int f_t_written, .ref h_t_forms, .int f_t_formRing_1, .int f_t_formMany_1, .ref h_t_best, .ref h_t_next, .ref h_t_ways, .ref h_t_round, .ref h_t_roughs, .int f_t_latest])), (h_t_forms, .inl (cA, 400, .inl f_t_forms_1)), (h_t_w, .inl (cA, 190, .inl f_t_w))]) (WR := []) (W' := [(h_t, .inr (10, [.ref h_t_w, .int f_t_known, .int f_t_kept, .int f_t_seed, .ref h_t_imageSeed, .ref h_t_bookOf, .ref h_t_bookIs, .int f_t_written, .ref h_t_forms, .int f_t_formRing_1, .int f_t_formMany_1, .ref h_t_best, .ref h_t_next, .ref h_t_ways, .ref h_t_round, .ref h_t_roughs, .int f_t_latest])), (h_t_forms, .inl (cA, 400, .inl f_t_forms_1)), (h_t_w, .inl (cA, 190, .inl f_t_w))]) ⟨hx, hb, hml, hown, hts⟩ hK hP hD hS hA (c_Md_formsOf l dC dI cA fu h_t h_t_w h_t_imageSeed h_t_bookOf h_t_bookIs h_t_forms h_t_best h_t_next h_t_ways h_t_round h_t_roughs f_t_known f_t_kept f_t_seed f_t_written f_t_formRing f_t_formMany f_t_latest f_t_forms f_t_w a1 r_3 f_t_formMany_1 f_t_formRing_1 f_t_forms_1 hc22) (cwV 1 hts gX11_formAt_X11_formsOf rfl rfl rfl (by decide +kernel) ⟨Nat.le_of_ble_eq_true rfl, Nat.le_of_ble_eq_true rfl⟩) [0, 1, 2] [] [0, 1, 2] rfl rfl rfl rfl (ci := 10) (q0 := 0) rfl rfl rfl rfl hl.1 (Nat.le_of_ble_eq_true rfl) dX11_formAt_22 ⟨Nat.zero_le _, Nat.zero_le _⟩ (fun H locs hP hD hS => ?_)
    refine lv_iconst (v := 1) hx hb dX11_formAt_25 (by decide) ?_
    refine lv_isub hx hb dX11_formAt_26 ?_
    refine lv_i2l (v := Int32.toInt64 (r_3 - 1)) hx hb dX11_formAt_27 rfl ?_
    obtain ⟨r_4, hc28, hm⟩ := bd1_go hm
    refine my_cSi (As := [.long (Int32.toInt64 a2), .long 0, .long (Int32.toInt64 (r_3 - 1))]) (rest := []) (WC := []) (WC' := []) (WR := [(h_t, .inr (10, [.ref h_t_w, .int f_t_known, .int f_t_kept, .int f_t_seed, .ref h_t_imageSeed, .ref h_t_bookOf, .ref h_t_bookIs, .int f_t_written, .ref h_t_forms, .int f_t_formRing_1, .int f_t_formMany_1, .ref h_t_best, .ref h_t_next, .ref h_t_ways, .ref h_t_round, .ref h_t_roughs, .int f_t_latest])), (h_t_forms, .inl (cA, 400, .inl f_t_forms_1)), (h_t_w, .inl (cA, 190, .inl f_t_w))]) (W' := [(h_t, .inr (10, [.ref h_t_w, .int f_t_known, .int f_t_kept, .int f_t_seed, .ref h_t_imageSeed, .ref h_t_bookOf, .ref h_t_bookIs, .int f_t_written, .ref h_t_forms, .int f_t_formRing_1, .int f_t_formMany_1, .ref h_t_best, .ref h_t_next, .ref h_t_ways, .ref h_t_round, .ref h_t_roughs, .int f_t_latest])), (h_t_forms, .inl (cA, 400, .inl f_t_forms_1)), (h_t_w, .inl (cA, 190, .inl f_t_w))]) ⟨hx, hb, hml, hown, hts⟩ hK hP hD hS hA (c_Md_in l dC dI cA (Int32.toInt64 a2) 0 (Int32.toInt64 (r_3 - 1)) r_4 hc28) (va_cwS 3 hts gX11_formAt_X11_in rfl rfl rfl (by decide +kernel) ⟨Nat.le_of_ble_eq_true rfl, Nat.le_of_ble_eq_true rfl⟩) [] [0, 1, 2] [0, 1, 2] rfl rfl rfl rfl rfl rfl hl.1 (Nat.le_of_ble_eq_true rfl) dX11_formAt_28 ⟨Nat.zero_le _, Nat.zero_le _⟩ (fun H locs hP hD hS => ?_)
    refine lv_if_eq (tgt := 43) hx hb dX11_formAt_31 (by decide) (fun c31 => ?_) (fun c31 => ?_)
    · replace hm := if_t c31 hm
      refine lv_ldc (v := (-1000000001)) hx hb hown k2 dX11_formAt_43 ?_
      cases hm
      exact W_mono hQ (W.iret hx hb hr (fun t ht hW => ⟨⟨_, (), rfl, rfl, by rw [ht]; exact hP, va_K.moved hW.alike hK, hD⟩, hS.F ht⟩) hS.2.2 dX11_formAt_45)
    · replace hm := if_f c31 hm
      refine lv_aload_n hx hb dX11_formAt_34 rfl (lv_at hl 0 rfl) ?_
      refine lv_iload_n hx hb dX11_formAt_35 rfl (lv_at hl 1 rfl) ?_
      refine lv_iload_n hx hb dX11_formAt_36 rfl (lv_at hl 2 rfl) ?_
      obtain ⟨r_5, f_t_formMany_2, f_t_formRing_2, f_t_forms_2, hc37, hm⟩ := bd4_go hm
      refine my_cVi (As := [.int a1, .int a2]) (rest := []) (WC := [(h_t, .inr (10, [.ref h_t_w, .int f_t_known, .int f_t_kept, .int f_t_seed, .ref h_t_imageSeed, .ref h_t_bookOf, .ref h_t_bookIs, .int f_t_written, .ref h_t_forms, .int f_t_formRing_1, .int f_t_formMany_1, .ref h_t_best, .ref h_t_next, .ref h_t_ways, .ref h_t_round, .ref h_t_roughs, .int f_t_latest])), (h_t_forms, .inl (cA, 400, .inl f_t_forms_1)), (h_t_w, .inl (cA, 190, .inl f_t_w))]) (WC' := [(h_t, .inr (10, [.ref h_t_w, .int f_t_known, .int f_t_kept, .int f_t_seed, .ref h_t_imageSeed, .ref h_t_bookOf, .ref h_t_bookIs, .int f_t_written, .ref h_t_forms, .int f_t_formRing_2, .int f_t_formMany_2, .ref h_t_best, .ref h_t_next, .ref h_t_ways, .ref h_t_round, .ref h_t_roughs, .int f_t_latest])), (h_t_forms, .inl (cA, 400, .inl f_t_forms_2)), (h_t_w, .inl (cA, 190, .inl f_t_w))]) (WR := []) (W' := [(h_t, .inr (10, [.ref h_t_w, .int f_t_known, .int f_t_kept, .int f_t_seed, .ref h_t_imageSeed, .ref h_t_bookOf, .ref h_t_bookIs, .int f_t_written, .ref h_t_forms, .int f_t_formRing_2, .int f_t_formMany_2, .ref h_t_best, .ref h_t_next, .ref h_t_ways, .ref h_t_round, .ref h_t_roughs, .int f_t_latest])), (h_t_forms, .inl (cA, 400, .inl f_t_forms_2)), (h_t_w, .inl (cA, 190, .inl f_t_w))]) ⟨hx, hb, hml, hown, hts⟩ hK hP hD hS hA (c_Md_formAtOf l dC dI cA fu h_t h_t_w h_t_imageSeed h_t_bookOf h_t_bookIs h_t_forms h_t_best h_t_next h_t_ways h_t_round h_t_roughs f_t_known f_t_kept f_t_seed f_t_written f_t_formRing_1 f_t_formMany_1 f_t_latest f_t_forms_1 f_t_w a1 a2 r_5 f_t_formMany_2 f_t_formRing_2 f_t_forms_2 hc37) (cwV 2 hts gX11_formAt_X11_formAtOf rfl rfl rfl (by decide +kernel) ⟨Nat.le_of_ble_eq_true rfl, Nat.le_of_ble_eq_true rfl⟩) [0, 1, 2] [] [0, 1, 2] rfl rfl rfl rfl (ci := 10) (q0 := 0) rfl rfl rfl rfl hl.1 (Nat.le_of_ble_eq_true rfl) dX11_formAt_37 ⟨Nat.zero_le _, Nat.zero_le _⟩ (fun H locs hP hD hS => ?_)
      refine lv_goto (tgt := 45) hx hb dX11_formAt_40 (by decide) ?_
      cases hm
      exact W_mono hQ (W.iret hx hb hr (fun t ht hW => ⟨⟨_, (), rfl, rfl, by rw [ht]; exact hP, va_K.moved hW.alike hK, hD⟩, hS.F ht⟩) hS.2.2 dX11_formAt_45)
  · replace hm := if_t c11 hm
    refine lv_ldc (v := (-1000000002)) hx hb hown k1 dX11_formAt_14 ?_
    cases hm
    exact W_mono hQ (W.iret hx hb hr (fun t ht hW => ⟨⟨_, (), rfl, rfl, by rw [ht]; exact hP, va_K.moved hW.alike hK, hD⟩, hS.F ht⟩) hS.2.2 dX11_formAt_16)
abbrev rmX11_forms : Room := { frames := 6, cells := 0, slots := 0, locals := 135 }
set_option maxHeartbeats 40000000 in
set_option maxRecDepth 100000 in
theorem c_Md_forms (l : Launch) (dC : Nat → ClassId) (dI : Nat → Nat → Nat) (cA : ClassId) (fu : Nat) (h_t h_t_w h_t_imageSeed h_t_bookOf h_t_bookIs h_t_forms h_t_best h_t_next h_t_ways h_t_round h_t_roughs : Nat) (f_t_known : Int32) (f_t_kept : Int32) (f_t_seed : Int32) (f_t_written : Int32) (f_t_formRing : Int32) (f_t_formMany : Int32) (f_t_latest : Int32) (f_t_forms : Nat → Int32) (f_t_w : Nat → Int32) (a1 : Int32) (r0 : Int32) (f_t_formMany_z : Int32) (f_t_formRing_z : Int32) (f_t_forms_z : Nat → Int32) (hm : m_Md_forms fu f_t_formMany f_t_formRing f_t_forms f_t_w a1 = some (r0, f_t_formMany_z, f_t_formRing_z, f_t_forms_z)) (sz : Nat) : Met l yX11_forms wsX11_forms rmX11_forms (mPre (dC, dI) cA [.ref h_t, .int a1] sz [(h_t, .inr (10, [.ref h_t_w, .int f_t_known, .int f_t_kept, .int f_t_seed, .ref h_t_imageSeed, .ref h_t_bookOf, .ref h_t_bookIs, .int f_t_written, .ref h_t_forms, .int f_t_formRing, .int f_t_formMany, .ref h_t_best, .ref h_t_next, .ref h_t_ways, .ref h_t_round, .ref h_t_roughs, .int f_t_latest])), (h_t_forms, .inl (cA, 400, .inl f_t_forms)), (h_t_w, .inl (cA, 190, .inl f_t_w))]) (mPosI (dC, dI) cA r0 (va_A [(h_t, .inr (10, [.ref h_t_w, .int f_t_known, .int f_t_kept, .int f_t_seed, .ref h_t_imageSeed, .ref h_t_bookOf, .ref h_t_bookIs, .int f_t_written, .ref h_t_forms, .int f_t_formRing, .int f_t_formMany, .ref h_t_best, .ref h_t_next, .ref h_t_ways, .ref h_t_round, .ref h_t_roughs, .int f_t_latest])), (h_t_forms, .inl (cA, 400, .inl f_t_forms)), (h_t_w, .inl (cA, 190, .inl f_t_w))] sz) [(h_t, .inr (10, [.ref h_t_w, .int f_t_known, .int f_t_kept, .int f_t_seed, .ref h_t_imageSeed, .ref h_t_bookOf, .ref h_t_bookIs, .int f_t_written, .ref h_t_forms, .int f_t_formRing_z, .int f_t_formMany_z, .ref h_t_best, .ref h_t_next, .ref h_t_ways, .ref h_t_round, .ref h_t_roughs, .int f_t_latest])), (h_t_forms, .inl (cA, 400, .inl f_t_forms_z)), (h_t_w, .inl (cA, 190, .inl f_t_w))]) 0 0 (va_A [(h_t, .inr (10, [.ref h_t_w, .int f_t_known, .int f_t_kept, .int f_t_seed, .ref h_t_imageSeed, .ref h_t_bookOf, .ref h_t_bookIs, .int f_t_written, .ref h_t_forms, .int f_t_formRing, .int f_t_formMany, .ref h_t_best, .ref h_t_next, .ref h_t_ways, .ref h_t_round, .ref h_t_roughs, .int f_t_latest])), (h_t_forms, .inl (cA, 400, .inl f_t_forms)), (h_t_w, .inl (cA, 190, .inl f_t_w))] sz) := by
  refine Met.ofW (cc := cX11_forms) (maxL := 2) (ret := (some .int)) (by decide) rfl ?_
  intro p e s m args below meth c s₁ B hml hv
  obtain ⟨rfl, hsz, hP, hK, hD0⟩ := hv
  refine W_gen (fun Q hQ => ?_)
  have hx := B.exec
  have hb := B.bytes
  have hr := B.returns
  have hts := atoms_spec (ws := wsX11_forms) B.pre
  have hown : s.vm.findClass RX11 = some m.cls := findClass_of_methodNamed B.named
  have hlocks := B.notSynchronized
  subst hsz
  have hD := hD0.self (sz := s.heap.size)
  clear hD0
  generalize hAe : va_A [(h_t, .inr (10, [.ref h_t_w, .int f_t_known, .int f_t_kept, .int f_t_seed, .ref h_t_imageSeed, .ref h_t_bookOf, .ref h_t_bookIs, .int f_t_written, .ref h_t_forms, .int f_t_formRing, .int f_t_formMany, .ref h_t_best, .ref h_t_next, .ref h_t_ways, .ref h_t_round, .ref h_t_roughs, .int f_t_latest])), (h_t_forms, .inl (cA, 400, .inl f_t_forms)), (h_t_w, .inl (cA, 190, .inl f_t_w))] s.heap.size = A at hD hQ
  have hA : ∀ q : Nat, s.heap.size ≤ q → A q := fun q h => by rw [← hAe]; exact Or.inr h
  clear hAe
  have hS : va_S A s.heap s.heap [] := va_S.rf
  have hl := lv_entry ([.ref h_t, .int a1]) (n := 2) (Nat.le_of_ble_eq_true rfl)
  rw [lg_entry_eq]
  generalize (lg_sl ([.ref h_t, .int a1]) ++ List.replicate (2 - (lg_sl ([.ref h_t, .int a1])).length) Slot.unset).toArray = ls at hl ⊢
  have hl : lv_has ls 2 [(0, .ref h_t), (1, .int a1)] := hl
  have k1 := hts (.constant RX11 143 (-1000000002)) (List.mem_of_getElem? (i := 1) rfl)
  unfold m_Md_forms at hm
  refine lv_iload_n hx hb dX11_forms_0 rfl (lv_at hl 1 rfl) ?_
  refine lv_i2l (v := Int32.toInt64 a1) hx hb dX11_forms_1 rfl ?_
  refine lv_lconst (v := 0) hx hb dX11_forms_2 (by decide) ?_
  refine lv_aload_n hx hb dX11_forms_3 rfl (lv_at hl 0 rfl) ?_
  obtain ⟨r_1, hc4, hm⟩ := bd1_go hm
  refine my_cVi (As := []) (rest := [.long 0, .long (Int32.toInt64 a1)]) (WC := [(h_t, .inr (10, [.ref h_t_w, .int f_t_known, .int f_t_kept, .int f_t_seed, .ref h_t_imageSeed, .ref h_t_bookOf, .ref h_t_bookIs, .int f_t_written, .ref h_t_forms, .int f_t_formRing, .int f_t_formMany, .ref h_t_best, .ref h_t_next, .ref h_t_ways, .ref h_t_round, .ref h_t_roughs, .int f_t_latest])), (h_t_w, .inl (cA, 190, .inl f_t_w))]) (WC' := [(h_t, .inr (10, [.ref h_t_w, .int f_t_known, .int f_t_kept, .int f_t_seed, .ref h_t_imageSeed, .ref h_t_bookOf, .ref h_t_bookIs, .int f_t_written, .ref h_t_forms, .int f_t_formRing, .int f_t_formMany, .ref h_t_best, .ref h_t_next, .ref h_t_ways, .ref h_t_round, .ref h_t_roughs, .int f_t_latest])), (h_t_w, .inl (cA, 190, .inl f_t_w))]) (WR := [(h_t_forms, .inl (cA, 400, .inl f_t_forms))]) (W' := [(h_t, .inr (10, [.ref h_t_w, .int f_t_known, .int f_t_kept, .int f_t_seed, .ref h_t_imageSeed, .ref h_t_bookOf, .ref h_t_bookIs, .int f_t_written, .ref h_t_forms, .int f_t_formRing, .int f_t_formMany, .ref h_t_best, .ref h_t_next, .ref h_t_ways, .ref h_t_round, .ref h_t_roughs, .int f_t_latest])), (h_t_forms, .inl (cA, 400, .inl f_t_forms)), (h_t_w, .inl (cA, 190, .inl f_t_w))]) ⟨hx, hb, hml, hown, hts⟩ hK hP hD hS hA (c_Md_m l dC dI cA h_t h_t_w h_t_imageSeed h_t_bookOf h_t_bookIs h_t_forms h_t_best h_t_next h_t_ways h_t_round h_t_roughs f_t_known f_t_kept f_t_seed f_t_written f_t_formRing f_t_formMany f_t_latest f_t_w r_1 hc4) (cwV 0 hts gX11_forms_X11_m rfl rfl rfl (by decide +kernel) ⟨Nat.le_of_ble_eq_true rfl, Nat.le_of_ble_eq_true rfl⟩) [0, 2] [1] [1, 0, 2] rfl rfl rfl rfl (ci := 10) (q0 := 0) rfl rfl rfl rfl hl.1 (Nat.le_of_ble_eq_true rfl) dX11_forms_4 ⟨Nat.zero_le _, Nat.zero_le _⟩ (fun H locs hP hD hS => ?_)
  refine lv_i2l (v := Int32.toInt64 r_1) hx hb dX11_forms_7 rfl ?_
  obtain ⟨r_2, hc8, hm⟩ := bd1_go hm
  refine my_cSi (As := [.long (Int32.toInt64 a1), .long 0, .long (Int32.toInt64 r_1)]) (rest := []) (WC := []) (WC' := []) (WR := [(h_t, .inr (10, [.ref h_t_w, .int f_t_known, .int f_t_kept, .int f_t_seed, .ref h_t_imageSeed, .ref h_t_bookOf, .ref h_t_bookIs, .int f_t_written, .ref h_t_forms, .int f_t_formRing, .int f_t_formMany, .ref h_t_best, .ref h_t_next, .ref h_t_ways, .ref h_t_round, .ref h_t_roughs, .int f_t_latest])), (h_t_forms, .inl (cA, 400, .inl f_t_forms)), (h_t_w, .inl (cA, 190, .inl f_t_w))]) (W' := [(h_t, .inr (10, [.ref h_t_w, .int f_t_known, .int f_t_kept, .int f_t_seed, .ref h_t_imageSeed, .ref h_t_bookOf, .ref h_t_bookIs, .int f_t_written, .ref h_t_forms, .int f_t_formRing, .int f_t_formMany, .ref h_t_best, .ref h_t_next, .ref h_t_ways, .ref h_t_round, .ref h_t_roughs, .int f_t_latest])), (h_t_forms, .inl (cA, 400, .inl f_t_forms)), (h_t_w, .inl (cA, 190, .inl f_t_w))]) ⟨hx, hb, hml, hown, hts⟩ hK hP hD hS hA (c_Md_in l dC dI cA (Int32.toInt64 a1) 0 (Int32.toInt64 r_1) r_2 hc8) (va_cwS 3 hts gX11_forms_X11_in rfl rfl rfl (by decide +kernel) ⟨Nat.le_of_ble_eq_true rfl, Nat.le_of_ble_eq_true rfl⟩) [] [0, 1, 2] [0, 1, 2] rfl rfl rfl rfl rfl rfl hl.1 (Nat.le_of_ble_eq_true rfl) dX11_forms_8 ⟨Nat.zero_le _, Nat.zero_le _⟩ (fun H locs hP hD hS => ?_)
  refine lv_if_eq (tgt := 22) hx hb dX11_forms_11 (by decide) (fun c11 => ?_) (fun c11 => ?_)
  · replace hm := if_t c11 hm
    refine lv_ldc (v := (-1000000002)) hx hb hown k1 dX11_forms_22 ?_
    cases hm
    exact W_mono hQ (W.iret hx hb hr (fun t ht hW => ⟨⟨_, (), rfl, rfl, by rw [ht]; exact hP, va_K.moved hW.alike hK, hD⟩, hS.F ht⟩) hS.2.2 dX11_forms_24)
  · replace hm := if_f c11 hm
    refine lv_aload_n hx hb dX11_forms_14 rfl (lv_at hl 0 rfl) ?_
    refine lv_iload_n hx hb dX11_forms_15 rfl (lv_at hl 1 rfl) ?_
    obtain ⟨r_3, f_t_formMany_1, f_t_formRing_1, f_t_forms_1, hc16, hm⟩ := bd4_go hm
    refine my_cVi (As := [.int a1]) (rest := []) (WC := [(h_t, .inr (10, [.ref h_t_w, .int f_t_known, .int f_t_kept, .int f_t_seed, .ref h_t_imageSeed, .ref h_t_bookOf, .ref h_t_bookIs, .int f_t_written, .ref h_t_forms, .int f_t_formRing, .int f_t_formMany, .ref h_t_best, .ref h_t_next, .ref h_t_ways, .ref h_t_round, .ref h_t_roughs, .int f_t_latest])), (h_t_forms, .inl (cA, 400, .inl f_t_forms)), (h_t_w, .inl (cA, 190, .inl f_t_w))]) (WC' := [(h_t, .inr (10, [.ref h_t_w, .int f_t_known, .int f_t_kept, .int f_t_seed, .ref h_t_imageSeed, .ref h_t_bookOf, .ref h_t_bookIs, .int f_t_written, .ref h_t_forms, .int f_t_formRing_1, .int f_t_formMany_1, .ref h_t_best, .ref h_t_next, .ref h_t_ways, .ref h_t_round, .ref h_t_roughs, .int f_t_latest])), (h_t_forms, .inl (cA, 400, .inl f_t_forms_1)), (h_t_w, .inl (cA, 190, .inl f_t_w))]) (WR := []) (W' := [(h_t, .inr (10, [.ref h_t_w, .int f_t_known, .int f_t_kept, .int f_t_seed, .ref h_t_imageSeed, .ref h_t_bookOf, .ref h_t_bookIs, .int f_t_written, .ref h_t_forms, .int f_t_formRing_1, .int f_t_formMany_1, .ref h_t_best, .ref h_t_next, .ref h_t_ways, .ref h_t_round, .ref h_t_roughs, .int f_t_latest])), (h_t_forms, .inl (cA, 400, .inl f_t_forms_1)), (h_t_w, .inl (cA, 190, .inl f_t_w))]) ⟨hx, hb, hml, hown, hts⟩ hK hP hD hS hA (c_Md_formsOf l dC dI cA fu h_t h_t_w h_t_imageSeed h_t_bookOf h_t_bookIs h_t_forms h_t_best h_t_next h_t_ways h_t_round h_t_roughs f_t_known f_t_kept f_t_seed f_t_written f_t_formRing f_t_formMany f_t_latest f_t_forms f_t_w a1 r_3 f_t_formMany_1 f_t_formRing_1 f_t_forms_1 hc16) (cwV 1 hts gX11_forms_X11_formsOf rfl rfl rfl (by decide +kernel) ⟨Nat.le_of_ble_eq_true rfl, Nat.le_of_ble_eq_true rfl⟩) [0, 1, 2] [] [0, 1, 2] rfl rfl rfl rfl (ci := 10) (q0 := 0) rfl rfl rfl rfl hl.1 (Nat.le_of_ble_eq_true rfl) dX11_forms_16 ⟨Nat.zero_le _, Nat.zero_le _⟩ (fun H locs hP hD hS => ?_)
    refine lv_goto (tgt := 24) hx hb dX11_forms_19 (by decide) ?_
    cases hm
    exact W_mono hQ (W.iret hx hb hr (fun t ht hW => ⟨⟨_, (), rfl, rfl, by rw [ht]; exact hP, va_K.moved hW.alike hK, hD⟩, hS.F ht⟩) hS.2.2 dX11_forms_24)
abbrev rmX11_goBack : Room := { frames := 1, cells := 0, slots := 0, locals := 25 }
theorem uX11_X11_goBack : ∀ w ∈ wsX110, w ∈ wsX11_goBack := fun _ h => List.mem_cons_of_mem _ (List.mem_append_right _ (h))
set_option maxHeartbeats 40000000 in
set_option maxRecDepth 100000 in
theorem c_Md_goBack (l : Launch) (dC : Nat → ClassId) (dI : Nat → Nat → Nat) (cA : ClassId) (fu : Nat) (h_t h_t_w h_t_imageSeed h_t_bookOf h_t_bookIs h_t_forms h_t_best h_t_next h_t_ways h_t_round h_t_roughs : Nat) (f_t_known : Int32) (f_t_kept : Int32) (f_t_seed : Int32) (f_t_written : Int32) (f_t_formRing : Int32) (f_t_formMany : Int32) (f_t_latest : Int32) (f_t_imageSeed : Nat → Int32) (f_t_w : Nat → Int32) (a1 : Int32) (r0 : Int32) (f_t_known_z : Int32) (f_t_seed_z : Int32) (f_t_w_z : Nat → Int32) (hm : m_Md_goBack fu f_t_imageSeed f_t_kept f_t_known f_t_seed f_t_w a1 = some (r0, f_t_known_z, f_t_seed_z, f_t_w_z)) (sz : Nat) : Met l yX11_goBack wsX11_goBack rmX11_goBack (mPre (dC, dI) cA [.ref h_t, .int a1] sz [(h_t, .inr (10, [.ref h_t_w, .int f_t_known, .int f_t_kept, .int f_t_seed, .ref h_t_imageSeed, .ref h_t_bookOf, .ref h_t_bookIs, .int f_t_written, .ref h_t_forms, .int f_t_formRing, .int f_t_formMany, .ref h_t_best, .ref h_t_next, .ref h_t_ways, .ref h_t_round, .ref h_t_roughs, .int f_t_latest])), (h_t_imageSeed, .inl (cA, 2, .inl f_t_imageSeed)), (h_t_w, .inl (cA, 190, .inl f_t_w))]) (mPosI (dC, dI) cA r0 (va_A [(h_t, .inr (10, [.ref h_t_w, .int f_t_known, .int f_t_kept, .int f_t_seed, .ref h_t_imageSeed, .ref h_t_bookOf, .ref h_t_bookIs, .int f_t_written, .ref h_t_forms, .int f_t_formRing, .int f_t_formMany, .ref h_t_best, .ref h_t_next, .ref h_t_ways, .ref h_t_round, .ref h_t_roughs, .int f_t_latest])), (h_t_imageSeed, .inl (cA, 2, .inl f_t_imageSeed)), (h_t_w, .inl (cA, 190, .inl f_t_w))] sz) [(h_t, .inr (10, [.ref h_t_w, .int f_t_known_z, .int f_t_kept, .int f_t_seed_z, .ref h_t_imageSeed, .ref h_t_bookOf, .ref h_t_bookIs, .int f_t_written, .ref h_t_forms, .int f_t_formRing, .int f_t_formMany, .ref h_t_best, .ref h_t_next, .ref h_t_ways, .ref h_t_round, .ref h_t_roughs, .int f_t_latest])), (h_t_imageSeed, .inl (cA, 2, .inl f_t_imageSeed)), (h_t_w, .inl (cA, 190, .inl f_t_w_z))]) 0 0 (va_A [(h_t, .inr (10, [.ref h_t_w, .int f_t_known, .int f_t_kept, .int f_t_seed, .ref h_t_imageSeed, .ref h_t_bookOf, .ref h_t_bookIs, .int f_t_written, .ref h_t_forms, .int f_t_formRing, .int f_t_formMany, .ref h_t_best, .ref h_t_next, .ref h_t_ways, .ref h_t_round, .ref h_t_roughs, .int f_t_latest])), (h_t_imageSeed, .inl (cA, 2, .inl f_t_imageSeed)), (h_t_w, .inl (cA, 190, .inl f_t_w))] sz) := by
  refine Met.ofW (cc := cX11_goBack) (maxL := 2) (ret := (some .int)) (by decide) rfl ?_
  intro p e s m args below meth c s₁ B hml hv
  obtain ⟨rfl, hsz, hP, hK, hD0⟩ := hv
  refine W_gen (fun Q hQ => ?_)
  have hx := B.exec
  have hb := B.bytes
  have hr := B.returns
  have hts := atoms_spec (ws := wsX11_goBack) B.pre
  have hown : s.vm.findClass RX11 = some m.cls := findClass_of_methodNamed B.named
  have hlocks := B.notSynchronized
  subst hsz
  have hD := hD0.self (sz := s.heap.size)
  clear hD0
  generalize hAe : va_A [(h_t, .inr (10, [.ref h_t_w, .int f_t_known, .int f_t_kept, .int f_t_seed, .ref h_t_imageSeed, .ref h_t_bookOf, .ref h_t_bookIs, .int f_t_written, .ref h_t_forms, .int f_t_formRing, .int f_t_formMany, .ref h_t_best, .ref h_t_next, .ref h_t_ways, .ref h_t_round, .ref h_t_roughs, .int f_t_latest])), (h_t_imageSeed, .inl (cA, 2, .inl f_t_imageSeed)), (h_t_w, .inl (cA, 190, .inl f_t_w))] s.heap.size = A at hD hQ
  have hA : ∀ q : Nat, s.heap.size ≤ q → A q := fun q h => by rw [← hAe]; exact Or.inr h
  clear hAe
  have hS : va_S A s.heap s.heap [] := va_S.rf
  have hl := lv_entry ([.ref h_t, .int a1]) (n := 2) (Nat.le_of_ble_eq_true rfl)
  rw [lg_entry_eq]
  generalize (lg_sl ([.ref h_t, .int a1]) ++ List.replicate (2 - (lg_sl ([.ref h_t, .int a1])).length) Slot.unset).toArray = ls at hl ⊢
  have hl : lv_has ls 2 [(0, .ref h_t), (1, .int a1)] := hl
  have k2 := hts (.fieldLink RX11 210 "ToneSetsModel" "kept" "I") (List.mem_of_getElem? (i := 2) rfl)
  have k4 := hts (.fieldLink RX11 13 "ToneSetsModel" "imageSeed" "[I") (List.mem_of_getElem? (i := 4) rfl)
  have k5 := hts (.fieldLink RX11 140 "ToneSetsModel" "seed" "I") (List.mem_of_getElem? (i := 5) rfl)
  have k6 := hts (.fieldLink RX11 44 "ToneSetsModel" "known" "I") (List.mem_of_getElem? (i := 6) rfl)
  have k3 := hts (.constant RX11 160 (-1000000003)) (List.mem_of_getElem? (i := 3) rfl)
  have k1 := hts (.constant RX11 144 (-1000000001)) (List.mem_of_getElem? (i := 1) rfl)
  have uX11 := uX11_X11_goBack
  unfold m_Md_goBack at hm
  refine lv_iload_n hx hb dX11_goBack_0 rfl (lv_at hl 1 rfl) ?_
  refine lv_i2l (v := Int32.toInt64 a1) hx hb dX11_goBack_1 rfl ?_
  refine lv_lconst (v := 0) hx hb dX11_goBack_2 (by decide) ?_
  refine lv_lconst (v := 1) hx hb dX11_goBack_3 (by decide) ?_
  obtain ⟨r_1, hc4, hm⟩ := bd1_go hm
  refine my_cSi (As := [.long (Int32.toInt64 a1), .long 0, .long 1]) (rest := []) (WC := []) (WC' := []) (WR := [(h_t, .inr (10, [.ref h_t_w, .int f_t_known, .int f_t_kept, .int f_t_seed, .ref h_t_imageSeed, .ref h_t_bookOf, .ref h_t_bookIs, .int f_t_written, .ref h_t_forms, .int f_t_formRing, .int f_t_formMany, .ref h_t_best, .ref h_t_next, .ref h_t_ways, .ref h_t_round, .ref h_t_roughs, .int f_t_latest])), (h_t_imageSeed, .inl (cA, 2, .inl f_t_imageSeed)), (h_t_w, .inl (cA, 190, .inl f_t_w))]) (W' := [(h_t, .inr (10, [.ref h_t_w, .int f_t_known, .int f_t_kept, .int f_t_seed, .ref h_t_imageSeed, .ref h_t_bookOf, .ref h_t_bookIs, .int f_t_written, .ref h_t_forms, .int f_t_formRing, .int f_t_formMany, .ref h_t_best, .ref h_t_next, .ref h_t_ways, .ref h_t_round, .ref h_t_roughs, .int f_t_latest])), (h_t_imageSeed, .inl (cA, 2, .inl f_t_imageSeed)), (h_t_w, .inl (cA, 190, .inl f_t_w))]) ⟨hx, hb, hml, hown, hts⟩ hK hP hD hS hA (c_Md_in l dC dI cA (Int32.toInt64 a1) 0 1 r_1 hc4) (va_cwS 3 hts gX11_goBack_X11_in rfl rfl rfl (by decide +kernel) ⟨Nat.le_of_ble_eq_true rfl, Nat.le_of_ble_eq_true rfl⟩) [] [0, 1, 2] [0, 1, 2] rfl rfl rfl rfl rfl rfl hl.1 (Nat.le_of_ble_eq_true rfl) dX11_goBack_4 ⟨Nat.zero_le _, Nat.zero_le _⟩ (fun H locs hP hD hS => ?_)
  refine lv_if_ne (tgt := 13) hx hb dX11_goBack_7 (by decide) (fun c7 => ?_) (fun c7 => ?_)
  · replace hm := if_f c7 hm
    refine lv_aload_n hx hb dX11_goBack_13 rfl (lv_at hl 0 rfl) ?_
    refine va_get (D := (dC, dI)) (ci := 10) (v := .int f_t_kept) (C := RX11) (T := TX11) (N := 17) hx hb hts uX11 hown hK hP 0 rfl rfl 2 (by decide) k2 (fun _ h9 => h9) rfl dX11_goBack_14 ?_
    refine lv_iload_n hx hb dX11_goBack_17 rfl (lv_at hl 1 rfl) ?_
    obtain ⟨r_2, hc18, hm⟩ := bd1_go hm
    refine my_cSi (As := [.int f_t_kept, .int a1]) (rest := []) (WC := []) (WC' := []) (WR := [(h_t, .inr (10, [.ref h_t_w, .int f_t_known, .int f_t_kept, .int f_t_seed, .ref h_t_imageSeed, .ref h_t_bookOf, .ref h_t_bookIs, .int f_t_written, .ref h_t_forms, .int f_t_formRing, .int f_t_formMany, .ref h_t_best, .ref h_t_next, .ref h_t_ways, .ref h_t_round, .ref h_t_roughs, .int f_t_latest])), (h_t_imageSeed, .inl (cA, 2, .inl f_t_imageSeed)), (h_t_w, .inl (cA, 190, .inl f_t_w))]) (W' := [(h_t, .inr (10, [.ref h_t_w, .int f_t_known, .int f_t_kept, .int f_t_seed, .ref h_t_imageSeed, .ref h_t_bookOf, .ref h_t_bookIs, .int f_t_written, .ref h_t_forms, .int f_t_formRing, .int f_t_formMany, .ref h_t_best, .ref h_t_next, .ref h_t_ways, .ref h_t_round, .ref h_t_roughs, .int f_t_latest])), (h_t_imageSeed, .inl (cA, 2, .inl f_t_imageSeed)), (h_t_w, .inl (cA, 190, .inl f_t_w))]) ⟨hx, hb, hml, hown, hts⟩ hK hP hD hS hA (c_Md_has l dC dI cA f_t_kept a1 r_2 hc18) (va_cwS 2 hts gX11_goBack_X11_has rfl rfl rfl (by decide +kernel) ⟨Nat.le_of_ble_eq_true rfl, Nat.le_of_ble_eq_true rfl⟩) [] [0, 1, 2] [0, 1, 2] rfl rfl rfl rfl rfl rfl hl.1 (Nat.le_of_ble_eq_true rfl) dX11_goBack_18 ⟨Nat.zero_le _, Nat.zero_le _⟩ (fun H locs hP hD hS => ?_)
    refine lv_if_ne (tgt := 27) hx hb dX11_goBack_21 (by decide) (fun c21 => ?_) (fun c21 => ?_)
    · replace hm := if_f c21 hm
      refine lv_aload_n hx hb dX11_goBack_27 rfl (lv_at hl 0 rfl) ?_
      refine lv_sipush (v := 170) hx hb dX11_goBack_28 (by decide) ?_
      refine lv_bipush (v := 10) hx hb dX11_goBack_31 (by decide) ?_
      refine lv_iload_n hx hb dX11_goBack_33 rfl (lv_at hl 1 rfl) ?_
      refine lv_imul hx hb dX11_goBack_34 ?_
      refine lv_iadd hx hb dX11_goBack_35 ?_
      refine lv_iconst (v := 0) hx hb dX11_goBack_36 (by decide) ?_
      obtain ⟨f_t_w_1, hc37, hm⟩ := bd1_go hm
      refine my_cVv (As := [.int (170 + (10 * a1)), .int 0]) (rest := []) (WC := [(h_t, .inr (10, [.ref h_t_w, .int f_t_known, .int f_t_kept, .int f_t_seed, .ref h_t_imageSeed, .ref h_t_bookOf, .ref h_t_bookIs, .int f_t_written, .ref h_t_forms, .int f_t_formRing, .int f_t_formMany, .ref h_t_best, .ref h_t_next, .ref h_t_ways, .ref h_t_round, .ref h_t_roughs, .int f_t_latest])), (h_t_w, .inl (cA, 190, .inl f_t_w))]) (WC' := [(h_t, .inr (10, [.ref h_t_w, .int f_t_known, .int f_t_kept, .int f_t_seed, .ref h_t_imageSeed, .ref h_t_bookOf, .ref h_t_bookIs, .int f_t_written, .ref h_t_forms, .int f_t_formRing, .int f_t_formMany, .ref h_t_best, .ref h_t_next, .ref h_t_ways, .ref h_t_round, .ref h_t_roughs, .int f_t_latest])), (h_t_w, .inl (cA, 190, .inl f_t_w_1))]) (WR := [(h_t_imageSeed, .inl (cA, 2, .inl f_t_imageSeed))]) (W' := [(h_t, .inr (10, [.ref h_t_w, .int f_t_known, .int f_t_kept, .int f_t_seed, .ref h_t_imageSeed, .ref h_t_bookOf, .ref h_t_bookIs, .int f_t_written, .ref h_t_forms, .int f_t_formRing, .int f_t_formMany, .ref h_t_best, .ref h_t_next, .ref h_t_ways, .ref h_t_round, .ref h_t_roughs, .int f_t_latest])), (h_t_imageSeed, .inl (cA, 2, .inl f_t_imageSeed)), (h_t_w, .inl (cA, 190, .inl f_t_w_1))]) ⟨hx, hb, hml, hown, hts⟩ hK hP hD hS hA (c_Md_copyRow l dC dI cA fu h_t h_t_w h_t_imageSeed h_t_bookOf h_t_bookIs h_t_forms h_t_best h_t_next h_t_ways h_t_round h_t_roughs f_t_known f_t_kept f_t_seed f_t_written f_t_formRing f_t_formMany f_t_latest f_t_w (170 + (10 * a1)) 0 f_t_w_1 hc37) (cwV 2 hts gX11_goBack_X11_copyRow rfl rfl rfl (by decide +kernel) ⟨Nat.le_of_ble_eq_true rfl, Nat.le_of_ble_eq_true rfl⟩) [0, 2] [1] [1, 0, 2] rfl rfl rfl rfl (ci := 10) (q0 := 0) rfl rfl rfl rfl hl.1 (Nat.le_of_ble_eq_true rfl) dX11_goBack_37 ⟨Nat.zero_le _, Nat.zero_le _⟩ (fun H locs hP hD hS => ?_)
      refine lv_aload_n hx hb dX11_goBack_40 rfl (lv_at hl 0 rfl) ?_
      refine lv_aload_n hx hb dX11_goBack_41 rfl (lv_at hl 0 rfl) ?_
      refine va_get (D := (dC, dI)) (ci := 10) (v := .ref h_t_imageSeed) (C := RX11) (T := TX11) (N := 17) hx hb hts uX11 hown hK hP 0 rfl rfl 4 (by decide) k4 (fun _ h9 => h9) rfl dX11_goBack_42 ?_
      refine lv_iload_n hx hb dX11_goBack_45 rfl (lv_at hl 1 rfl) ?_
      obtain ⟨b46, hm⟩ := ck_go hm
      refine va_iald hx hb hK hP 1 0 rfl rfl b46 dX11_goBack_46 ?_
      refine lv_topi (fun f_t_seed_1 ef_t_seed_1 => ?_)
      replace hm := lt_go ef_t_seed_1 hm
      refine my_put (W' := [(h_t, .inr (10, [.ref h_t_w, .int f_t_known, .int f_t_kept, .int f_t_seed_1, .ref h_t_imageSeed, .ref h_t_bookOf, .ref h_t_bookIs, .int f_t_written, .ref h_t_forms, .int f_t_formRing, .int f_t_formMany, .ref h_t_best, .ref h_t_next, .ref h_t_ways, .ref h_t_round, .ref h_t_roughs, .int f_t_latest])), (h_t_imageSeed, .inl (cA, 2, .inl f_t_imageSeed)), (h_t_w, .inl (cA, 190, .inl f_t_w_1))]) (ci := 10) (v := .int f_t_seed_1) (ty := .int) (C := RX11) (T := TX11) (N := 17) hx hb hts uX11 tyX11 tyX11_ok nmX11 hown hK hP hD hS 0 rfl rfl 3 (by decide) k5 (fun _ h9 => h9) rfl (by decide +kernel) rfl rfl (Nat.le_of_ble_eq_true rfl) dX11_goBack_47 rfl (fun H locs hP hD hS => ?_)
      refine lv_aload_n hx hb dX11_goBack_50 rfl (lv_at hl 0 rfl) ?_
      refine lv_iconst (v := 0) hx hb dX11_goBack_51 (by decide) ?_
      refine lv_topi (fun f_t_known_1 ef_t_known_1 => ?_)
      replace hm := lt_go ef_t_known_1 hm
      refine my_put (W' := [(h_t, .inr (10, [.ref h_t_w, .int f_t_known_1, .int f_t_kept, .int f_t_seed_1, .ref h_t_imageSeed, .ref h_t_bookOf, .ref h_t_bookIs, .int f_t_written, .ref h_t_forms, .int f_t_formRing, .int f_t_formMany, .ref h_t_best, .ref h_t_next, .ref h_t_ways, .ref h_t_round, .ref h_t_roughs, .int f_t_latest])), (h_t_imageSeed, .inl (cA, 2, .inl f_t_imageSeed)), (h_t_w, .inl (cA, 190, .inl f_t_w_1))]) (ci := 10) (v := .int f_t_known_1) (ty := .int) (C := RX11) (T := TX11) (N := 17) hx hb hts uX11 tyX11 tyX11_ok nmX11 hown hK hP hD hS 0 rfl rfl 1 (by decide) k6 (fun _ h9 => h9) rfl (by decide +kernel) rfl rfl (Nat.le_of_ble_eq_true rfl) dX11_goBack_52 rfl (fun H locs hP hD hS => ?_)
      refine lv_iconst (v := 1) hx hb dX11_goBack_55 (by decide) ?_
      cases hm
      exact W_mono hQ (W.iret hx hb hr (fun t ht hW => ⟨⟨_, (), rfl, rfl, by rw [ht]; exact hP, va_K.moved hW.alike hK, hD⟩, hS.F ht⟩) hS.2.2 dX11_goBack_56)
    · replace hm := if_t c21 hm
      refine lv_ldc (v := (-1000000003)) hx hb hown k3 dX11_goBack_24 ?_
      cases hm
      exact W_mono hQ (W.iret hx hb hr (fun t ht hW => ⟨⟨_, (), rfl, rfl, by rw [ht]; exact hP, va_K.moved hW.alike hK, hD⟩, hS.F ht⟩) hS.2.2 dX11_goBack_26)
  · replace hm := if_t c7 hm
    refine lv_ldc (v := (-1000000001)) hx hb hown k1 dX11_goBack_10 ?_
    cases hm
    exact W_mono hQ (W.iret hx hb hr (fun t ht hW => ⟨⟨_, (), rfl, rfl, by rw [ht]; exact hP, va_K.moved hW.alike hK, hD⟩, hS.F ht⟩) hS.2.2 dX11_goBack_12)
abbrev rmX11_inside : Room := { frames := 4, cells := 0, slots := 0, locals := 92 }
theorem uX11_X11_inside : ∀ w ∈ wsX110, w ∈ wsX11_inside := fun _ h => List.mem_cons_of_mem _ (List.mem_append_right _ (h))
set_option maxHeartbeats 40000000 in
set_option maxRecDepth 100000 in
theorem c_Md_inside (l : Launch) (dC : Nat → ClassId) (dI : Nat → Nat → Nat) (cA : ClassId) (fu : Nat) (h_t h_t_w h_t_imageSeed h_t_bookOf h_t_bookIs h_t_forms h_t_best h_t_next h_t_ways h_t_round h_t_roughs : Nat) (f_t_known : Int32) (f_t_kept : Int32) (f_t_seed : Int32) (f_t_written : Int32) (f_t_formRing : Int32) (f_t_formMany : Int32) (f_t_latest : Int32) (f_t_w : Nat → Int32) (a1 : Int32) (a2 : Int32) (r0 : Int32) (hm : m_Md_inside fu f_t_w a1 a2 = some r0) (sz : Nat) : Met l yX11_inside wsX11_inside rmX11_inside (mPre (dC, dI) cA [.ref h_t, .int a1, .int a2] sz [(h_t, .inr (10, [.ref h_t_w, .int f_t_known, .int f_t_kept, .int f_t_seed, .ref h_t_imageSeed, .ref h_t_bookOf, .ref h_t_bookIs, .int f_t_written, .ref h_t_forms, .int f_t_formRing, .int f_t_formMany, .ref h_t_best, .ref h_t_next, .ref h_t_ways, .ref h_t_round, .ref h_t_roughs, .int f_t_latest])), (h_t_w, .inl (cA, 190, .inl f_t_w))]) (mPosI (dC, dI) cA r0 (va_A [(h_t, .inr (10, [.ref h_t_w, .int f_t_known, .int f_t_kept, .int f_t_seed, .ref h_t_imageSeed, .ref h_t_bookOf, .ref h_t_bookIs, .int f_t_written, .ref h_t_forms, .int f_t_formRing, .int f_t_formMany, .ref h_t_best, .ref h_t_next, .ref h_t_ways, .ref h_t_round, .ref h_t_roughs, .int f_t_latest])), (h_t_w, .inl (cA, 190, .inl f_t_w))] sz) [(h_t, .inr (10, [.ref h_t_w, .int f_t_known, .int f_t_kept, .int f_t_seed, .ref h_t_imageSeed, .ref h_t_bookOf, .ref h_t_bookIs, .int f_t_written, .ref h_t_forms, .int f_t_formRing, .int f_t_formMany, .ref h_t_best, .ref h_t_next, .ref h_t_ways, .ref h_t_round, .ref h_t_roughs, .int f_t_latest])), (h_t_w, .inl (cA, 190, .inl f_t_w))]) 0 0 (va_A [(h_t, .inr (10, [.ref h_t_w, .int f_t_known, .int f_t_kept, .int f_t_seed, .ref h_t_imageSeed, .ref h_t_bookOf, .ref h_t_bookIs, .int f_t_written, .ref h_t_forms, .int f_t_formRing, .int f_t_formMany, .ref h_t_best, .ref h_t_next, .ref h_t_ways, .ref h_t_round, .ref h_t_roughs, .int f_t_latest])), (h_t_w, .inl (cA, 190, .inl f_t_w))] sz) := by
  refine Met.ofW (cc := cX11_inside) (maxL := 7) (ret := (some .int)) (by decide) rfl ?_
  intro p e s m args below meth c s₁ B hml hv
  obtain ⟨rfl, hsz, hP, hK, hD0⟩ := hv
  refine W_gen (fun Q hQ => ?_)
  have hx := B.exec
  have hb := B.bytes
  have hr := B.returns
  have hts := atoms_spec (ws := wsX11_inside) B.pre
  have hown : s.vm.findClass RX11 = some m.cls := findClass_of_methodNamed B.named
  have hlocks := B.notSynchronized
  subst hsz
  have hD := hD0.self (sz := s.heap.size)
  clear hD0
  generalize hAe : va_A [(h_t, .inr (10, [.ref h_t_w, .int f_t_known, .int f_t_kept, .int f_t_seed, .ref h_t_imageSeed, .ref h_t_bookOf, .ref h_t_bookIs, .int f_t_written, .ref h_t_forms, .int f_t_formRing, .int f_t_formMany, .ref h_t_best, .ref h_t_next, .ref h_t_ways, .ref h_t_round, .ref h_t_roughs, .int f_t_latest])), (h_t_w, .inl (cA, 190, .inl f_t_w))] s.heap.size = A at hD hQ
  have hA : ∀ q : Nat, s.heap.size ≤ q → A q := fun q h => by rw [← hAe]; exact Or.inr h
  clear hAe
  have hS : va_S A s.heap s.heap [] := va_S.rf
  have hl := lv_entry ([.ref h_t, .int a1, .int a2]) (n := 7) (Nat.le_of_ble_eq_true rfl)
  rw [lg_entry_eq]
  generalize (lg_sl ([.ref h_t, .int a1, .int a2]) ++ List.replicate (7 - (lg_sl ([.ref h_t, .int a1, .int a2])).length) Slot.unset).toArray = ls at hl ⊢
  have hl : lv_has ls 7 [(0, .ref h_t), (1, .int a1), (2, .int a2)] := hl
  have k1 := hts (.constant RX11 144 (-1000000001)) (List.mem_of_getElem? (i := 1) rfl)
  have k2 := hts (.fieldLink RX11 7 "ToneSetsModel" "w" "[I") (List.mem_of_getElem? (i := 2) rfl)
  have uX11 := uX11_X11_inside
  unfold m_Md_inside at hm
  refine lv_aload_n hx hb dX11_inside_0 rfl (lv_at hl 0 rfl) ?_
  refine lv_iload_n hx hb dX11_inside_1 rfl (lv_at hl 1 rfl) ?_
  obtain ⟨r_1, hc2, hm⟩ := bd1_go hm
  refine my_cVi (As := [.int a1]) (rest := []) (WC := [(h_t, .inr (10, [.ref h_t_w, .int f_t_known, .int f_t_kept, .int f_t_seed, .ref h_t_imageSeed, .ref h_t_bookOf, .ref h_t_bookIs, .int f_t_written, .ref h_t_forms, .int f_t_formRing, .int f_t_formMany, .ref h_t_best, .ref h_t_next, .ref h_t_ways, .ref h_t_round, .ref h_t_roughs, .int f_t_latest])), (h_t_w, .inl (cA, 190, .inl f_t_w))]) (WC' := [(h_t, .inr (10, [.ref h_t_w, .int f_t_known, .int f_t_kept, .int f_t_seed, .ref h_t_imageSeed, .ref h_t_bookOf, .ref h_t_bookIs, .int f_t_written, .ref h_t_forms, .int f_t_formRing, .int f_t_formMany, .ref h_t_best, .ref h_t_next, .ref h_t_ways, .ref h_t_round, .ref h_t_roughs, .int f_t_latest])), (h_t_w, .inl (cA, 190, .inl f_t_w))]) (WR := []) (W' := [(h_t, .inr (10, [.ref h_t_w, .int f_t_known, .int f_t_kept, .int f_t_seed, .ref h_t_imageSeed, .ref h_t_bookOf, .ref h_t_bookIs, .int f_t_written, .ref h_t_forms, .int f_t_formRing, .int f_t_formMany, .ref h_t_best, .ref h_t_next, .ref h_t_ways, .ref h_t_round, .ref h_t_roughs, .int f_t_latest])), (h_t_w, .inl (cA, 190, .inl f_t_w))]) ⟨hx, hb, hml, hown, hts⟩ hK hP hD hS hA (c_Md_isPlace l dC dI cA h_t h_t_w h_t_imageSeed h_t_bookOf h_t_bookIs h_t_forms h_t_best h_t_next h_t_ways h_t_round h_t_roughs f_t_known f_t_kept f_t_seed f_t_written f_t_formRing f_t_formMany f_t_latest f_t_w a1 r_1 hc2) (cwV 1 hts gX11_inside_X11_isPlace rfl rfl rfl (by decide +kernel) ⟨Nat.le_of_ble_eq_true rfl, Nat.le_of_ble_eq_true rfl⟩) [0, 1] [] [0, 1] rfl rfl rfl rfl (ci := 10) (q0 := 0) rfl rfl rfl rfl hl.1 (Nat.le_of_ble_eq_true rfl) dX11_inside_2 ⟨Nat.zero_le _, Nat.zero_le _⟩ (fun H locs hP hD hS => ?_)
  refine lv_if_eq (tgt := 16) hx hb dX11_inside_5 (by decide) (fun c5 => ?_) (fun c5 => ?_)
  · replace hm := if_t c5 hm
    refine lv_ldc (v := (-1000000001)) hx hb hown k1 dX11_inside_16 ?_
    cases hm
    exact W_mono hQ (W.iret hx hb hr (fun t ht hW => ⟨⟨_, (), rfl, rfl, by rw [ht]; exact hP, va_K.moved hW.alike hK, hD⟩, hS.F ht⟩) hS.2.2 dX11_inside_18)
  · replace hm := if_f c5 hm
    refine lv_aload_n hx hb dX11_inside_8 rfl (lv_at hl 0 rfl) ?_
    refine lv_iload_n hx hb dX11_inside_9 rfl (lv_at hl 2 rfl) ?_
    obtain ⟨r_2, hc10, hm⟩ := bd1_go hm
    refine my_cVi (As := [.int a2]) (rest := []) (WC := [(h_t, .inr (10, [.ref h_t_w, .int f_t_known, .int f_t_kept, .int f_t_seed, .ref h_t_imageSeed, .ref h_t_bookOf, .ref h_t_bookIs, .int f_t_written, .ref h_t_forms, .int f_t_formRing, .int f_t_formMany, .ref h_t_best, .ref h_t_next, .ref h_t_ways, .ref h_t_round, .ref h_t_roughs, .int f_t_latest])), (h_t_w, .inl (cA, 190, .inl f_t_w))]) (WC' := [(h_t, .inr (10, [.ref h_t_w, .int f_t_known, .int f_t_kept, .int f_t_seed, .ref h_t_imageSeed, .ref h_t_bookOf, .ref h_t_bookIs, .int f_t_written, .ref h_t_forms, .int f_t_formRing, .int f_t_formMany, .ref h_t_best, .ref h_t_next, .ref h_t_ways, .ref h_t_round, .ref h_t_roughs, .int f_t_latest])), (h_t_w, .inl (cA, 190, .inl f_t_w))]) (WR := []) (W' := [(h_t, .inr (10, [.ref h_t_w, .int f_t_known, .int f_t_kept, .int f_t_seed, .ref h_t_imageSeed, .ref h_t_bookOf, .ref h_t_bookIs, .int f_t_written, .ref h_t_forms, .int f_t_formRing, .int f_t_formMany, .ref h_t_best, .ref h_t_next, .ref h_t_ways, .ref h_t_round, .ref h_t_roughs, .int f_t_latest])), (h_t_w, .inl (cA, 190, .inl f_t_w))]) ⟨hx, hb, hml, hown, hts⟩ hK hP hD hS hA (c_Md_isPlace l dC dI cA h_t h_t_w h_t_imageSeed h_t_bookOf h_t_bookIs h_t_forms h_t_best h_t_next h_t_ways h_t_round h_t_roughs f_t_known f_t_kept f_t_seed f_t_written f_t_formRing f_t_formMany f_t_latest f_t_w a2 r_2 hc10) (cwV 1 hts gX11_inside_X11_isPlace rfl rfl rfl (by decide +kernel) ⟨Nat.le_of_ble_eq_true rfl, Nat.le_of_ble_eq_true rfl⟩) [0, 1] [] [0, 1] rfl rfl rfl rfl (ci := 10) (q0 := 0) rfl rfl rfl rfl hl.1 (Nat.le_of_ble_eq_true rfl) dX11_inside_10 ⟨Nat.zero_le _, Nat.zero_le _⟩ (fun H locs hP hD hS => ?_)
    refine lv_if_ne (tgt := 19) hx hb dX11_inside_13 (by decide) (fun c13 => ?_) (fun c13 => ?_)
    · replace hm := if_f c13 hm
      refine lv_aload_n hx hb dX11_inside_19 rfl (lv_at hl 0 rfl) ?_
      refine lv_aload_n hx hb dX11_inside_20 rfl (lv_at hl 0 rfl) ?_
      refine va_get (D := (dC, dI)) (ci := 10) (v := .ref h_t_w) (C := RX11) (T := TX11) (N := 17) hx hb hts uX11 hown hK hP 0 rfl rfl 0 (by decide) k2 (fun _ h9 => h9) rfl dX11_inside_21 ?_
      refine lv_iconst (v := 2) hx hb dX11_inside_24 (by decide) ?_
      refine lv_iload_n hx hb dX11_inside_25 rfl (lv_at hl 2 rfl) ?_
      refine lv_iadd hx hb dX11_inside_26 ?_
      obtain ⟨b27, hm⟩ := ck_go hm
      refine va_iald hx hb hK hP 1 0 rfl rfl b27 dX11_inside_27 ?_
      obtain ⟨r_3, hc28, hm⟩ := bd1_go hm
      refine my_cVi (As := [.int (f_t_w (2 + a2).toNatClampNeg)]) (rest := []) (WC := [(h_t, .inr (10, [.ref h_t_w, .int f_t_known, .int f_t_kept, .int f_t_seed, .ref h_t_imageSeed, .ref h_t_bookOf, .ref h_t_bookIs, .int f_t_written, .ref h_t_forms, .int f_t_formRing, .int f_t_formMany, .ref h_t_best, .ref h_t_next, .ref h_t_ways, .ref h_t_round, .ref h_t_roughs, .int f_t_latest])), (h_t_w, .inl (cA, 190, .inl f_t_w))]) (WC' := [(h_t, .inr (10, [.ref h_t_w, .int f_t_known, .int f_t_kept, .int f_t_seed, .ref h_t_imageSeed, .ref h_t_bookOf, .ref h_t_bookIs, .int f_t_written, .ref h_t_forms, .int f_t_formRing, .int f_t_formMany, .ref h_t_best, .ref h_t_next, .ref h_t_ways, .ref h_t_round, .ref h_t_roughs, .int f_t_latest])), (h_t_w, .inl (cA, 190, .inl f_t_w))]) (WR := []) (W' := [(h_t, .inr (10, [.ref h_t_w, .int f_t_known, .int f_t_kept, .int f_t_seed, .ref h_t_imageSeed, .ref h_t_bookOf, .ref h_t_bookIs, .int f_t_written, .ref h_t_forms, .int f_t_formRing, .int f_t_formMany, .ref h_t_best, .ref h_t_next, .ref h_t_ways, .ref h_t_round, .ref h_t_roughs, .int f_t_latest])), (h_t_w, .inl (cA, 190, .inl f_t_w))]) ⟨hx, hb, hml, hown, hts⟩ hK hP hD hS hA (c_Md_formOf l dC dI cA fu h_t h_t_w h_t_imageSeed h_t_bookOf h_t_bookIs h_t_forms h_t_best h_t_next h_t_ways h_t_round h_t_roughs f_t_known f_t_kept f_t_seed f_t_written f_t_formRing f_t_formMany f_t_latest f_t_w (f_t_w (2 + a2).toNatClampNeg) r_3 hc28) (cwV 1 hts gX11_inside_X11_formOf rfl rfl rfl (by decide +kernel) ⟨Nat.le_of_ble_eq_true rfl, Nat.le_of_ble_eq_true rfl⟩) [0, 1] [] [0, 1] rfl rfl rfl rfl (ci := 10) (q0 := 0) rfl rfl rfl rfl hl.1 (Nat.le_of_ble_eq_true rfl) dX11_inside_28 ⟨Nat.zero_le _, Nat.zero_le _⟩ (fun H locs hP hD hS => ?_)
      refine lv_topi (fun v3_1 ev3_1 => ?_)
      replace hm := lt_go ev3_1 hm
      refine lv_istore_n (lv' := [(3, .int v3_1), (0, .ref h_t), (1, .int a1), (2, .int a2)]) hx hb dX11_inside_31 rfl hl (by decide) rfl (fun ls hl => ?_)
      refine lv_iconst (v := 0) hx hb dX11_inside_32 (by decide) ?_
      refine lv_topi (fun v4_1 ev4_1 => ?_)
      replace hm := lt_go ev4_1 hm
      refine lv_istore (lv' := [(4, .int v4_1), (3, .int v3_1), (0, .ref h_t), (1, .int a1), (2, .int a2)]) hx hb dX11_inside_33 hl (by decide) rfl (fun ls hl => ?_)
      refine lv_iconst (v := 0) hx hb dX11_inside_35 (by decide) ?_
      refine lv_topi (fun v5_1 ev5_1 => ?_)
      replace hm := lt_go ev5_1 hm
      refine lv_istore (lv' := [(5, .int v5_1), (4, .int v4_1), (3, .int v3_1), (0, .ref h_t), (1, .int a1), (2, .int a2)]) hx hb dX11_inside_36 hl (by decide) rfl (fun ls hl => ?_)
      have L38 : ∀ (n : Nat) (v4_2 : Int32) (v5_2 : Int32) (v4_3 : Int32), m_Md_inside_L38 fu a1 f_t_w v3_1 n v4_2 v5_2 = some v4_3 → ∀ (H : Heap) (locs : List Loc), va_P (dC, dI) vwCl [(h_t, .inr (10, [.ref h_t_w, .int f_t_known, .int f_t_kept, .int f_t_seed, .ref h_t_imageSeed, .ref h_t_bookOf, .ref h_t_bookIs, .int f_t_written, .ref h_t_forms, .int f_t_formRing, .int f_t_formMany, .ref h_t_best, .ref h_t_next, .ref h_t_ways, .ref h_t_round, .ref h_t_roughs, .int f_t_latest])), (h_t_w, .inl (cA, 190, .inl f_t_w))] H → va_D A [(h_t, .inr (10, [.ref h_t_w, .int f_t_known, .int f_t_kept, .int f_t_seed, .ref h_t_imageSeed, .ref h_t_bookOf, .ref h_t_bookIs, .int f_t_written, .ref h_t_forms, .int f_t_formRing, .int f_t_formMany, .ref h_t_best, .ref h_t_next, .ref h_t_ways, .ref h_t_round, .ref h_t_roughs, .int f_t_latest])), (h_t_w, .inl (cA, 190, .inl f_t_w))] → va_S A s.heap H locs → ∀ ls : Array Slot, lv_has ls 7 [(0, .ref h_t), (1, .int a1), (3, .int v3_1), (4, .int v4_2), (5, .int v5_2)] → (∀ (H : Heap) (locs : List Loc), va_P (dC, dI) vwCl [(h_t, .inr (10, [.ref h_t_w, .int f_t_known, .int f_t_kept, .int f_t_seed, .ref h_t_imageSeed, .ref h_t_bookOf, .ref h_t_bookIs, .int f_t_written, .ref h_t_forms, .int f_t_formRing, .int f_t_formMany, .ref h_t_best, .ref h_t_next, .ref h_t_ways, .ref h_t_round, .ref h_t_roughs, .int f_t_latest])), (h_t_w, .inl (cA, 190, .inl f_t_w))] H → va_D A [(h_t, .inr (10, [.ref h_t_w, .int f_t_known, .int f_t_kept, .int f_t_seed, .ref h_t_imageSeed, .ref h_t_bookOf, .ref h_t_bookIs, .int f_t_written, .ref h_t_forms, .int f_t_formRing, .int f_t_formMany, .ref h_t_best, .ref h_t_next, .ref h_t_ways, .ref h_t_round, .ref h_t_roughs, .int f_t_latest])), (h_t_w, .inl (cA, 190, .inl f_t_w))] → va_S A s.heap H locs → ∀ ls : Array Slot, lv_has ls 7 [(4, .int v4_3)] → W p l e (headSpec wsX11_inside rmX11_inside).room s m (([.ref h_t, .int a1, .int a2] : List Value).toArray) below meth c H locs 0 0 Q (F0 m 117 ls [])) → W p l e (headSpec wsX11_inside rmX11_inside).room s m (([.ref h_t, .int a1, .int a2] : List Value).toArray) below meth c H locs 0 0 Q (F0 m 38 ls []) := by
        clear hm hP hD hS hl
        intro n
        induction n with
        | zero => intro _ _ _ hm; exact nomatch (show none = some _ from hm)
        | succ n ih =>
          intro v4_2 v5_2 v4_3 hm H locs hP hD hS ls hl KK
          unfold m_Md_inside_L38 at hm
          refine lv_iload hx hb dX11_inside_38 (lv_at hl 4 rfl) ?_
          refine lv_aload_n hx hb dX11_inside_40 rfl (lv_at hl 0 rfl) ?_
          refine va_get (D := (dC, dI)) (ci := 10) (v := .ref h_t_w) (C := RX11) (T := TX11) (N := 17) hx hb hts uX11 hown hK hP 0 rfl rfl 0 (by decide) k2 (fun _ h9 => h9) rfl dX11_inside_41 ?_
          refine lv_iconst (v := 2) hx hb dX11_inside_44 (by decide) ?_
          refine lv_iload_n hx hb dX11_inside_45 rfl (lv_at hl 1 rfl) ?_
          refine lv_iadd hx hb dX11_inside_46 ?_
          obtain ⟨b47, hm⟩ := ck_go hm
          refine va_iald hx hb hK hP 1 0 rfl rfl b47 dX11_inside_47 ?_
          refine lv_icmp_gt (tgt := 117) hx hb dX11_inside_48 (by decide) (fun c48 => ?_) (fun c48 => ?_)
          · replace hm := if_t c48 hm
            cases hm
            exact KK _ _ hP hD hS _ (lv_sub hl [3] rfl)
          · replace hm := if_f c48 hm
            refine lv_iload hx hb dX11_inside_51 (lv_at hl 4 rfl) ?_
            refine lv_aload_n hx hb dX11_inside_53 rfl (lv_at hl 0 rfl) ?_
            refine va_get (D := (dC, dI)) (ci := 10) (v := .ref h_t_w) (C := RX11) (T := TX11) (N := 17) hx hb hts uX11 hown hK hP 0 rfl rfl 0 (by decide) k2 (fun _ h9 => h9) rfl dX11_inside_54 ?_
            refine lv_iconst (v := 2) hx hb dX11_inside_57 (by decide) ?_
            refine lv_iload_n hx hb dX11_inside_58 rfl (lv_at hl 1 rfl) ?_
            refine lv_iadd hx hb dX11_inside_59 ?_
            obtain ⟨b60, hm⟩ := ck_go hm
            refine va_iald hx hb hK hP 1 0 rfl rfl b60 dX11_inside_60 ?_
            refine lv_iand hx hb dX11_inside_61 ?_
            refine lv_iload hx hb dX11_inside_62 (lv_at hl 4 rfl) ?_
            obtain ⟨q84_1, hqJ_1, hm⟩ := bd1_go hm
            have J_1 : ∀ (H : Heap) (locs : List Loc), va_P (dC, dI) vwCl [(h_t, .inr (10, [.ref h_t_w, .int f_t_known, .int f_t_kept, .int f_t_seed, .ref h_t_imageSeed, .ref h_t_bookOf, .ref h_t_bookIs, .int f_t_written, .ref h_t_forms, .int f_t_formRing, .int f_t_formMany, .ref h_t_best, .ref h_t_next, .ref h_t_ways, .ref h_t_round, .ref h_t_roughs, .int f_t_latest])), (h_t_w, .inl (cA, 190, .inl f_t_w))] H → va_D A [(h_t, .inr (10, [.ref h_t_w, .int f_t_known, .int f_t_kept, .int f_t_seed, .ref h_t_imageSeed, .ref h_t_bookOf, .ref h_t_bookIs, .int f_t_written, .ref h_t_forms, .int f_t_formRing, .int f_t_formMany, .ref h_t_best, .ref h_t_next, .ref h_t_ways, .ref h_t_round, .ref h_t_roughs, .int f_t_latest])), (h_t_w, .inl (cA, 190, .inl f_t_w))] → va_S A s.heap H locs → ∀ ls : Array Slot, lv_has ls 7 [(0, .ref h_t), (1, .int a1), (3, .int v3_1), (4, .int v4_2), (5, .int v5_2)] → W p l e (headSpec wsX11_inside rmX11_inside).room s m (([.ref h_t, .int a1, .int a2] : List Value).toArray) below meth c H locs 0 0 Q (F0 m 84 ls [.int q84_1]) := by
              intro H locs hP hD hS ls hl
              clear hqJ_1
              refine lv_topi (fun v6_1 ev6_1 => ?_)
              replace hm := lt_go ev6_1 hm
              refine lv_istore (lv' := [(6, .int v6_1), (0, .ref h_t), (1, .int a1), (3, .int v3_1), (4, .int v4_2), (5, .int v5_2)]) hx hb dX11_inside_84 hl (by decide) rfl (fun ls hl => ?_)
              refine lv_iload hx hb dX11_inside_86 (lv_at hl 4 rfl) ?_
              refine lv_iload hx hb dX11_inside_88 (lv_at hl 0 rfl) ?_
              obtain ⟨q108_1, hqJ_2, hm⟩ := bd1_go hm
              have J_2 : ∀ (H : Heap) (locs : List Loc), va_P (dC, dI) vwCl [(h_t, .inr (10, [.ref h_t_w, .int f_t_known, .int f_t_kept, .int f_t_seed, .ref h_t_imageSeed, .ref h_t_bookOf, .ref h_t_bookIs, .int f_t_written, .ref h_t_forms, .int f_t_formRing, .int f_t_formMany, .ref h_t_best, .ref h_t_next, .ref h_t_ways, .ref h_t_round, .ref h_t_roughs, .int f_t_latest])), (h_t_w, .inl (cA, 190, .inl f_t_w))] H → va_D A [(h_t, .inr (10, [.ref h_t_w, .int f_t_known, .int f_t_kept, .int f_t_seed, .ref h_t_imageSeed, .ref h_t_bookOf, .ref h_t_bookIs, .int f_t_written, .ref h_t_forms, .int f_t_formRing, .int f_t_formMany, .ref h_t_best, .ref h_t_next, .ref h_t_ways, .ref h_t_round, .ref h_t_roughs, .int f_t_latest])), (h_t_w, .inl (cA, 190, .inl f_t_w))] → va_S A s.heap H locs → ∀ ls : Array Slot, lv_has ls 7 [(0, .ref h_t), (1, .int a1), (3, .int v3_1), (5, .int v5_2)] → W p l e (headSpec wsX11_inside rmX11_inside).room s m (([.ref h_t, .int a1, .int a2] : List Value).toArray) below meth c H locs 0 0 Q (F0 m 108 ls [.int q108_1, .int v4_2]) := by
                intro H locs hP hD hS ls hl
                clear hqJ_2
                refine lv_iadd hx hb dX11_inside_108 ?_
                refine lv_topi (fun v4_4 ev4_4 => ?_)
                replace hm := lt_go ev4_4 hm
                refine lv_istore (lv' := [(4, .int v4_4), (0, .ref h_t), (1, .int a1), (3, .int v3_1), (5, .int v5_2)]) hx hb dX11_inside_109 hl (by decide) rfl (fun ls hl => ?_)
                obtain ⟨v5_3, ev5_3⟩ : ∃ z : Int32, z = v5_2 + 1 := ⟨_, rfl⟩
                replace hm := lt_go ev5_3 hm
                refine lv_iinc (v := v5_3) (lv' := [(5, .int v5_3), (4, .int v4_4), (0, .ref h_t), (1, .int a1), (3, .int v3_1)]) hx hb dX11_inside_111 hl (k := 4) rfl (by rw [ev5_3]; rfl) (by decide) rfl (fun ls hl => ?_)
                refine lv_goto (tgt := 38) hx hb dX11_inside_114 (by decide) ?_
                exact ih _ _ _ hm _ _ hP hD hS _ (lv_sub hl [2, 3, 4, 1, 0] rfl) KK
              clear hm
              refine lv_if_eq (tgt := 107) hx hb dX11_inside_90 (by decide) (fun c90 => ?_) (fun c90 => ?_)
              · replace hqJ_2 := if_t c90 hqJ_2
                refine lv_iconst (v := 0) hx hb dX11_inside_107 (by decide) ?_
                cases hqJ_2
                exact J_2 _ _ hP hD hS _ (lv_sub hl [1, 2, 3, 5] rfl)
              · replace hqJ_2 := if_f c90 hqJ_2
                refine lv_aload_n hx hb dX11_inside_93 rfl (lv_at hl 1 rfl) ?_
                refine lv_iload hx hb dX11_inside_94 (lv_at hl 5 rfl) ?_
                obtain ⟨r_6, hc96, hqJ_2⟩ := bd1_go hqJ_2
                refine my_cVi (As := [.int v5_2]) (rest := [.int v4_2]) (WC := [(h_t, .inr (10, [.ref h_t_w, .int f_t_known, .int f_t_kept, .int f_t_seed, .ref h_t_imageSeed, .ref h_t_bookOf, .ref h_t_bookIs, .int f_t_written, .ref h_t_forms, .int f_t_formRing, .int f_t_formMany, .ref h_t_best, .ref h_t_next, .ref h_t_ways, .ref h_t_round, .ref h_t_roughs, .int f_t_latest])), (h_t_w, .inl (cA, 190, .inl f_t_w))]) (WC' := [(h_t, .inr (10, [.ref h_t_w, .int f_t_known, .int f_t_kept, .int f_t_seed, .ref h_t_imageSeed, .ref h_t_bookOf, .ref h_t_bookIs, .int f_t_written, .ref h_t_forms, .int f_t_formRing, .int f_t_formMany, .ref h_t_best, .ref h_t_next, .ref h_t_ways, .ref h_t_round, .ref h_t_roughs, .int f_t_latest])), (h_t_w, .inl (cA, 190, .inl f_t_w))]) (WR := []) (W' := [(h_t, .inr (10, [.ref h_t_w, .int f_t_known, .int f_t_kept, .int f_t_seed, .ref h_t_imageSeed, .ref h_t_bookOf, .ref h_t_bookIs, .int f_t_written, .ref h_t_forms, .int f_t_formRing, .int f_t_formMany, .ref h_t_best, .ref h_t_next, .ref h_t_ways, .ref h_t_round, .ref h_t_roughs, .int f_t_latest])), (h_t_w, .inl (cA, 190, .inl f_t_w))]) ⟨hx, hb, hml, hown, hts⟩ hK hP hD hS hA (c_Md_formOf l dC dI cA fu h_t h_t_w h_t_imageSeed h_t_bookOf h_t_bookIs h_t_forms h_t_best h_t_next h_t_ways h_t_round h_t_roughs f_t_known f_t_kept f_t_seed f_t_written f_t_formRing f_t_formMany f_t_latest f_t_w v5_2 r_6 hc96) (cwV 1 hts gX11_inside_X11_formOf rfl rfl rfl (by decide +kernel) ⟨Nat.le_of_ble_eq_true rfl, Nat.le_of_ble_eq_true rfl⟩) [0, 1] [] [0, 1] rfl rfl rfl rfl (ci := 10) (q0 := 0) rfl rfl rfl rfl hl.1 (Nat.le_of_ble_eq_true rfl) dX11_inside_96 ⟨Nat.zero_le _, Nat.zero_le _⟩ (fun H locs hP hD hS => ?_)
                refine lv_iload_n hx hb dX11_inside_99 rfl (lv_at hl 3 rfl) ?_
                refine lv_icmp_ne (tgt := 107) hx hb dX11_inside_100 (by decide) (fun c100 => ?_) (fun c100 => ?_)
                · replace hqJ_2 := if_f c100 hqJ_2
                  refine lv_iconst (v := 0) hx hb dX11_inside_107 (by decide) ?_
                  cases hqJ_2
                  exact J_2 _ _ hP hD hS _ (lv_sub hl [1, 2, 3, 5] rfl)
                · replace hqJ_2 := if_t c100 hqJ_2
                  refine lv_iconst (v := 1) hx hb dX11_inside_103 (by decide) ?_
                  refine lv_goto (tgt := 108) hx hb dX11_inside_104 (by decide) ?_
                  cases hqJ_2
                  exact J_2 _ _ hP hD hS _ (lv_sub hl [1, 2, 3, 5] rfl)
            clear hm
            refine lv_icmp_ne (tgt := 83) hx hb dX11_inside_64 (by decide) (fun c64 => ?_) (fun c64 => ?_)
            · replace hqJ_1 := if_f c64 hqJ_1
              refine lv_iconst (v := 0) hx hb dX11_inside_83 (by decide) ?_
              cases hqJ_1
              exact J_1 _ _ hP hD hS _ (lv_sub hl [0, 1, 2, 3, 4] rfl)
            · replace hqJ_1 := if_t c64 hqJ_1
              refine lv_iload hx hb dX11_inside_67 (lv_at hl 4 rfl) ?_
              obtain ⟨r_4, hc69, hqJ_1⟩ := bd1_go hqJ_1
              refine my_cSi (As := [.int v5_2]) (rest := []) (WC := []) (WC' := []) (WR := [(h_t, .inr (10, [.ref h_t_w, .int f_t_known, .int f_t_kept, .int f_t_seed, .ref h_t_imageSeed, .ref h_t_bookOf, .ref h_t_bookIs, .int f_t_written, .ref h_t_forms, .int f_t_formRing, .int f_t_formMany, .ref h_t_best, .ref h_t_next, .ref h_t_ways, .ref h_t_round, .ref h_t_roughs, .int f_t_latest])), (h_t_w, .inl (cA, 190, .inl f_t_w))]) (W' := [(h_t, .inr (10, [.ref h_t_w, .int f_t_known, .int f_t_kept, .int f_t_seed, .ref h_t_imageSeed, .ref h_t_bookOf, .ref h_t_bookIs, .int f_t_written, .ref h_t_forms, .int f_t_formRing, .int f_t_formMany, .ref h_t_best, .ref h_t_next, .ref h_t_ways, .ref h_t_round, .ref h_t_roughs, .int f_t_latest])), (h_t_w, .inl (cA, 190, .inl f_t_w))]) ⟨hx, hb, hml, hown, hts⟩ hK hP hD hS hA (c_Md_ones l dC dI cA fu v5_2 r_4 hc69) (va_cwS 1 hts gX11_inside_X11_ones rfl rfl rfl (by decide +kernel) ⟨Nat.le_of_ble_eq_true rfl, Nat.le_of_ble_eq_true rfl⟩) [] [0, 1] [0, 1] rfl rfl rfl rfl rfl rfl hl.1 (Nat.le_of_ble_eq_true rfl) dX11_inside_69 ⟨Nat.zero_le _, Nat.zero_le _⟩ (fun H locs hP hD hS => ?_)
              refine lv_iload_n hx hb dX11_inside_72 rfl (lv_at hl 2 rfl) ?_
              obtain ⟨r_5, hc73, hqJ_1⟩ := bd1_go hqJ_1
              refine my_cSi (As := [.int v3_1]) (rest := [.int r_4]) (WC := []) (WC' := []) (WR := [(h_t, .inr (10, [.ref h_t_w, .int f_t_known, .int f_t_kept, .int f_t_seed, .ref h_t_imageSeed, .ref h_t_bookOf, .ref h_t_bookIs, .int f_t_written, .ref h_t_forms, .int f_t_formRing, .int f_t_formMany, .ref h_t_best, .ref h_t_next, .ref h_t_ways, .ref h_t_round, .ref h_t_roughs, .int f_t_latest])), (h_t_w, .inl (cA, 190, .inl f_t_w))]) (W' := [(h_t, .inr (10, [.ref h_t_w, .int f_t_known, .int f_t_kept, .int f_t_seed, .ref h_t_imageSeed, .ref h_t_bookOf, .ref h_t_bookIs, .int f_t_written, .ref h_t_forms, .int f_t_formRing, .int f_t_formMany, .ref h_t_best, .ref h_t_next, .ref h_t_ways, .ref h_t_round, .ref h_t_roughs, .int f_t_latest])), (h_t_w, .inl (cA, 190, .inl f_t_w))]) ⟨hx, hb, hml, hown, hts⟩ hK hP hD hS hA (c_Md_ones l dC dI cA fu v3_1 r_5 hc73) (va_cwS 1 hts gX11_inside_X11_ones rfl rfl rfl (by decide +kernel) ⟨Nat.le_of_ble_eq_true rfl, Nat.le_of_ble_eq_true rfl⟩) [] [0, 1] [0, 1] rfl rfl rfl rfl rfl rfl hl.1 (Nat.le_of_ble_eq_true rfl) dX11_inside_73 ⟨Nat.zero_le _, Nat.zero_le _⟩ (fun H locs hP hD hS => ?_)
              refine lv_icmp_ne (tgt := 83) hx hb dX11_inside_76 (by decide) (fun c76 => ?_) (fun c76 => ?_)
              · replace hqJ_1 := if_f c76 hqJ_1
                refine lv_iconst (v := 0) hx hb dX11_inside_83 (by decide) ?_
                cases hqJ_1
                exact J_1 _ _ hP hD hS _ (lv_sub hl [0, 1, 2, 3, 4] rfl)
              · replace hqJ_1 := if_t c76 hqJ_1
                refine lv_iconst (v := 1) hx hb dX11_inside_79 (by decide) ?_
                refine lv_goto (tgt := 84) hx hb dX11_inside_80 (by decide) ?_
                cases hqJ_1
                exact J_1 _ _ hP hD hS _ (lv_sub hl [0, 1, 2, 3, 4] rfl)
      obtain ⟨v4_5, hl38, hm⟩ := bd1_go hm
      refine L38 _ _ _ _ hl38 _ _ hP hD hS _ (lv_sub hl [3, 4, 2, 1, 0] rfl) (fun H locs hP hD hS ls hl => ?_)
      refine lv_iload hx hb dX11_inside_117 (lv_at hl 0 rfl) ?_
      cases hm
      exact W_mono hQ (W.iret hx hb hr (fun t ht hW => ⟨⟨_, (), rfl, rfl, by rw [ht]; exact hP, va_K.moved hW.alike hK, hD⟩, hS.F ht⟩) hS.2.2 dX11_inside_119)
    · replace hm := if_t c13 hm
      refine lv_ldc (v := (-1000000001)) hx hb hown k1 dX11_inside_16 ?_
      cases hm
      exact W_mono hQ (W.iret hx hb hr (fun t ht hW => ⟨⟨_, (), rfl, rfl, by rw [ht]; exact hP, va_K.moved hW.alike hK, hD⟩, hS.F ht⟩) hS.2.2 dX11_inside_18)
abbrev rmX11_interval : Room := { frames := 3, cells := 0, slots := 0, locals := 68 }
theorem uX11_X11_interval : ∀ w ∈ wsX110, w ∈ wsX11_interval := fun _ h => List.mem_cons_of_mem _ (List.mem_append_right _ (h))
set_option maxHeartbeats 40000000 in
set_option maxRecDepth 100000 in
theorem c_Md_interval (l : Launch) (dC : Nat → ClassId) (dI : Nat → Nat → Nat) (cA : ClassId) (fu : Nat) (h_t h_t_w h_t_imageSeed h_t_bookOf h_t_bookIs h_t_forms h_t_best h_t_next h_t_ways h_t_round h_t_roughs : Nat) (f_t_known : Int32) (f_t_kept : Int32) (f_t_seed : Int32) (f_t_written : Int32) (f_t_formRing : Int32) (f_t_formMany : Int32) (f_t_latest : Int32) (f_t_w : Nat → Int32) (a1 : Int32) (a2 : Int32) (r0 : Int32) (hm : m_Md_interval fu f_t_w a1 a2 = some r0) (sz : Nat) : Met l yX11_interval wsX11_interval rmX11_interval (mPre (dC, dI) cA [.ref h_t, .int a1, .int a2] sz [(h_t, .inr (10, [.ref h_t_w, .int f_t_known, .int f_t_kept, .int f_t_seed, .ref h_t_imageSeed, .ref h_t_bookOf, .ref h_t_bookIs, .int f_t_written, .ref h_t_forms, .int f_t_formRing, .int f_t_formMany, .ref h_t_best, .ref h_t_next, .ref h_t_ways, .ref h_t_round, .ref h_t_roughs, .int f_t_latest])), (h_t_w, .inl (cA, 190, .inl f_t_w))]) (mPosI (dC, dI) cA r0 (va_A [(h_t, .inr (10, [.ref h_t_w, .int f_t_known, .int f_t_kept, .int f_t_seed, .ref h_t_imageSeed, .ref h_t_bookOf, .ref h_t_bookIs, .int f_t_written, .ref h_t_forms, .int f_t_formRing, .int f_t_formMany, .ref h_t_best, .ref h_t_next, .ref h_t_ways, .ref h_t_round, .ref h_t_roughs, .int f_t_latest])), (h_t_w, .inl (cA, 190, .inl f_t_w))] sz) [(h_t, .inr (10, [.ref h_t_w, .int f_t_known, .int f_t_kept, .int f_t_seed, .ref h_t_imageSeed, .ref h_t_bookOf, .ref h_t_bookIs, .int f_t_written, .ref h_t_forms, .int f_t_formRing, .int f_t_formMany, .ref h_t_best, .ref h_t_next, .ref h_t_ways, .ref h_t_round, .ref h_t_roughs, .int f_t_latest])), (h_t_w, .inl (cA, 190, .inl f_t_w))]) 0 0 (va_A [(h_t, .inr (10, [.ref h_t_w, .int f_t_known, .int f_t_kept, .int f_t_seed, .ref h_t_imageSeed, .ref h_t_bookOf, .ref h_t_bookIs, .int f_t_written, .ref h_t_forms, .int f_t_formRing, .int f_t_formMany, .ref h_t_best, .ref h_t_next, .ref h_t_ways, .ref h_t_round, .ref h_t_roughs, .int f_t_latest])), (h_t_w, .inl (cA, 190, .inl f_t_w))] sz) := by
  refine Met.ofW (cc := cX11_interval) (maxL := 3) (ret := (some .int)) (by decide) rfl ?_
  intro p e s m args below meth c s₁ B hml hv
  obtain ⟨rfl, hsz, hP, hK, hD0⟩ := hv
  refine W_gen (fun Q hQ => ?_)
  have hx := B.exec
  have hb := B.bytes
  have hr := B.returns
  have hts := atoms_spec (ws := wsX11_interval) B.pre
  have hown : s.vm.findClass RX11 = some m.cls := findClass_of_methodNamed B.named
  have hlocks := B.notSynchronized
  subst hsz
  have hD := hD0.self (sz := s.heap.size)
  clear hD0
  generalize hAe : va_A [(h_t, .inr (10, [.ref h_t_w, .int f_t_known, .int f_t_kept, .int f_t_seed, .ref h_t_imageSeed, .ref h_t_bookOf, .ref h_t_bookIs, .int f_t_written, .ref h_t_forms, .int f_t_formRing, .int f_t_formMany, .ref h_t_best, .ref h_t_next, .ref h_t_ways, .ref h_t_round, .ref h_t_roughs, .int f_t_latest])), (h_t_w, .inl (cA, 190, .inl f_t_w))] s.heap.size = A at hD hQ
  have hA : ∀ q : Nat, s.heap.size ≤ q → A q := fun q h => by rw [← hAe]; exact Or.inr h
  clear hAe
  have hS : va_S A s.heap s.heap [] := va_S.rf
  have hl := lv_entry ([.ref h_t, .int a1, .int a2]) (n := 3) (Nat.le_of_ble_eq_true rfl)
  rw [lg_entry_eq]
  generalize (lg_sl ([.ref h_t, .int a1, .int a2]) ++ List.replicate (3 - (lg_sl ([.ref h_t, .int a1, .int a2])).length) Slot.unset).toArray = ls at hl ⊢
  have hl : lv_has ls 3 [(0, .ref h_t), (1, .int a1), (2, .int a2)] := hl
  have k3 := hts (.constant RX11 143 (-1000000002)) (List.mem_of_getElem? (i := 3) rfl)
  have k2 := hts (.fieldLink RX11 7 "ToneSetsModel" "w" "[I") (List.mem_of_getElem? (i := 2) rfl)
  have k1 := hts (.constant RX11 144 (-1000000001)) (List.mem_of_getElem? (i := 1) rfl)
  have uX11 := uX11_X11_interval
  unfold m_Md_interval at hm
  refine lv_aload_n hx hb dX11_interval_0 rfl (lv_at hl 0 rfl) ?_
  refine lv_iload_n hx hb dX11_interval_1 rfl (lv_at hl 1 rfl) ?_
  obtain ⟨r_1, hc2, hm⟩ := bd1_go hm
  refine my_cVi (As := [.int a1]) (rest := []) (WC := [(h_t, .inr (10, [.ref h_t_w, .int f_t_known, .int f_t_kept, .int f_t_seed, .ref h_t_imageSeed, .ref h_t_bookOf, .ref h_t_bookIs, .int f_t_written, .ref h_t_forms, .int f_t_formRing, .int f_t_formMany, .ref h_t_best, .ref h_t_next, .ref h_t_ways, .ref h_t_round, .ref h_t_roughs, .int f_t_latest])), (h_t_w, .inl (cA, 190, .inl f_t_w))]) (WC' := [(h_t, .inr (10, [.ref h_t_w, .int f_t_known, .int f_t_kept, .int f_t_seed, .ref h_t_imageSeed, .ref h_t_bookOf, .ref h_t_bookIs, .int f_t_written, .ref h_t_forms, .int f_t_formRing, .int f_t_formMany, .ref h_t_best, .ref h_t_next, .ref h_t_ways, .ref h_t_round, .ref h_t_roughs, .int f_t_latest])), (h_t_w, .inl (cA, 190, .inl f_t_w))]) (WR := []) (W' := [(h_t, .inr (10, [.ref h_t_w, .int f_t_known, .int f_t_kept, .int f_t_seed, .ref h_t_imageSeed, .ref h_t_bookOf, .ref h_t_bookIs, .int f_t_written, .ref h_t_forms, .int f_t_formRing, .int f_t_formMany, .ref h_t_best, .ref h_t_next, .ref h_t_ways, .ref h_t_round, .ref h_t_roughs, .int f_t_latest])), (h_t_w, .inl (cA, 190, .inl f_t_w))]) ⟨hx, hb, hml, hown, hts⟩ hK hP hD hS hA (c_Md_isPlace l dC dI cA h_t h_t_w h_t_imageSeed h_t_bookOf h_t_bookIs h_t_forms h_t_best h_t_next h_t_ways h_t_round h_t_roughs f_t_known f_t_kept f_t_seed f_t_written f_t_formRing f_t_formMany f_t_latest f_t_w a1 r_1 hc2) (cwV 1 hts gX11_interval_X11_isPlace rfl rfl rfl (by decide +kernel) ⟨Nat.le_of_ble_eq_true rfl, Nat.le_of_ble_eq_true rfl⟩) [0, 1] [] [0, 1] rfl rfl rfl rfl (ci := 10) (q0 := 0) rfl rfl rfl rfl hl.1 (Nat.le_of_ble_eq_true rfl) dX11_interval_2 ⟨Nat.zero_le _, Nat.zero_le _⟩ (fun H locs hP hD hS => ?_)
  refine lv_if_ne (tgt := 11) hx hb dX11_interval_5 (by decide) (fun c5 => ?_) (fun c5 => ?_)
  · replace hm := if_f c5 hm
    refine lv_iload_n hx hb dX11_interval_11 rfl (lv_at hl 2 rfl) ?_
    refine lv_i2l (v := Int32.toInt64 a2) hx hb dX11_interval_12 rfl ?_
    refine lv_lconst (v := 1) hx hb dX11_interval_13 (by decide) ?_
    refine lv_aload_n hx hb dX11_interval_14 rfl (lv_at hl 0 rfl) ?_
    obtain ⟨r_2, hc15, hm⟩ := bd1_go hm
    refine my_cVi (As := []) (rest := [.long 1, .long (Int32.toInt64 a2)]) (WC := [(h_t, .inr (10, [.ref h_t_w, .int f_t_known, .int f_t_kept, .int f_t_seed, .ref h_t_imageSeed, .ref h_t_bookOf, .ref h_t_bookIs, .int f_t_written, .ref h_t_forms, .int f_t_formRing, .int f_t_formMany, .ref h_t_best, .ref h_t_next, .ref h_t_ways, .ref h_t_round, .ref h_t_roughs, .int f_t_latest])), (h_t_w, .inl (cA, 190, .inl f_t_w))]) (WC' := [(h_t, .inr (10, [.ref h_t_w, .int f_t_known, .int f_t_kept, .int f_t_seed, .ref h_t_imageSeed, .ref h_t_bookOf, .ref h_t_bookIs, .int f_t_written, .ref h_t_forms, .int f_t_formRing, .int f_t_formMany, .ref h_t_best, .ref h_t_next, .ref h_t_ways, .ref h_t_round, .ref h_t_roughs, .int f_t_latest])), (h_t_w, .inl (cA, 190, .inl f_t_w))]) (WR := []) (W' := [(h_t, .inr (10, [.ref h_t_w, .int f_t_known, .int f_t_kept, .int f_t_seed, .ref h_t_imageSeed, .ref h_t_bookOf, .ref h_t_bookIs, .int f_t_written, .ref h_t_forms, .int f_t_formRing, .int f_t_formMany, .ref h_t_best, .ref h_t_next, .ref h_t_ways, .ref h_t_round, .ref h_t_roughs, .int f_t_latest])), (h_t_w, .inl (cA, 190, .inl f_t_w))]) ⟨hx, hb, hml, hown, hts⟩ hK hP hD hS hA (c_Md_m l dC dI cA h_t h_t_w h_t_imageSeed h_t_bookOf h_t_bookIs h_t_forms h_t_best h_t_next h_t_ways h_t_round h_t_roughs f_t_known f_t_kept f_t_seed f_t_written f_t_formRing f_t_formMany f_t_latest f_t_w r_2 hc15) (cwV 0 hts gX11_interval_X11_m rfl rfl rfl (by decide +kernel) ⟨Nat.le_of_ble_eq_true rfl, Nat.le_of_ble_eq_true rfl⟩) [0, 1] [] [0, 1] rfl rfl rfl rfl (ci := 10) (q0 := 0) rfl rfl rfl rfl hl.1 (Nat.le_of_ble_eq_true rfl) dX11_interval_15 ⟨Nat.zero_le _, Nat.zero_le _⟩ (fun H locs hP hD hS => ?_)
    refine lv_iconst (v := 2) hx hb dX11_interval_18 (by decide) ?_
    refine lv_idiv hx hb dX11_interval_19 (by decide) ?_
    refine lv_i2l (v := Int32.toInt64 (r_2 / 2)) hx hb dX11_interval_20 rfl ?_
    obtain ⟨r_3, hc21, hm⟩ := bd1_go hm
    refine my_cSi (As := [.long (Int32.toInt64 a2), .long 1, .long (Int32.toInt64 (r_2 / 2))]) (rest := []) (WC := []) (WC' := []) (WR := [(h_t, .inr (10, [.ref h_t_w, .int f_t_known, .int f_t_kept, .int f_t_seed, .ref h_t_imageSeed, .ref h_t_bookOf, .ref h_t_bookIs, .int f_t_written, .ref h_t_forms, .int f_t_formRing, .int f_t_formMany, .ref h_t_best, .ref h_t_next, .ref h_t_ways, .ref h_t_round, .ref h_t_roughs, .int f_t_latest])), (h_t_w, .inl (cA, 190, .inl f_t_w))]) (W' := [(h_t, .inr (10, [.ref h_t_w, .int f_t_known, .int f_t_kept, .int f_t_seed, .ref h_t_imageSeed, .ref h_t_bookOf, .ref h_t_bookIs, .int f_t_written, .ref h_t_forms, .int f_t_formRing, .int f_t_formMany, .ref h_t_best, .ref h_t_next, .ref h_t_ways, .ref h_t_round, .ref h_t_roughs, .int f_t_latest])), (h_t_w, .inl (cA, 190, .inl f_t_w))]) ⟨hx, hb, hml, hown, hts⟩ hK hP hD hS hA (c_Md_in l dC dI cA (Int32.toInt64 a2) 1 (Int32.toInt64 (r_2 / 2)) r_3 hc21) (va_cwS 3 hts gX11_interval_X11_in rfl rfl rfl (by decide +kernel) ⟨Nat.le_of_ble_eq_true rfl, Nat.le_of_ble_eq_true rfl⟩) [] [0, 1] [0, 1] rfl rfl rfl rfl rfl rfl hl.1 (Nat.le_of_ble_eq_true rfl) dX11_interval_21 ⟨Nat.zero_le _, Nat.zero_le _⟩ (fun H locs hP hD hS => ?_)
    refine lv_if_eq (tgt := 43) hx hb dX11_interval_24 (by decide) (fun c24 => ?_) (fun c24 => ?_)
    · replace hm := if_t c24 hm
      refine lv_ldc (v := (-1000000002)) hx hb hown k3 dX11_interval_43 ?_
      cases hm
      exact W_mono hQ (W.iret hx hb hr (fun t ht hW => ⟨⟨_, (), rfl, rfl, by rw [ht]; exact hP, va_K.moved hW.alike hK, hD⟩, hS.F ht⟩) hS.2.2 dX11_interval_45)
    · replace hm := if_f c24 hm
      refine lv_aload_n hx hb dX11_interval_27 rfl (lv_at hl 0 rfl) ?_
      refine lv_aload_n hx hb dX11_interval_28 rfl (lv_at hl 0 rfl) ?_
      refine va_get (D := (dC, dI)) (ci := 10) (v := .ref h_t_w) (C := RX11) (T := TX11) (N := 17) hx hb hts uX11 hown hK hP 0 rfl rfl 0 (by decide) k2 (fun _ h9 => h9) rfl dX11_interval_29 ?_
      refine lv_iconst (v := 2) hx hb dX11_interval_32 (by decide) ?_
      refine lv_iload_n hx hb dX11_interval_33 rfl (lv_at hl 1 rfl) ?_
      refine lv_iadd hx hb dX11_interval_34 ?_
      obtain ⟨b35, hm⟩ := ck_go hm
      refine va_iald hx hb hK hP 1 0 rfl rfl b35 dX11_interval_35 ?_
      refine lv_iload_n hx hb dX11_interval_36 rfl (lv_at hl 2 rfl) ?_
      obtain ⟨r_4, hc37, hm⟩ := bd1_go hm
      refine my_cVi (As := [.int (f_t_w (2 + a1).toNatClampNeg), .int a2]) (rest := []) (WC := [(h_t, .inr (10, [.ref h_t_w, .int f_t_known, .int f_t_kept, .int f_t_seed, .ref h_t_imageSeed, .ref h_t_bookOf, .ref h_t_bookIs, .int f_t_written, .ref h_t_forms, .int f_t_formRing, .int f_t_formMany, .ref h_t_best, .ref h_t_next, .ref h_t_ways, .ref h_t_round, .ref h_t_roughs, .int f_t_latest])), (h_t_w, .inl (cA, 190, .inl f_t_w))]) (WC' := [(h_t, .inr (10, [.ref h_t_w, .int f_t_known, .int f_t_kept, .int f_t_seed, .ref h_t_imageSeed, .ref h_t_bookOf, .ref h_t_bookIs, .int f_t_written, .ref h_t_forms, .int f_t_formRing, .int f_t_formMany, .ref h_t_best, .ref h_t_next, .ref h_t_ways, .ref h_t_round, .ref h_t_roughs, .int f_t_latest])), (h_t_w, .inl (cA, 190, .inl f_t_w))]) (WR := []) (W' := [(h_t, .inr (10, [.ref h_t_w, .int f_t_known, .int f_t_kept, .int f_t_seed, .ref h_t_imageSeed, .ref h_t_bookOf, .ref h_t_bookIs, .int f_t_written, .ref h_t_forms, .int f_t_formRing, .int f_t_formMany, .ref h_t_best, .ref h_t_next, .ref h_t_ways, .ref h_t_round, .ref h_t_roughs, .int f_t_latest])), (h_t_w, .inl (cA, 190, .inl f_t_w))]) ⟨hx, hb, hml, hown, hts⟩ hK hP hD hS hA (c_Md_pairsApart l dC dI cA fu h_t h_t_w h_t_imageSeed h_t_bookOf h_t_bookIs h_t_forms h_t_best h_t_next h_t_ways h_t_round h_t_roughs f_t_known f_t_kept f_t_seed f_t_written f_t_formRing f_t_formMany f_t_latest f_t_w (f_t_w (2 + a1).toNatClampNeg) a2 r_4 hc37) (cwV 2 hts gX11_interval_X11_pairsApart rfl rfl rfl (by decide +kernel) ⟨Nat.le_of_ble_eq_true rfl, Nat.le_of_ble_eq_true rfl⟩) [0, 1] [] [0, 1] rfl rfl rfl rfl (ci := 10) (q0 := 0) rfl rfl rfl rfl hl.1 (Nat.le_of_ble_eq_true rfl) dX11_interval_37 ⟨Nat.zero_le _, Nat.zero_le _⟩ (fun H locs hP hD hS => ?_)
      refine lv_goto (tgt := 45) hx hb dX11_interval_40 (by decide) ?_
      cases hm
      exact W_mono hQ (W.iret hx hb hr (fun t ht hW => ⟨⟨_, (), rfl, rfl, by rw [ht]; exact hP, va_K.moved hW.alike hK, hD⟩, hS.F ht⟩) hS.2.2 dX11_interval_45)
  · replace hm := if_t c5 hm
    refine lv_ldc (v := (-1000000001)) hx hb hown k1 dX11_interval_8 ?_
    cases hm
    exact W_mono hQ (W.iret hx hb hr (fun t ht hW => ⟨⟨_, (), rfl, rfl, by rw [ht]; exact hP, va_K.moved hW.alike hK, hD⟩, hS.F ht⟩) hS.2.2 dX11_interval_10)
abbrev rmX11_join : Room := { frames := 2, cells := 0, slots := 0, locals := 46 }
theorem uX11_X11_join : ∀ w ∈ wsX110, w ∈ wsX11_join := fun _ h => List.mem_cons_of_mem _ (List.mem_append_right _ (h))
set_option maxHeartbeats 40000000 in
set_option maxRecDepth 100000 in
theorem c_Md_join (l : Launch) (dC : Nat → ClassId) (dI : Nat → Nat → Nat) (cA : ClassId) (fu : Nat) (h_t h_t_w h_t_imageSeed h_t_bookOf h_t_bookIs h_t_forms h_t_best h_t_next h_t_ways h_t_round h_t_roughs : Nat) (f_t_known : Int32) (f_t_kept : Int32) (f_t_seed : Int32) (f_t_written : Int32) (f_t_formRing : Int32) (f_t_formMany : Int32) (f_t_latest : Int32) (f_t_w : Nat → Int32) (a1 : Int32) (a2 : Int32) (a3 : Int32) (r0 : Int32) (f_t_known_z : Int32) (f_t_w_z : Nat → Int32) (hm : m_Md_join fu f_t_known f_t_w a1 a2 a3 = some (r0, f_t_known_z, f_t_w_z)) (sz : Nat) : Met l yX11_join wsX11_join rmX11_join (mPre (dC, dI) cA [.ref h_t, .int a1, .int a2, .int a3] sz [(h_t, .inr (10, [.ref h_t_w, .int f_t_known, .int f_t_kept, .int f_t_seed, .ref h_t_imageSeed, .ref h_t_bookOf, .ref h_t_bookIs, .int f_t_written, .ref h_t_forms, .int f_t_formRing, .int f_t_formMany, .ref h_t_best, .ref h_t_next, .ref h_t_ways, .ref h_t_round, .ref h_t_roughs, .int f_t_latest])), (h_t_w, .inl (cA, 190, .inl f_t_w))]) (mPosI (dC, dI) cA r0 (va_A [(h_t, .inr (10, [.ref h_t_w, .int f_t_known, .int f_t_kept, .int f_t_seed, .ref h_t_imageSeed, .ref h_t_bookOf, .ref h_t_bookIs, .int f_t_written, .ref h_t_forms, .int f_t_formRing, .int f_t_formMany, .ref h_t_best, .ref h_t_next, .ref h_t_ways, .ref h_t_round, .ref h_t_roughs, .int f_t_latest])), (h_t_w, .inl (cA, 190, .inl f_t_w))] sz) [(h_t, .inr (10, [.ref h_t_w, .int f_t_known_z, .int f_t_kept, .int f_t_seed, .ref h_t_imageSeed, .ref h_t_bookOf, .ref h_t_bookIs, .int f_t_written, .ref h_t_forms, .int f_t_formRing, .int f_t_formMany, .ref h_t_best, .ref h_t_next, .ref h_t_ways, .ref h_t_round, .ref h_t_roughs, .int f_t_latest])), (h_t_w, .inl (cA, 190, .inl f_t_w_z))]) 0 0 (va_A [(h_t, .inr (10, [.ref h_t_w, .int f_t_known, .int f_t_kept, .int f_t_seed, .ref h_t_imageSeed, .ref h_t_bookOf, .ref h_t_bookIs, .int f_t_written, .ref h_t_forms, .int f_t_formRing, .int f_t_formMany, .ref h_t_best, .ref h_t_next, .ref h_t_ways, .ref h_t_round, .ref h_t_roughs, .int f_t_latest])), (h_t_w, .inl (cA, 190, .inl f_t_w))] sz) := by
  refine Met.ofW (cc := cX11_join) (maxL := 6) (ret := (some .int)) (by decide) rfl ?_
  intro p e s m args below meth c s₁ B hml hv
  obtain ⟨rfl, hsz, hP, hK, hD0⟩ := hv
  refine W_gen (fun Q hQ => ?_)
  have hx := B.exec
  have hb := B.bytes
  have hr := B.returns
  have hts := atoms_spec (ws := wsX11_join) B.pre
  have hown : s.vm.findClass RX11 = some m.cls := findClass_of_methodNamed B.named
  have hlocks := B.notSynchronized
  subst hsz
  have hD := hD0.self (sz := s.heap.size)
  clear hD0
  generalize hAe : va_A [(h_t, .inr (10, [.ref h_t_w, .int f_t_known, .int f_t_kept, .int f_t_seed, .ref h_t_imageSeed, .ref h_t_bookOf, .ref h_t_bookIs, .int f_t_written, .ref h_t_forms, .int f_t_formRing, .int f_t_formMany, .ref h_t_best, .ref h_t_next, .ref h_t_ways, .ref h_t_round, .ref h_t_roughs, .int f_t_latest])), (h_t_w, .inl (cA, 190, .inl f_t_w))] s.heap.size = A at hD hQ
  have hA : ∀ q : Nat, s.heap.size ≤ q → A q := fun q h => by rw [← hAe]; exact Or.inr h
  clear hAe
  have hS : va_S A s.heap s.heap [] := va_S.rf
  have hl := lv_entry ([.ref h_t, .int a1, .int a2, .int a3]) (n := 6) (Nat.le_of_ble_eq_true rfl)
  rw [lg_entry_eq]
  generalize (lg_sl ([.ref h_t, .int a1, .int a2, .int a3]) ++ List.replicate (6 - (lg_sl ([.ref h_t, .int a1, .int a2, .int a3])).length) Slot.unset).toArray = ls at hl ⊢
  have hl : lv_has ls 6 [(0, .ref h_t), (1, .int a1), (2, .int a2), (3, .int a3)] := hl
  have k1 := hts (.constant RX11 144 (-1000000001)) (List.mem_of_getElem? (i := 1) rfl)
  have k2 := hts (.constantLong RX11 191 (3)) (List.mem_of_getElem? (i := 2) rfl)
  have k4 := hts (.fieldLink RX11 7 "ToneSetsModel" "w" "[I") (List.mem_of_getElem? (i := 4) rfl)
  have k3 := hts (.constant RX11 143 (-1000000002)) (List.mem_of_getElem? (i := 3) rfl)
  have uX11 := uX11_X11_join
  unfold m_Md_join at hm
  refine lv_aload_n hx hb dX11_join_0 rfl (lv_at hl 0 rfl) ?_
  refine lv_iload_n hx hb dX11_join_1 rfl (lv_at hl 1 rfl) ?_
  obtain ⟨r_1, hc2, hm⟩ := bd1_go hm
  refine my_cVi (As := [.int a1]) (rest := []) (WC := [(h_t, .inr (10, [.ref h_t_w, .int f_t_known, .int f_t_kept, .int f_t_seed, .ref h_t_imageSeed, .ref h_t_bookOf, .ref h_t_bookIs, .int f_t_written, .ref h_t_forms, .int f_t_formRing, .int f_t_formMany, .ref h_t_best, .ref h_t_next, .ref h_t_ways, .ref h_t_round, .ref h_t_roughs, .int f_t_latest])), (h_t_w, .inl (cA, 190, .inl f_t_w))]) (WC' := [(h_t, .inr (10, [.ref h_t_w, .int f_t_known, .int f_t_kept, .int f_t_seed, .ref h_t_imageSeed, .ref h_t_bookOf, .ref h_t_bookIs, .int f_t_written, .ref h_t_forms, .int f_t_formRing, .int f_t_formMany, .ref h_t_best, .ref h_t_next, .ref h_t_ways, .ref h_t_round, .ref h_t_roughs, .int f_t_latest])), (h_t_w, .inl (cA, 190, .inl f_t_w))]) (WR := []) (W' := [(h_t, .inr (10, [.ref h_t_w, .int f_t_known, .int f_t_kept, .int f_t_seed, .ref h_t_imageSeed, .ref h_t_bookOf, .ref h_t_bookIs, .int f_t_written, .ref h_t_forms, .int f_t_formRing, .int f_t_formMany, .ref h_t_best, .ref h_t_next, .ref h_t_ways, .ref h_t_round, .ref h_t_roughs, .int f_t_latest])), (h_t_w, .inl (cA, 190, .inl f_t_w))]) ⟨hx, hb, hml, hown, hts⟩ hK hP hD hS hA (c_Md_isPlace l dC dI cA h_t h_t_w h_t_imageSeed h_t_bookOf h_t_bookIs h_t_forms h_t_best h_t_next h_t_ways h_t_round h_t_roughs f_t_known f_t_kept f_t_seed f_t_written f_t_formRing f_t_formMany f_t_latest f_t_w a1 r_1 hc2) (cwV 1 hts gX11_join_X11_isPlace rfl rfl rfl (by decide +kernel) ⟨Nat.le_of_ble_eq_true rfl, Nat.le_of_ble_eq_true rfl⟩) [0, 1] [] [0, 1] rfl rfl rfl rfl (ci := 10) (q0 := 0) rfl rfl rfl rfl hl.1 (Nat.le_of_ble_eq_true rfl) dX11_join_2 ⟨Nat.zero_le _, Nat.zero_le _⟩ (fun H locs hP hD hS => ?_)
  refine lv_if_eq (tgt := 16) hx hb dX11_join_5 (by decide) (fun c5 => ?_) (fun c5 => ?_)
  · replace hm := if_t c5 hm
    refine lv_ldc (v := (-1000000001)) hx hb hown k1 dX11_join_16 ?_
    cases hm
    exact W_mono hQ (W.iret hx hb hr (fun t ht hW => ⟨⟨_, (), rfl, rfl, by rw [ht]; exact hP, va_K.moved hW.alike hK, hD⟩, hS.F ht⟩) hS.2.2 dX11_join_18)
  · replace hm := if_f c5 hm
    refine lv_aload_n hx hb dX11_join_8 rfl (lv_at hl 0 rfl) ?_
    refine lv_iload_n hx hb dX11_join_9 rfl (lv_at hl 2 rfl) ?_
    obtain ⟨r_2, hc10, hm⟩ := bd1_go hm
    refine my_cVi (As := [.int a2]) (rest := []) (WC := [(h_t, .inr (10, [.ref h_t_w, .int f_t_known, .int f_t_kept, .int f_t_seed, .ref h_t_imageSeed, .ref h_t_bookOf, .ref h_t_bookIs, .int f_t_written, .ref h_t_forms, .int f_t_formRing, .int f_t_formMany, .ref h_t_best, .ref h_t_next, .ref h_t_ways, .ref h_t_round, .ref h_t_roughs, .int f_t_latest])), (h_t_w, .inl (cA, 190, .inl f_t_w))]) (WC' := [(h_t, .inr (10, [.ref h_t_w, .int f_t_known, .int f_t_kept, .int f_t_seed, .ref h_t_imageSeed, .ref h_t_bookOf, .ref h_t_bookIs, .int f_t_written, .ref h_t_forms, .int f_t_formRing, .int f_t_formMany, .ref h_t_best, .ref h_t_next, .ref h_t_ways, .ref h_t_round, .ref h_t_roughs, .int f_t_latest])), (h_t_w, .inl (cA, 190, .inl f_t_w))]) (WR := []) (W' := [(h_t, .inr (10, [.ref h_t_w, .int f_t_known, .int f_t_kept, .int f_t_seed, .ref h_t_imageSeed, .ref h_t_bookOf, .ref h_t_bookIs, .int f_t_written, .ref h_t_forms, .int f_t_formRing, .int f_t_formMany, .ref h_t_best, .ref h_t_next, .ref h_t_ways, .ref h_t_round, .ref h_t_roughs, .int f_t_latest])), (h_t_w, .inl (cA, 190, .inl f_t_w))]) ⟨hx, hb, hml, hown, hts⟩ hK hP hD hS hA (c_Md_isPlace l dC dI cA h_t h_t_w h_t_imageSeed h_t_bookOf h_t_bookIs h_t_forms h_t_best h_t_next h_t_ways h_t_round h_t_roughs f_t_known f_t_kept f_t_seed f_t_written f_t_formRing f_t_formMany f_t_latest f_t_w a2 r_2 hc10) (cwV 1 hts gX11_join_X11_isPlace rfl rfl rfl (by decide +kernel) ⟨Nat.le_of_ble_eq_true rfl, Nat.le_of_ble_eq_true rfl⟩) [0, 1] [] [0, 1] rfl rfl rfl rfl (ci := 10) (q0 := 0) rfl rfl rfl rfl hl.1 (Nat.le_of_ble_eq_true rfl) dX11_join_10 ⟨Nat.zero_le _, Nat.zero_le _⟩ (fun H locs hP hD hS => ?_)
    refine lv_if_ne (tgt := 19) hx hb dX11_join_13 (by decide) (fun c13 => ?_) (fun c13 => ?_)
    · replace hm := if_f c13 hm
      refine lv_iload_n hx hb dX11_join_19 rfl (lv_at hl 3 rfl) ?_
      refine lv_i2l (v := Int32.toInt64 a3) hx hb dX11_join_20 rfl ?_
      refine lv_lconst (v := 0) hx hb dX11_join_21 (by decide) ?_
      refine lv_ldc2 (v := 3) hx hb hown k2 dX11_join_22 ?_
      obtain ⟨r_3, hc25, hm⟩ := bd1_go hm
      refine my_cSi (As := [.long (Int32.toInt64 a3), .long 0, .long 3]) (rest := []) (WC := []) (WC' := []) (WR := [(h_t, .inr (10, [.ref h_t_w, .int f_t_known, .int f_t_kept, .int f_t_seed, .ref h_t_imageSeed, .ref h_t_bookOf, .ref h_t_bookIs, .int f_t_written, .ref h_t_forms, .int f_t_formRing, .int f_t_formMany, .ref h_t_best, .ref h_t_next, .ref h_t_ways, .ref h_t_round, .ref h_t_roughs, .int f_t_latest])), (h_t_w, .inl (cA, 190, .inl f_t_w))]) (W' := [(h_t, .inr (10, [.ref h_t_w, .int f_t_known, .int f_t_kept, .int f_t_seed, .ref h_t_imageSeed, .ref h_t_bookOf, .ref h_t_bookIs, .int f_t_written, .ref h_t_forms, .int f_t_formRing, .int f_t_formMany, .ref h_t_best, .ref h_t_next, .ref h_t_ways, .ref h_t_round, .ref h_t_roughs, .int f_t_latest])), (h_t_w, .inl (cA, 190, .inl f_t_w))]) ⟨hx, hb, hml, hown, hts⟩ hK hP hD hS hA (c_Md_in l dC dI cA (Int32.toInt64 a3) 0 3 r_3 hc25) (va_cwS 3 hts gX11_join_X11_in rfl rfl rfl (by decide +kernel) ⟨Nat.le_of_ble_eq_true rfl, Nat.le_of_ble_eq_true rfl⟩) [] [0, 1] [0, 1] rfl rfl rfl rfl rfl rfl hl.1 (Nat.le_of_ble_eq_true rfl) dX11_join_25 ⟨Nat.zero_le _, Nat.zero_le _⟩ (fun H locs hP hD hS => ?_)
      refine lv_if_ne (tgt := 34) hx hb dX11_join_28 (by decide) (fun c28 => ?_) (fun c28 => ?_)
      · replace hm := if_f c28 hm
        refine lv_aload_n hx hb dX11_join_34 rfl (lv_at hl 0 rfl) ?_
        obtain ⟨f_t_known_1, f_t_w_1, hc35, hm⟩ := bd2_go hm
        refine my_cVv (As := []) (rest := []) (WC := [(h_t, .inr (10, [.ref h_t_w, .int f_t_known, .int f_t_kept, .int f_t_seed, .ref h_t_imageSeed, .ref h_t_bookOf, .ref h_t_bookIs, .int f_t_written, .ref h_t_forms, .int f_t_formRing, .int f_t_formMany, .ref h_t_best, .ref h_t_next, .ref h_t_ways, .ref h_t_round, .ref h_t_roughs, .int f_t_latest])), (h_t_w, .inl (cA, 190, .inl f_t_w))]) (WC' := [(h_t, .inr (10, [.ref h_t_w, .int f_t_known_1, .int f_t_kept, .int f_t_seed, .ref h_t_imageSeed, .ref h_t_bookOf, .ref h_t_bookIs, .int f_t_written, .ref h_t_forms, .int f_t_formRing, .int f_t_formMany, .ref h_t_best, .ref h_t_next, .ref h_t_ways, .ref h_t_round, .ref h_t_roughs, .int f_t_latest])), (h_t_w, .inl (cA, 190, .inl f_t_w_1))]) (WR := []) (W' := [(h_t, .inr (10, [.ref h_t_w, .int f_t_known_1, .int f_t_kept, .int f_t_seed, .ref h_t_imageSeed, .ref h_t_bookOf, .ref h_t_bookIs, .int f_t_written, .ref h_t_forms, .int f_t_formRing, .int f_t_formMany, .ref h_t_best, .ref h_t_next, .ref h_t_ways, .ref h_t_round, .ref h_t_roughs, .int f_t_latest])), (h_t_w, .inl (cA, 190, .inl f_t_w_1))]) ⟨hx, hb, hml, hown, hts⟩ hK hP hD hS hA (c_Md_remember l dC dI cA fu h_t h_t_w h_t_imageSeed h_t_bookOf h_t_bookIs h_t_forms h_t_best h_t_next h_t_ways h_t_round h_t_roughs f_t_known f_t_kept f_t_seed f_t_written f_t_formRing f_t_formMany f_t_latest f_t_w f_t_known_1 f_t_w_1 hc35) (cwV 0 hts gX11_join_X11_remember rfl rfl rfl (by decide +kernel) ⟨Nat.le_of_ble_eq_true rfl, Nat.le_of_ble_eq_true rfl⟩) [0, 1] [] [0, 1] rfl rfl rfl rfl (ci := 10) (q0 := 0) rfl rfl rfl rfl hl.1 (Nat.le_of_ble_eq_true rfl) dX11_join_35 ⟨Nat.zero_le _, Nat.zero_le _⟩ (fun H locs hP hD hS => ?_)
        refine lv_aload_n hx hb dX11_join_38 rfl (lv_at hl 0 rfl) ?_
        refine va_get (D := (dC, dI)) (ci := 10) (v := .ref h_t_w) (C := RX11) (T := TX11) (N := 17) hx hb hts uX11 hown hK hP 0 rfl rfl 0 (by decide) k4 (fun _ h9 => h9) rfl dX11_join_39 ?_
        refine lv_iconst (v := 2) hx hb dX11_join_42 (by decide) ?_
        refine lv_iload_n hx hb dX11_join_43 rfl (lv_at hl 1 rfl) ?_
        refine lv_iadd hx hb dX11_join_44 ?_
        obtain ⟨b45, hm⟩ := ck_go hm
        refine va_iald hx hb hK hP 1 0 rfl rfl b45 dX11_join_45 ?_
        refine lv_topi (fun v4_1 ev4_1 => ?_)
        replace hm := lt_go ev4_1 hm
        refine lv_istore (lv' := [(4, .int v4_1), (0, .ref h_t), (1, .int a1), (2, .int a2), (3, .int a3)]) hx hb dX11_join_46 hl (by decide) rfl (fun ls hl => ?_)
        refine lv_aload_n hx hb dX11_join_48 rfl (lv_at hl 1 rfl) ?_
        refine va_get (D := (dC, dI)) (ci := 10) (v := .ref h_t_w) (C := RX11) (T := TX11) (N := 17) hx hb hts uX11 hown hK hP 0 rfl rfl 0 (by decide) k4 (fun _ h9 => h9) rfl dX11_join_49 ?_
        refine lv_iconst (v := 2) hx hb dX11_join_52 (by decide) ?_
        refine lv_iload_n hx hb dX11_join_53 rfl (lv_at hl 3 rfl) ?_
        refine lv_iadd hx hb dX11_join_54 ?_
        obtain ⟨b55, hm⟩ := ck_go hm
        refine va_iald hx hb hK hP 1 0 rfl rfl b55 dX11_join_55 ?_
        refine lv_topi (fun v5_1 ev5_1 => ?_)
        replace hm := lt_go ev5_1 hm
        refine lv_istore (lv' := [(5, .int v5_1), (4, .int v4_1), (0, .ref h_t), (1, .int a1), (2, .int a2), (3, .int a3)]) hx hb dX11_join_56 hl (by decide) rfl (fun ls hl => ?_)
        refine lv_aload_n hx hb dX11_join_58 rfl (lv_at hl 2 rfl) ?_
        refine va_get (D := (dC, dI)) (ci := 10) (v := .ref h_t_w) (C := RX11) (T := TX11) (N := 17) hx hb hts uX11 hown hK hP 0 rfl rfl 0 (by decide) k4 (fun _ h9 => h9) rfl dX11_join_59 ?_
        refine lv_iconst (v := 2) hx hb dX11_join_62 (by decide) ?_
        refine lv_iload_n hx hb dX11_join_63 rfl (lv_at hl 3 rfl) ?_
        refine lv_iadd hx hb dX11_join_64 ?_
        refine lv_iload_n hx hb dX11_join_65 rfl (lv_at hl 5 rfl) ?_
        obtain ⟨q110_1, hqJ_1, hm⟩ := bd1_go hm
        have J_1 : ∀ (H : Heap) (locs : List Loc), va_P (dC, dI) vwCl [(h_t, .inr (10, [.ref h_t_w, .int f_t_known_1, .int f_t_kept, .int f_t_seed, .ref h_t_imageSeed, .ref h_t_bookOf, .ref h_t_bookIs, .int f_t_written, .ref h_t_forms, .int f_t_formRing, .int f_t_formMany, .ref h_t_best, .ref h_t_next, .ref h_t_ways, .ref h_t_round, .ref h_t_roughs, .int f_t_latest])), (h_t_w, .inl (cA, 190, .inl f_t_w_1))] H → va_D A [(h_t, .inr (10, [.ref h_t_w, .int f_t_known_1, .int f_t_kept, .int f_t_seed, .ref h_t_imageSeed, .ref h_t_bookOf, .ref h_t_bookIs, .int f_t_written, .ref h_t_forms, .int f_t_formRing, .int f_t_formMany, .ref h_t_best, .ref h_t_next, .ref h_t_ways, .ref h_t_round, .ref h_t_roughs, .int f_t_latest])), (h_t_w, .inl (cA, 190, .inl f_t_w_1))] → va_S A s.heap H locs → ∀ ls : Array Slot, lv_has ls 6 [(0, .ref h_t), (1, .int a1)] → W p l e (headSpec wsX11_join rmX11_join).room s m (([.ref h_t, .int a1, .int a2, .int a3] : List Value).toArray) below meth c H locs 0 0 Q (F0 m 110 ls [.int q110_1, .int (2 + a1), .ref h_t_w]) := by
          intro H locs hP hD hS ls hl
          clear hqJ_1
          obtain ⟨b110, hm⟩ := ck_go hm
          refine my_iast (W' := fun z' => [(h_t, .inr (10, [.ref h_t_w, .int f_t_known_1, .int f_t_kept, .int f_t_seed, .ref h_t_imageSeed, .ref h_t_bookOf, .ref h_t_bookIs, .int f_t_written, .ref h_t_forms, .int f_t_formRing, .int f_t_formMany, .ref h_t_best, .ref h_t_next, .ref h_t_ways, .ref h_t_round, .ref h_t_roughs, .int f_t_latest])), (h_t_w, .inl (cA, 190, .inl z'))]) hx hb hK hP hD hS 1 0 rfl rfl b110 dX11_join_110 (fun _ => rfl) (fun f_t_w_2 ef_t_w_2 H locs hP hD hS => ?_)
          replace hm := lt_go ef_t_w_2 hm
          refine lv_aload_n hx hb dX11_join_111 rfl (lv_at hl 0 rfl) ?_
          refine va_get (D := (dC, dI)) (ci := 10) (v := .ref h_t_w) (C := RX11) (T := TX11) (N := 17) hx hb hts uX11 hown hK hP 0 rfl rfl 0 (by decide) k4 (fun _ h9 => h9) rfl dX11_join_112 ?_
          refine lv_iconst (v := 2) hx hb dX11_join_115 (by decide) ?_
          refine lv_iload_n hx hb dX11_join_116 rfl (lv_at hl 1 rfl) ?_
          refine lv_iadd hx hb dX11_join_117 ?_
          obtain ⟨b118, hm⟩ := ck_go hm
          refine va_iald hx hb hK hP 1 0 rfl rfl b118 dX11_join_118 ?_
          cases hm
          exact W_mono hQ (W.iret hx hb hr (fun t ht hW => ⟨⟨_, (), rfl, rfl, by rw [ht]; exact hP, va_K.moved hW.alike hK, hD⟩, hS.F ht⟩) hS.2.2 dX11_join_119)
        clear hm
        refine lv_if_ne (tgt := 77) hx hb dX11_join_66 (by decide) (fun c66 => ?_) (fun c66 => ?_)
        · replace hqJ_1 := if_f c66 hqJ_1
          refine lv_iload_n hx hb dX11_join_77 rfl (lv_at hl 5 rfl) ?_
          refine lv_iconst (v := 1) hx hb dX11_join_78 (by decide) ?_
          refine lv_icmp_ne (tgt := 90) hx hb dX11_join_79 (by decide) (fun c79 => ?_) (fun c79 => ?_)
          · replace hqJ_1 := if_f c79 hqJ_1
            refine lv_iload_n hx hb dX11_join_90 rfl (lv_at hl 5 rfl) ?_
            refine lv_iconst (v := 2) hx hb dX11_join_91 (by decide) ?_
            refine lv_icmp_ne (tgt := 103) hx hb dX11_join_92 (by decide) (fun c92 => ?_) (fun c92 => ?_)
            · replace hqJ_1 := if_f c92 hqJ_1
              refine lv_iload hx hb dX11_join_103 (lv_at hl 1 rfl) ?_
              refine lv_iload hx hb dX11_join_105 (lv_at hl 0 rfl) ?_
              refine lv_iconst (v := (-1)) hx hb dX11_join_107 (by decide) ?_
              refine lv_ixor hx hb dX11_join_108 ?_
              refine lv_iand hx hb dX11_join_109 ?_
              cases hqJ_1
              exact J_1 _ _ hP hD hS _ (lv_sub hl [2, 3] rfl)
            · replace hqJ_1 := if_t c92 hqJ_1
              refine lv_iload hx hb dX11_join_95 (lv_at hl 1 rfl) ?_
              refine lv_iload hx hb dX11_join_97 (lv_at hl 0 rfl) ?_
              refine lv_ixor hx hb dX11_join_99 ?_
              refine lv_goto (tgt := 110) hx hb dX11_join_100 (by decide) ?_
              cases hqJ_1
              exact J_1 _ _ hP hD hS _ (lv_sub hl [2, 3] rfl)
          · replace hqJ_1 := if_t c79 hqJ_1
            refine lv_iload hx hb dX11_join_82 (lv_at hl 1 rfl) ?_
            refine lv_iload hx hb dX11_join_84 (lv_at hl 0 rfl) ?_
            refine lv_ior hx hb dX11_join_86 ?_
            refine lv_goto (tgt := 110) hx hb dX11_join_87 (by decide) ?_
            cases hqJ_1
            exact J_1 _ _ hP hD hS _ (lv_sub hl [2, 3] rfl)
        · replace hqJ_1 := if_t c66 hqJ_1
          refine lv_iload hx hb dX11_join_69 (lv_at hl 1 rfl) ?_
          refine lv_iload hx hb dX11_join_71 (lv_at hl 0 rfl) ?_
          refine lv_iand hx hb dX11_join_73 ?_
          refine lv_goto (tgt := 110) hx hb dX11_join_74 (by decide) ?_
          cases hqJ_1
          exact J_1 _ _ hP hD hS _ (lv_sub hl [2, 3] rfl)
      · replace hm := if_t c28 hm
        refine lv_ldc (v := (-1000000002)) hx hb hown k3 dX11_join_31 ?_
        cases hm
        exact W_mono hQ (W.iret hx hb hr (fun t ht hW => ⟨⟨_, (), rfl, rfl, by rw [ht]; exact hP, va_K.moved hW.alike hK, hD⟩, hS.F ht⟩) hS.2.2 dX11_join_33)
    · replace hm := if_t c13 hm
      refine lv_ldc (v := (-1000000001)) hx hb hown k1 dX11_join_16 ?_
      cases hm
      exact W_mono hQ (W.iret hx hb hr (fun t ht hW => ⟨⟨_, (), rfl, rfl, by rw [ht]; exact hP, va_K.moved hW.alike hK, hD⟩, hS.F ht⟩) hS.2.2 dX11_join_18)
abbrev rmX11_keep : Room := { frames := 1, cells := 0, slots := 0, locals := 25 }
theorem uX11_X11_keep : ∀ w ∈ wsX110, w ∈ wsX11_keep := fun _ h => List.mem_cons_of_mem _ (List.mem_append_right _ (h))
set_option maxHeartbeats 40000000 in
set_option maxRecDepth 100000 in
theorem c_Md_keep (l : Launch) (dC : Nat → ClassId) (dI : Nat → Nat → Nat) (cA : ClassId) (fu : Nat) (h_t h_t_w h_t_imageSeed h_t_bookOf h_t_bookIs h_t_forms h_t_best h_t_next h_t_ways h_t_round h_t_roughs : Nat) (f_t_known : Int32) (f_t_kept : Int32) (f_t_seed : Int32) (f_t_written : Int32) (f_t_formRing : Int32) (f_t_formMany : Int32) (f_t_latest : Int32) (f_t_imageSeed : Nat → Int32) (f_t_w : Nat → Int32) (a1 : Int32) (r0 : Int32) (f_t_imageSeed_z : Nat → Int32) (f_t_kept_z : Int32) (f_t_known_z : Int32) (f_t_w_z : Nat → Int32) (hm : m_Md_keep fu f_t_imageSeed f_t_kept f_t_known f_t_seed f_t_w a1 = some (r0, f_t_imageSeed_z, f_t_kept_z, f_t_known_z, f_t_w_z)) (sz : Nat) : Met l yX11_keep wsX11_keep rmX11_keep (mPre (dC, dI) cA [.ref h_t, .int a1] sz [(h_t, .inr (10, [.ref h_t_w, .int f_t_known, .int f_t_kept, .int f_t_seed, .ref h_t_imageSeed, .ref h_t_bookOf, .ref h_t_bookIs, .int f_t_written, .ref h_t_forms, .int f_t_formRing, .int f_t_formMany, .ref h_t_best, .ref h_t_next, .ref h_t_ways, .ref h_t_round, .ref h_t_roughs, .int f_t_latest])), (h_t_imageSeed, .inl (cA, 2, .inl f_t_imageSeed)), (h_t_w, .inl (cA, 190, .inl f_t_w))]) (mPosI (dC, dI) cA r0 (va_A [(h_t, .inr (10, [.ref h_t_w, .int f_t_known, .int f_t_kept, .int f_t_seed, .ref h_t_imageSeed, .ref h_t_bookOf, .ref h_t_bookIs, .int f_t_written, .ref h_t_forms, .int f_t_formRing, .int f_t_formMany, .ref h_t_best, .ref h_t_next, .ref h_t_ways, .ref h_t_round, .ref h_t_roughs, .int f_t_latest])), (h_t_imageSeed, .inl (cA, 2, .inl f_t_imageSeed)), (h_t_w, .inl (cA, 190, .inl f_t_w))] sz) [(h_t, .inr (10, [.ref h_t_w, .int f_t_known_z, .int f_t_kept_z, .int f_t_seed, .ref h_t_imageSeed, .ref h_t_bookOf, .ref h_t_bookIs, .int f_t_written, .ref h_t_forms, .int f_t_formRing, .int f_t_formMany, .ref h_t_best, .ref h_t_next, .ref h_t_ways, .ref h_t_round, .ref h_t_roughs, .int f_t_latest])), (h_t_imageSeed, .inl (cA, 2, .inl f_t_imageSeed_z)), (h_t_w, .inl (cA, 190, .inl f_t_w_z))]) 0 0 (va_A [(h_t, .inr (10, [.ref h_t_w, .int f_t_known, .int f_t_kept, .int f_t_seed, .ref h_t_imageSeed, .ref h_t_bookOf, .ref h_t_bookIs, .int f_t_written, .ref h_t_forms, .int f_t_formRing, .int f_t_formMany, .ref h_t_best, .ref h_t_next, .ref h_t_ways, .ref h_t_round, .ref h_t_roughs, .int f_t_latest])), (h_t_imageSeed, .inl (cA, 2, .inl f_t_imageSeed)), (h_t_w, .inl (cA, 190, .inl f_t_w))] sz) := by
  refine Met.ofW (cc := cX11_keep) (maxL := 2) (ret := (some .int)) (by decide) rfl ?_
  intro p e s m args below meth c s₁ B hml hv
  obtain ⟨rfl, hsz, hP, hK, hD0⟩ := hv
  refine W_gen (fun Q hQ => ?_)
  have hx := B.exec
  have hb := B.bytes
  have hr := B.returns
  have hts := atoms_spec (ws := wsX11_keep) B.pre
  have hown : s.vm.findClass RX11 = some m.cls := findClass_of_methodNamed B.named
  have hlocks := B.notSynchronized
  subst hsz
  have hD := hD0.self (sz := s.heap.size)
  clear hD0
  generalize hAe : va_A [(h_t, .inr (10, [.ref h_t_w, .int f_t_known, .int f_t_kept, .int f_t_seed, .ref h_t_imageSeed, .ref h_t_bookOf, .ref h_t_bookIs, .int f_t_written, .ref h_t_forms, .int f_t_formRing, .int f_t_formMany, .ref h_t_best, .ref h_t_next, .ref h_t_ways, .ref h_t_round, .ref h_t_roughs, .int f_t_latest])), (h_t_imageSeed, .inl (cA, 2, .inl f_t_imageSeed)), (h_t_w, .inl (cA, 190, .inl f_t_w))] s.heap.size = A at hD hQ
  have hA : ∀ q : Nat, s.heap.size ≤ q → A q := fun q h => by rw [← hAe]; exact Or.inr h
  clear hAe
  have hS : va_S A s.heap s.heap [] := va_S.rf
  have hl := lv_entry ([.ref h_t, .int a1]) (n := 2) (Nat.le_of_ble_eq_true rfl)
  rw [lg_entry_eq]
  generalize (lg_sl ([.ref h_t, .int a1]) ++ List.replicate (2 - (lg_sl ([.ref h_t, .int a1])).length) Slot.unset).toArray = ls at hl ⊢
  have hl : lv_has ls 2 [(0, .ref h_t), (1, .int a1)] := hl
  have k2 := hts (.fieldLink RX11 13 "ToneSetsModel" "imageSeed" "[I") (List.mem_of_getElem? (i := 2) rfl)
  have k3 := hts (.fieldLink RX11 140 "ToneSetsModel" "seed" "I") (List.mem_of_getElem? (i := 3) rfl)
  have k4 := hts (.fieldLink RX11 210 "ToneSetsModel" "kept" "I") (List.mem_of_getElem? (i := 4) rfl)
  have k5 := hts (.fieldLink RX11 44 "ToneSetsModel" "known" "I") (List.mem_of_getElem? (i := 5) rfl)
  have k1 := hts (.constant RX11 144 (-1000000001)) (List.mem_of_getElem? (i := 1) rfl)
  have uX11 := uX11_X11_keep
  unfold m_Md_keep at hm
  refine lv_iload_n hx hb dX11_keep_0 rfl (lv_at hl 1 rfl) ?_
  refine lv_i2l (v := Int32.toInt64 a1) hx hb dX11_keep_1 rfl ?_
  refine lv_lconst (v := 0) hx hb dX11_keep_2 (by decide) ?_
  refine lv_lconst (v := 1) hx hb dX11_keep_3 (by decide) ?_
  obtain ⟨r_1, hc4, hm⟩ := bd1_go hm
  refine my_cSi (As := [.long (Int32.toInt64 a1), .long 0, .long 1]) (rest := []) (WC := []) (WC' := []) (WR := [(h_t, .inr (10, [.ref h_t_w, .int f_t_known, .int f_t_kept, .int f_t_seed, .ref h_t_imageSeed, .ref h_t_bookOf, .ref h_t_bookIs, .int f_t_written, .ref h_t_forms, .int f_t_formRing, .int f_t_formMany, .ref h_t_best, .ref h_t_next, .ref h_t_ways, .ref h_t_round, .ref h_t_roughs, .int f_t_latest])), (h_t_imageSeed, .inl (cA, 2, .inl f_t_imageSeed)), (h_t_w, .inl (cA, 190, .inl f_t_w))]) (W' := [(h_t, .inr (10, [.ref h_t_w, .int f_t_known, .int f_t_kept, .int f_t_seed, .ref h_t_imageSeed, .ref h_t_bookOf, .ref h_t_bookIs, .int f_t_written, .ref h_t_forms, .int f_t_formRing, .int f_t_formMany, .ref h_t_best, .ref h_t_next, .ref h_t_ways, .ref h_t_round, .ref h_t_roughs, .int f_t_latest])), (h_t_imageSeed, .inl (cA, 2, .inl f_t_imageSeed)), (h_t_w, .inl (cA, 190, .inl f_t_w))]) ⟨hx, hb, hml, hown, hts⟩ hK hP hD hS hA (c_Md_in l dC dI cA (Int32.toInt64 a1) 0 1 r_1 hc4) (va_cwS 3 hts gX11_keep_X11_in rfl rfl rfl (by decide +kernel) ⟨Nat.le_of_ble_eq_true rfl, Nat.le_of_ble_eq_true rfl⟩) [] [0, 1, 2] [0, 1, 2] rfl rfl rfl rfl rfl rfl hl.1 (Nat.le_of_ble_eq_true rfl) dX11_keep_4 ⟨Nat.zero_le _, Nat.zero_le _⟩ (fun H locs hP hD hS => ?_)
  refine lv_if_ne (tgt := 13) hx hb dX11_keep_7 (by decide) (fun c7 => ?_) (fun c7 => ?_)
  · replace hm := if_f c7 hm
    refine lv_aload_n hx hb dX11_keep_13 rfl (lv_at hl 0 rfl) ?_
    refine lv_iconst (v := 0) hx hb dX11_keep_14 (by decide) ?_
    refine lv_sipush (v := 170) hx hb dX11_keep_15 (by decide) ?_
    refine lv_bipush (v := 10) hx hb dX11_keep_18 (by decide) ?_
    refine lv_iload_n hx hb dX11_keep_20 rfl (lv_at hl 1 rfl) ?_
    refine lv_imul hx hb dX11_keep_21 ?_
    refine lv_iadd hx hb dX11_keep_22 ?_
    obtain ⟨f_t_w_1, hc23, hm⟩ := bd1_go hm
    refine my_cVv (As := [.int 0, .int (170 + (10 * a1))]) (rest := []) (WC := [(h_t, .inr (10, [.ref h_t_w, .int f_t_known, .int f_t_kept, .int f_t_seed, .ref h_t_imageSeed, .ref h_t_bookOf, .ref h_t_bookIs, .int f_t_written, .ref h_t_forms, .int f_t_formRing, .int f_t_formMany, .ref h_t_best, .ref h_t_next, .ref h_t_ways, .ref h_t_round, .ref h_t_roughs, .int f_t_latest])), (h_t_w, .inl (cA, 190, .inl f_t_w))]) (WC' := [(h_t, .inr (10, [.ref h_t_w, .int f_t_known, .int f_t_kept, .int f_t_seed, .ref h_t_imageSeed, .ref h_t_bookOf, .ref h_t_bookIs, .int f_t_written, .ref h_t_forms, .int f_t_formRing, .int f_t_formMany, .ref h_t_best, .ref h_t_next, .ref h_t_ways, .ref h_t_round, .ref h_t_roughs, .int f_t_latest])), (h_t_w, .inl (cA, 190, .inl f_t_w_1))]) (WR := [(h_t_imageSeed, .inl (cA, 2, .inl f_t_imageSeed))]) (W' := [(h_t, .inr (10, [.ref h_t_w, .int f_t_known, .int f_t_kept, .int f_t_seed, .ref h_t_imageSeed, .ref h_t_bookOf, .ref h_t_bookIs, .int f_t_written, .ref h_t_forms, .int f_t_formRing, .int f_t_formMany, .ref h_t_best, .ref h_t_next, .ref h_t_ways, .ref h_t_round, .ref h_t_roughs, .int f_t_latest])), (h_t_imageSeed, .inl (cA, 2, .inl f_t_imageSeed)), (h_t_w, .inl (cA, 190, .inl f_t_w_1))]) ⟨hx, hb, hml, hown, hts⟩ hK hP hD hS hA (c_Md_copyRow l dC dI cA fu h_t h_t_w h_t_imageSeed h_t_bookOf h_t_bookIs h_t_forms h_t_best h_t_next h_t_ways h_t_round h_t_roughs f_t_known f_t_kept f_t_seed f_t_written f_t_formRing f_t_formMany f_t_latest f_t_w 0 (170 + (10 * a1)) f_t_w_1 hc23) (cwV 2 hts gX11_keep_X11_copyRow rfl rfl rfl (by decide +kernel) ⟨Nat.le_of_ble_eq_true rfl, Nat.le_of_ble_eq_true rfl⟩) [0, 2] [1] [1, 0, 2] rfl rfl rfl rfl (ci := 10) (q0 := 0) rfl rfl rfl rfl hl.1 (Nat.le_of_ble_eq_true rfl) dX11_keep_23 ⟨Nat.zero_le _, Nat.zero_le _⟩ (fun H locs hP hD hS => ?_)
    refine lv_aload_n hx hb dX11_keep_26 rfl (lv_at hl 0 rfl) ?_
    refine va_get (D := (dC, dI)) (ci := 10) (v := .ref h_t_imageSeed) (C := RX11) (T := TX11) (N := 17) hx hb hts uX11 hown hK hP 0 rfl rfl 4 (by decide) k2 (fun _ h9 => h9) rfl dX11_keep_27 ?_
    refine lv_iload_n hx hb dX11_keep_30 rfl (lv_at hl 1 rfl) ?_
    refine lv_aload_n hx hb dX11_keep_31 rfl (lv_at hl 0 rfl) ?_
    refine va_get (D := (dC, dI)) (ci := 10) (v := .int f_t_seed) (C := RX11) (T := TX11) (N := 17) hx hb hts uX11 hown hK hP 0 rfl rfl 3 (by decide) k3 (fun _ h9 => h9) rfl dX11_keep_32 ?_
    obtain ⟨b35, hm⟩ := ck_go hm
    refine my_iast (W' := fun z' => [(h_t, .inr (10, [.ref h_t_w, .int f_t_known, .int f_t_kept, .int f_t_seed, .ref h_t_imageSeed, .ref h_t_bookOf, .ref h_t_bookIs, .int f_t_written, .ref h_t_forms, .int f_t_formRing, .int f_t_formMany, .ref h_t_best, .ref h_t_next, .ref h_t_ways, .ref h_t_round, .ref h_t_roughs, .int f_t_latest])), (h_t_imageSeed, .inl (cA, 2, .inl z')), (h_t_w, .inl (cA, 190, .inl f_t_w_1))]) hx hb hK hP hD hS 1 0 rfl rfl b35 dX11_keep_35 (fun _ => rfl) (fun f_t_imageSeed_1 ef_t_imageSeed_1 H locs hP hD hS => ?_)
    replace hm := lt_go ef_t_imageSeed_1 hm
    refine lv_aload_n hx hb dX11_keep_36 rfl (lv_at hl 0 rfl) ?_
    refine lv_dup hx hb dX11_keep_37 rfl ?_
    refine va_get (D := (dC, dI)) (ci := 10) (v := .int f_t_kept) (C := RX11) (T := TX11) (N := 17) hx hb hts uX11 hown hK hP 0 rfl rfl 2 (by decide) k4 (fun _ h9 => h9) rfl dX11_keep_38 ?_
    refine lv_iconst (v := 1) hx hb dX11_keep_41 (by decide) ?_
    refine lv_iload_n hx hb dX11_keep_42 rfl (lv_at hl 1 rfl) ?_
    refine lv_ishl hx hb dX11_keep_43 ?_
    refine lv_ior hx hb dX11_keep_44 ?_
    refine lv_topi (fun f_t_kept_1 ef_t_kept_1 => ?_)
    replace hm := lt_go ef_t_kept_1 hm
    refine my_put (W' := [(h_t, .inr (10, [.ref h_t_w, .int f_t_known, .int f_t_kept_1, .int f_t_seed, .ref h_t_imageSeed, .ref h_t_bookOf, .ref h_t_bookIs, .int f_t_written, .ref h_t_forms, .int f_t_formRing, .int f_t_formMany, .ref h_t_best, .ref h_t_next, .ref h_t_ways, .ref h_t_round, .ref h_t_roughs, .int f_t_latest])), (h_t_imageSeed, .inl (cA, 2, .inl f_t_imageSeed_1)), (h_t_w, .inl (cA, 190, .inl f_t_w_1))]) (ci := 10) (v := .int f_t_kept_1) (ty := .int) (C := RX11) (T := TX11) (N := 17) hx hb hts uX11 tyX11 tyX11_ok nmX11 hown hK hP hD hS 0 rfl rfl 2 (by decide) k4 (fun _ h9 => h9) rfl (by decide +kernel) rfl rfl (Nat.le_of_ble_eq_true rfl) dX11_keep_45 rfl (fun H locs hP hD hS => ?_)
    refine lv_aload_n hx hb dX11_keep_48 rfl (lv_at hl 0 rfl) ?_
    refine lv_iconst (v := 0) hx hb dX11_keep_49 (by decide) ?_
    refine lv_topi (fun f_t_known_1 ef_t_known_1 => ?_)
    replace hm := lt_go ef_t_known_1 hm
    refine my_put (W' := [(h_t, .inr (10, [.ref h_t_w, .int f_t_known_1, .int f_t_kept_1, .int f_t_seed, .ref h_t_imageSeed, .ref h_t_bookOf, .ref h_t_bookIs, .int f_t_written, .ref h_t_forms, .int f_t_formRing, .int f_t_formMany, .ref h_t_best, .ref h_t_next, .ref h_t_ways, .ref h_t_round, .ref h_t_roughs, .int f_t_latest])), (h_t_imageSeed, .inl (cA, 2, .inl f_t_imageSeed_1)), (h_t_w, .inl (cA, 190, .inl f_t_w_1))]) (ci := 10) (v := .int f_t_known_1) (ty := .int) (C := RX11) (T := TX11) (N := 17) hx hb hts uX11 tyX11 tyX11_ok nmX11 hown hK hP hD hS 0 rfl rfl 1 (by decide) k5 (fun _ h9 => h9) rfl (by decide +kernel) rfl rfl (Nat.le_of_ble_eq_true rfl) dX11_keep_50 rfl (fun H locs hP hD hS => ?_)
    refine lv_iconst (v := 1) hx hb dX11_keep_53 (by decide) ?_
    cases hm
    exact W_mono hQ (W.iret hx hb hr (fun t ht hW => ⟨⟨_, (), rfl, rfl, by rw [ht]; exact hP, va_K.moved hW.alike hK, hD⟩, hS.F ht⟩) hS.2.2 dX11_keep_54)
  · replace hm := if_t c7 hm
    refine lv_ldc (v := (-1000000001)) hx hb hown k1 dX11_keep_10 ?_
    cases hm
    exact W_mono hQ (W.iret hx hb hr (fun t ht hW => ⟨⟨_, (), rfl, rfl, by rw [ht]; exact hP, va_K.moved hW.alike hK, hD⟩, hS.F ht⟩) hS.2.2 dX11_keep_12)
abbrev rmX11_wayOn : Room := { frames := 2, cells := 0, slots := 0, locals := 43 }
theorem uX11_X11_wayOn : ∀ w ∈ wsX110, w ∈ wsX11_wayOn := fun _ h => List.mem_cons_of_mem _ (List.mem_append_right _ (h))
set_option maxHeartbeats 40000000 in
set_option maxRecDepth 100000 in
theorem c_Md_wayOn (l : Launch) (dC : Nat → ClassId) (dI : Nat → Nat → Nat) (cA : ClassId) (fu : Nat) (h_t h_t_w h_t_imageSeed h_t_bookOf h_t_bookIs h_t_forms h_t_best h_t_next h_t_ways h_t_round h_t_roughs : Nat) (f_t_known : Int32) (f_t_kept : Int32) (f_t_seed : Int32) (f_t_written : Int32) (f_t_formRing : Int32) (f_t_formMany : Int32) (f_t_latest : Int32) (f_t_best : Nat → Int32) (f_t_next : Nat → Int32) (f_t_w : Nat → Int32) (a1 : Int32) (a2 : Int32) (f_t_best_z : Nat → Int32) (f_t_next_z : Nat → Int32) (hm : m_Md_wayOn fu f_t_best f_t_next f_t_w a1 a2 = some (f_t_best_z, f_t_next_z)) (sz : Nat) : Met l yX11_wayOn wsX11_wayOn rmX11_wayOn (mPre (dC, dI) cA [.ref h_t, .int a1, .int a2] sz [(h_t, .inr (10, [.ref h_t_w, .int f_t_known, .int f_t_kept, .int f_t_seed, .ref h_t_imageSeed, .ref h_t_bookOf, .ref h_t_bookIs, .int f_t_written, .ref h_t_forms, .int f_t_formRing, .int f_t_formMany, .ref h_t_best, .ref h_t_next, .ref h_t_ways, .ref h_t_round, .ref h_t_roughs, .int f_t_latest])), (h_t_best, .inl (cA, 4096, .inl f_t_best)), (h_t_next, .inl (cA, 4096, .inl f_t_next)), (h_t_w, .inl (cA, 190, .inl f_t_w))]) (mPosV (dC, dI) cA (va_A [(h_t, .inr (10, [.ref h_t_w, .int f_t_known, .int f_t_kept, .int f_t_seed, .ref h_t_imageSeed, .ref h_t_bookOf, .ref h_t_bookIs, .int f_t_written, .ref h_t_forms, .int f_t_formRing, .int f_t_formMany, .ref h_t_best, .ref h_t_next, .ref h_t_ways, .ref h_t_round, .ref h_t_roughs, .int f_t_latest])), (h_t_best, .inl (cA, 4096, .inl f_t_best)), (h_t_next, .inl (cA, 4096, .inl f_t_next)), (h_t_w, .inl (cA, 190, .inl f_t_w))] sz) [(h_t, .inr (10, [.ref h_t_w, .int f_t_known, .int f_t_kept, .int f_t_seed, .ref h_t_imageSeed, .ref h_t_bookOf, .ref h_t_bookIs, .int f_t_written, .ref h_t_forms, .int f_t_formRing, .int f_t_formMany, .ref h_t_best, .ref h_t_next, .ref h_t_ways, .ref h_t_round, .ref h_t_roughs, .int f_t_latest])), (h_t_best, .inl (cA, 4096, .inl f_t_best_z)), (h_t_next, .inl (cA, 4096, .inl f_t_next_z)), (h_t_w, .inl (cA, 190, .inl f_t_w))]) 0 0 (va_A [(h_t, .inr (10, [.ref h_t_w, .int f_t_known, .int f_t_kept, .int f_t_seed, .ref h_t_imageSeed, .ref h_t_bookOf, .ref h_t_bookIs, .int f_t_written, .ref h_t_forms, .int f_t_formRing, .int f_t_formMany, .ref h_t_best, .ref h_t_next, .ref h_t_ways, .ref h_t_round, .ref h_t_roughs, .int f_t_latest])), (h_t_best, .inl (cA, 4096, .inl f_t_best)), (h_t_next, .inl (cA, 4096, .inl f_t_next)), (h_t_w, .inl (cA, 190, .inl f_t_w))] sz) := by
  refine Met.ofW (cc := cX11_wayOn) (maxL := 7) (ret := none) (by decide) rfl ?_
  intro p e s m args below meth c s₁ B hml hv
  obtain ⟨rfl, hsz, hP, hK, hD0⟩ := hv
  refine W_gen (fun Q hQ => ?_)
  have hx := B.exec
  have hb := B.bytes
  have hr := B.returns
  have hts := atoms_spec (ws := wsX11_wayOn) B.pre
  have hown : s.vm.findClass RX11 = some m.cls := findClass_of_methodNamed B.named
  have hlocks := B.notSynchronized
  subst hsz
  have hD := hD0.self (sz := s.heap.size)
  clear hD0
  generalize hAe : va_A [(h_t, .inr (10, [.ref h_t_w, .int f_t_known, .int f_t_kept, .int f_t_seed, .ref h_t_imageSeed, .ref h_t_bookOf, .ref h_t_bookIs, .int f_t_written, .ref h_t_forms, .int f_t_formRing, .int f_t_formMany, .ref h_t_best, .ref h_t_next, .ref h_t_ways, .ref h_t_round, .ref h_t_roughs, .int f_t_latest])), (h_t_best, .inl (cA, 4096, .inl f_t_best)), (h_t_next, .inl (cA, 4096, .inl f_t_next)), (h_t_w, .inl (cA, 190, .inl f_t_w))] s.heap.size = A at hD hQ
  have hA : ∀ q : Nat, s.heap.size ≤ q → A q := fun q h => by rw [← hAe]; exact Or.inr h
  clear hAe
  have hS : va_S A s.heap s.heap [] := va_S.rf
  have hl := lv_entry ([.ref h_t, .int a1, .int a2]) (n := 7) (Nat.le_of_ble_eq_true rfl)
  rw [lg_entry_eq]
  generalize (lg_sl ([.ref h_t, .int a1, .int a2]) ++ List.replicate (7 - (lg_sl ([.ref h_t, .int a1, .int a2])).length) Slot.unset).toArray = ls at hl ⊢
  have hl : lv_has ls 7 [(0, .ref h_t), (1, .int a1), (2, .int a2)] := hl
  have k1 := hts (.fieldLink RX11 28 "ToneSetsModel" "next" "[I") (List.mem_of_getElem? (i := 1) rfl)
  have k2 := hts (.constant RX11 96 (1000000)) (List.mem_of_getElem? (i := 2) rfl)
  have k3 := hts (.fieldLink RX11 25 "ToneSetsModel" "best" "[I") (List.mem_of_getElem? (i := 3) rfl)
  have uX11 := uX11_X11_wayOn
  unfold m_Md_wayOn at hm
  refine lv_iconst (v := 0) hx hb dX11_wayOn_0 (by decide) ?_
  refine lv_topi (fun v3_1 ev3_1 => ?_)
  replace hm := lt_go ev3_1 hm
  refine lv_istore_n (lv' := [(3, .int v3_1), (0, .ref h_t), (1, .int a1), (2, .int a2)]) hx hb dX11_wayOn_1 rfl hl (by decide) rfl (fun ls hl => ?_)
  have L2 : ∀ (n : Nat) (v3_2 : Int32) (f_t_next_1 : Nat → Int32) (f_t_next_2 : Nat → Int32), m_Md_wayOn_L2 f_t_w n v3_2 f_t_next_1 = some f_t_next_2 → ∀ (H : Heap) (locs : List Loc), va_P (dC, dI) vwCl [(h_t, .inr (10, [.ref h_t_w, .int f_t_known, .int f_t_kept, .int f_t_seed, .ref h_t_imageSeed, .ref h_t_bookOf, .ref h_t_bookIs, .int f_t_written, .ref h_t_forms, .int f_t_formRing, .int f_t_formMany, .ref h_t_best, .ref h_t_next, .ref h_t_ways, .ref h_t_round, .ref h_t_roughs, .int f_t_latest])), (h_t_best, .inl (cA, 4096, .inl f_t_best)), (h_t_next, .inl (cA, 4096, .inl f_t_next_1)), (h_t_w, .inl (cA, 190, .inl f_t_w))] H → va_D A [(h_t, .inr (10, [.ref h_t_w, .int f_t_known, .int f_t_kept, .int f_t_seed, .ref h_t_imageSeed, .ref h_t_bookOf, .ref h_t_bookIs, .int f_t_written, .ref h_t_forms, .int f_t_formRing, .int f_t_formMany, .ref h_t_best, .ref h_t_next, .ref h_t_ways, .ref h_t_round, .ref h_t_roughs, .int f_t_latest])), (h_t_best, .inl (cA, 4096, .inl f_t_best)), (h_t_next, .inl (cA, 4096, .inl f_t_next_1)), (h_t_w, .inl (cA, 190, .inl f_t_w))] → va_S A s.heap H locs → ∀ ls : Array Slot, lv_has ls 7 [(0, .ref h_t), (1, .int a1), (2, .int a2), (3, .int v3_2)] → (∀ (H : Heap) (locs : List Loc), va_P (dC, dI) vwCl [(h_t, .inr (10, [.ref h_t_w, .int f_t_known, .int f_t_kept, .int f_t_seed, .ref h_t_imageSeed, .ref h_t_bookOf, .ref h_t_bookIs, .int f_t_written, .ref h_t_forms, .int f_t_formRing, .int f_t_formMany, .ref h_t_best, .ref h_t_next, .ref h_t_ways, .ref h_t_round, .ref h_t_roughs, .int f_t_latest])), (h_t_best, .inl (cA, 4096, .inl f_t_best)), (h_t_next, .inl (cA, 4096, .inl f_t_next_2)), (h_t_w, .inl (cA, 190, .inl f_t_w))] H → va_D A [(h_t, .inr (10, [.ref h_t_w, .int f_t_known, .int f_t_kept, .int f_t_seed, .ref h_t_imageSeed, .ref h_t_bookOf, .ref h_t_bookIs, .int f_t_written, .ref h_t_forms, .int f_t_formRing, .int f_t_formMany, .ref h_t_best, .ref h_t_next, .ref h_t_ways, .ref h_t_round, .ref h_t_roughs, .int f_t_latest])), (h_t_best, .inl (cA, 4096, .inl f_t_best)), (h_t_next, .inl (cA, 4096, .inl f_t_next_2)), (h_t_w, .inl (cA, 190, .inl f_t_w))] → va_S A s.heap H locs → ∀ ls : Array Slot, lv_has ls 7 [(0, .ref h_t), (1, .int a1), (2, .int a2)] → W p l e (headSpec wsX11_wayOn rmX11_wayOn).room s m (([.ref h_t, .int a1, .int a2] : List Value).toArray) below meth c H locs 0 0 Q (F0 m 26 ls [])) → W p l e (headSpec wsX11_wayOn rmX11_wayOn).room s m (([.ref h_t, .int a1, .int a2] : List Value).toArray) below meth c H locs 0 0 Q (F0 m 2 ls []) := by
    clear hm hP hD hS hl
    intro n
    induction n with
    | zero => intro _ _ _ hm; exact nomatch (show none = some _ from hm)
    | succ n ih =>
      intro v3_2 f_t_next_1 f_t_next_2 hm H locs hP hD hS ls hl KK
      unfold m_Md_wayOn_L2 at hm
      refine lv_iload_n hx hb dX11_wayOn_2 rfl (lv_at hl 3 rfl) ?_
      refine lv_iconst (v := 1) hx hb dX11_wayOn_3 (by decide) ?_
      refine lv_aload_n hx hb dX11_wayOn_4 rfl (lv_at hl 0 rfl) ?_
      obtain ⟨r_1, hc5, hm⟩ := bd1_go hm
      refine my_cVi (As := []) (rest := [.int 1, .int v3_2]) (WC := [(h_t, .inr (10, [.ref h_t_w, .int f_t_known, .int f_t_kept, .int f_t_seed, .ref h_t_imageSeed, .ref h_t_bookOf, .ref h_t_bookIs, .int f_t_written, .ref h_t_forms, .int f_t_formRing, .int f_t_formMany, .ref h_t_best, .ref h_t_next, .ref h_t_ways, .ref h_t_round, .ref h_t_roughs, .int f_t_latest])), (h_t_w, .inl (cA, 190, .inl f_t_w))]) (WC' := [(h_t, .inr (10, [.ref h_t_w, .int f_t_known, .int f_t_kept, .int f_t_seed, .ref h_t_imageSeed, .ref h_t_bookOf, .ref h_t_bookIs, .int f_t_written, .ref h_t_forms, .int f_t_formRing, .int f_t_formMany, .ref h_t_best, .ref h_t_next, .ref h_t_ways, .ref h_t_round, .ref h_t_roughs, .int f_t_latest])), (h_t_w, .inl (cA, 190, .inl f_t_w))]) (WR := [(h_t_best, .inl (cA, 4096, .inl f_t_best)), (h_t_next, .inl (cA, 4096, .inl f_t_next_1))]) (W' := [(h_t, .inr (10, [.ref h_t_w, .int f_t_known, .int f_t_kept, .int f_t_seed, .ref h_t_imageSeed, .ref h_t_bookOf, .ref h_t_bookIs, .int f_t_written, .ref h_t_forms, .int f_t_formRing, .int f_t_formMany, .ref h_t_best, .ref h_t_next, .ref h_t_ways, .ref h_t_round, .ref h_t_roughs, .int f_t_latest])), (h_t_best, .inl (cA, 4096, .inl f_t_best)), (h_t_next, .inl (cA, 4096, .inl f_t_next_1)), (h_t_w, .inl (cA, 190, .inl f_t_w))]) ⟨hx, hb, hml, hown, hts⟩ hK hP hD hS hA (c_Md_m l dC dI cA h_t h_t_w h_t_imageSeed h_t_bookOf h_t_bookIs h_t_forms h_t_best h_t_next h_t_ways h_t_round h_t_roughs f_t_known f_t_kept f_t_seed f_t_written f_t_formRing f_t_formMany f_t_latest f_t_w r_1 hc5) (cwV 0 hts gX11_wayOn_X11_m rfl rfl rfl (by decide +kernel) ⟨Nat.le_of_ble_eq_true rfl, Nat.le_of_ble_eq_true rfl⟩) [0, 3] [1, 2] [2, 0, 1, 3] rfl rfl rfl rfl (ci := 10) (q0 := 0) rfl rfl rfl rfl hl.1 (Nat.le_of_ble_eq_true rfl) dX11_wayOn_5 ⟨Nat.zero_le _, Nat.zero_le _⟩ (fun H locs hP hD hS => ?_)
      refine lv_ishl hx hb dX11_wayOn_8 ?_
      refine lv_icmp_ge (tgt := 26) hx hb dX11_wayOn_9 (by decide) (fun c9 => ?_) (fun c9 => ?_)
      · replace hm := if_t c9 hm
        cases hm
        exact KK _ _ hP hD hS _ (lv_sub hl [0, 1, 2] rfl)
      · replace hm := if_f c9 hm
        refine lv_aload_n hx hb dX11_wayOn_12 rfl (lv_at hl 0 rfl) ?_
        refine va_get (D := (dC, dI)) (ci := 10) (v := .ref h_t_next) (C := RX11) (T := TX11) (N := 17) hx hb hts uX11 hown hK hP 0 rfl rfl 12 (by decide) k1 (fun _ h9 => h9) rfl dX11_wayOn_13 ?_
        refine lv_iload_n hx hb dX11_wayOn_16 rfl (lv_at hl 3 rfl) ?_
        refine lv_ldc (v := 1000000) hx hb hown k2 dX11_wayOn_17 ?_
        obtain ⟨b19, hm⟩ := ck_go hm
        refine my_iast (W' := fun z' => [(h_t, .inr (10, [.ref h_t_w, .int f_t_known, .int f_t_kept, .int f_t_seed, .ref h_t_imageSeed, .ref h_t_bookOf, .ref h_t_bookIs, .int f_t_written, .ref h_t_forms, .int f_t_formRing, .int f_t_formMany, .ref h_t_best, .ref h_t_next, .ref h_t_ways, .ref h_t_round, .ref h_t_roughs, .int f_t_latest])), (h_t_best, .inl (cA, 4096, .inl f_t_best)), (h_t_next, .inl (cA, 4096, .inl z')), (h_t_w, .inl (cA, 190, .inl f_t_w))]) hx hb hK hP hD hS 2 0 rfl rfl b19 dX11_wayOn_19 (fun _ => rfl) (fun f_t_next_3 ef_t_next_3 H locs hP hD hS => ?_)
        replace hm := lt_go ef_t_next_3 hm
        obtain ⟨v3_3, ev3_3⟩ : ∃ z : Int32, z = v3_2 + 1 := ⟨_, rfl⟩
        replace hm := lt_go ev3_3 hm
        refine lv_iinc (v := v3_3) (lv' := [(3, .int v3_3), (0, .ref h_t), (1, .int a1), (2, .int a2)]) hx hb dX11_wayOn_20 hl (k := 3) rfl (by rw [ev3_3]; rfl) (by decide) rfl (fun ls hl => ?_)
        refine lv_goto (tgt := 2) hx hb dX11_wayOn_23 (by decide) ?_
        exact ih _ _ _ hm _ _ hP hD hS _ (lv_sub hl [1, 2, 3, 0] rfl) KK
  obtain ⟨f_t_next_4, hl2, hm⟩ := bd1_go hm
  refine L2 _ _ _ _ hl2 _ _ hP hD hS _ (lv_sub hl [1, 2, 3, 0] rfl) (fun H locs hP hD hS ls hl => ?_)
  refine lv_iconst (v := 0) hx hb dX11_wayOn_26 (by decide) ?_
  refine lv_topi (fun v3_4 ev3_4 => ?_)
  replace hm := lt_go ev3_4 hm
  refine lv_istore_n (lv' := [(3, .int v3_4), (0, .ref h_t), (1, .int a1), (2, .int a2)]) hx hb dX11_wayOn_27 rfl hl (by decide) rfl (fun ls hl => ?_)
  have L28 : ∀ (n : Nat) (v3_5 : Int32) (f_t_next_5 : Nat → Int32) (f_t_next_6 : Nat → Int32), m_Md_wayOn_L28 fu f_t_w f_t_best a1 a2 n v3_5 f_t_next_5 = some f_t_next_6 → ∀ (H : Heap) (locs : List Loc), va_P (dC, dI) vwCl [(h_t, .inr (10, [.ref h_t_w, .int f_t_known, .int f_t_kept, .int f_t_seed, .ref h_t_imageSeed, .ref h_t_bookOf, .ref h_t_bookIs, .int f_t_written, .ref h_t_forms, .int f_t_formRing, .int f_t_formMany, .ref h_t_best, .ref h_t_next, .ref h_t_ways, .ref h_t_round, .ref h_t_roughs, .int f_t_latest])), (h_t_best, .inl (cA, 4096, .inl f_t_best)), (h_t_next, .inl (cA, 4096, .inl f_t_next_5)), (h_t_w, .inl (cA, 190, .inl f_t_w))] H → va_D A [(h_t, .inr (10, [.ref h_t_w, .int f_t_known, .int f_t_kept, .int f_t_seed, .ref h_t_imageSeed, .ref h_t_bookOf, .ref h_t_bookIs, .int f_t_written, .ref h_t_forms, .int f_t_formRing, .int f_t_formMany, .ref h_t_best, .ref h_t_next, .ref h_t_ways, .ref h_t_round, .ref h_t_roughs, .int f_t_latest])), (h_t_best, .inl (cA, 4096, .inl f_t_best)), (h_t_next, .inl (cA, 4096, .inl f_t_next_5)), (h_t_w, .inl (cA, 190, .inl f_t_w))] → va_S A s.heap H locs → ∀ ls : Array Slot, lv_has ls 7 [(0, .ref h_t), (1, .int a1), (2, .int a2), (3, .int v3_5)] → (∀ (H : Heap) (locs : List Loc), va_P (dC, dI) vwCl [(h_t, .inr (10, [.ref h_t_w, .int f_t_known, .int f_t_kept, .int f_t_seed, .ref h_t_imageSeed, .ref h_t_bookOf, .ref h_t_bookIs, .int f_t_written, .ref h_t_forms, .int f_t_formRing, .int f_t_formMany, .ref h_t_best, .ref h_t_next, .ref h_t_ways, .ref h_t_round, .ref h_t_roughs, .int f_t_latest])), (h_t_best, .inl (cA, 4096, .inl f_t_best)), (h_t_next, .inl (cA, 4096, .inl f_t_next_6)), (h_t_w, .inl (cA, 190, .inl f_t_w))] H → va_D A [(h_t, .inr (10, [.ref h_t_w, .int f_t_known, .int f_t_kept, .int f_t_seed, .ref h_t_imageSeed, .ref h_t_bookOf, .ref h_t_bookIs, .int f_t_written, .ref h_t_forms, .int f_t_formRing, .int f_t_formMany, .ref h_t_best, .ref h_t_next, .ref h_t_ways, .ref h_t_round, .ref h_t_roughs, .int f_t_latest])), (h_t_best, .inl (cA, 4096, .inl f_t_best)), (h_t_next, .inl (cA, 4096, .inl f_t_next_6)), (h_t_w, .inl (cA, 190, .inl f_t_w))] → va_S A s.heap H locs → ∀ ls : Array Slot, lv_has ls 7 [(0, .ref h_t)] → W p l e (headSpec wsX11_wayOn rmX11_wayOn).room s m (([.ref h_t, .int a1, .int a2] : List Value).toArray) below meth c H locs 0 0 Q (F0 m 137 ls [])) → W p l e (headSpec wsX11_wayOn rmX11_wayOn).room s m (([.ref h_t, .int a1, .int a2] : List Value).toArray) below meth c H locs 0 0 Q (F0 m 28 ls []) := by
    clear hm hP hD hS hl
    intro n
    induction n with
    | zero => intro _ _ _ hm; exact nomatch (show none = some _ from hm)
    | succ n ih =>
      intro v3_5 f_t_next_5 f_t_next_6 hm H locs hP hD hS ls hl KK
      unfold m_Md_wayOn_L28 at hm
      refine lv_iload_n hx hb dX11_wayOn_28 rfl (lv_at hl 3 rfl) ?_
      refine lv_iconst (v := 1) hx hb dX11_wayOn_29 (by decide) ?_
      refine lv_aload_n hx hb dX11_wayOn_30 rfl (lv_at hl 0 rfl) ?_
      obtain ⟨r_2, hc31, hm⟩ := bd1_go hm
      refine my_cVi (As := []) (rest := [.int 1, .int v3_5]) (WC := [(h_t, .inr (10, [.ref h_t_w, .int f_t_known, .int f_t_kept, .int f_t_seed, .ref h_t_imageSeed, .ref h_t_bookOf, .ref h_t_bookIs, .int f_t_written, .ref h_t_forms, .int f_t_formRing, .int f_t_formMany, .ref h_t_best, .ref h_t_next, .ref h_t_ways, .ref h_t_round, .ref h_t_roughs, .int f_t_latest])), (h_t_w, .inl (cA, 190, .inl f_t_w))]) (WC' := [(h_t, .inr (10, [.ref h_t_w, .int f_t_known, .int f_t_kept, .int f_t_seed, .ref h_t_imageSeed, .ref h_t_bookOf, .ref h_t_bookIs, .int f_t_written, .ref h_t_forms, .int f_t_formRing, .int f_t_formMany, .ref h_t_best, .ref h_t_next, .ref h_t_ways, .ref h_t_round, .ref h_t_roughs, .int f_t_latest])), (h_t_w, .inl (cA, 190, .inl f_t_w))]) (WR := [(h_t_best, .inl (cA, 4096, .inl f_t_best)), (h_t_next, .inl (cA, 4096, .inl f_t_next_5))]) (W' := [(h_t, .inr (10, [.ref h_t_w, .int f_t_known, .int f_t_kept, .int f_t_seed, .ref h_t_imageSeed, .ref h_t_bookOf, .ref h_t_bookIs, .int f_t_written, .ref h_t_forms, .int f_t_formRing, .int f_t_formMany, .ref h_t_best, .ref h_t_next, .ref h_t_ways, .ref h_t_round, .ref h_t_roughs, .int f_t_latest])), (h_t_best, .inl (cA, 4096, .inl f_t_best)), (h_t_next, .inl (cA, 4096, .inl f_t_next_5)), (h_t_w, .inl (cA, 190, .inl f_t_w))]) ⟨hx, hb, hml, hown, hts⟩ hK hP hD hS hA (c_Md_m l dC dI cA h_t h_t_w h_t_imageSeed h_t_bookOf h_t_bookIs h_t_forms h_t_best h_t_next h_t_ways h_t_round h_t_roughs f_t_known f_t_kept f_t_seed f_t_written f_t_formRing f_t_formMany f_t_latest f_t_w r_2 hc31) (cwV 0 hts gX11_wayOn_X11_m rfl rfl rfl (by decide +kernel) ⟨Nat.le_of_ble_eq_true rfl, Nat.le_of_ble_eq_true rfl⟩) [0, 3] [1, 2] [2, 0, 1, 3] rfl rfl rfl rfl (ci := 10) (q0 := 0) rfl rfl rfl rfl hl.1 (Nat.le_of_ble_eq_true rfl) dX11_wayOn_31 ⟨Nat.zero_le _, Nat.zero_le _⟩ (fun H locs hP hD hS => ?_)
      refine lv_ishl hx hb dX11_wayOn_34 ?_
      refine lv_icmp_ge (tgt := 137) hx hb dX11_wayOn_35 (by decide) (fun c35 => ?_) (fun c35 => ?_)
      · replace hm := if_t c35 hm
        cases hm
        exact KK _ _ hP hD hS _ (lv_sub hl [0] rfl)
      · replace hm := if_f c35 hm
        refine lv_iconst (v := 0) hx hb dX11_wayOn_38 (by decide) ?_
        refine lv_topi (fun v4_1 ev4_1 => ?_)
        replace hm := lt_go ev4_1 hm
        refine lv_istore (lv' := [(4, .int v4_1), (0, .ref h_t), (1, .int a1), (2, .int a2), (3, .int v3_5)]) hx hb dX11_wayOn_39 hl (by decide) rfl (fun ls hl => ?_)
        have L41 : ∀ (n : Nat) (v4_2 : Int32) (f_t_next_7 : Nat → Int32) (f_t_next_8 : Nat → Int32), m_Md_wayOn_L41 f_t_w v3_5 f_t_best a1 a2 n v4_2 f_t_next_7 = some f_t_next_8 → ∀ (H : Heap) (locs : List Loc), va_P (dC, dI) vwCl [(h_t, .inr (10, [.ref h_t_w, .int f_t_known, .int f_t_kept, .int f_t_seed, .ref h_t_imageSeed, .ref h_t_bookOf, .ref h_t_bookIs, .int f_t_written, .ref h_t_forms, .int f_t_formRing, .int f_t_formMany, .ref h_t_best, .ref h_t_next, .ref h_t_ways, .ref h_t_round, .ref h_t_roughs, .int f_t_latest])), (h_t_best, .inl (cA, 4096, .inl f_t_best)), (h_t_next, .inl (cA, 4096, .inl f_t_next_7)), (h_t_w, .inl (cA, 190, .inl f_t_w))] H → va_D A [(h_t, .inr (10, [.ref h_t_w, .int f_t_known, .int f_t_kept, .int f_t_seed, .ref h_t_imageSeed, .ref h_t_bookOf, .ref h_t_bookIs, .int f_t_written, .ref h_t_forms, .int f_t_formRing, .int f_t_formMany, .ref h_t_best, .ref h_t_next, .ref h_t_ways, .ref h_t_round, .ref h_t_roughs, .int f_t_latest])), (h_t_best, .inl (cA, 4096, .inl f_t_best)), (h_t_next, .inl (cA, 4096, .inl f_t_next_7)), (h_t_w, .inl (cA, 190, .inl f_t_w))] → va_S A s.heap H locs → ∀ ls : Array Slot, lv_has ls 7 [(0, .ref h_t), (1, .int a1), (2, .int a2), (3, .int v3_5), (4, .int v4_2)] → (∀ (H : Heap) (locs : List Loc), va_P (dC, dI) vwCl [(h_t, .inr (10, [.ref h_t_w, .int f_t_known, .int f_t_kept, .int f_t_seed, .ref h_t_imageSeed, .ref h_t_bookOf, .ref h_t_bookIs, .int f_t_written, .ref h_t_forms, .int f_t_formRing, .int f_t_formMany, .ref h_t_best, .ref h_t_next, .ref h_t_ways, .ref h_t_round, .ref h_t_roughs, .int f_t_latest])), (h_t_best, .inl (cA, 4096, .inl f_t_best)), (h_t_next, .inl (cA, 4096, .inl f_t_next_8)), (h_t_w, .inl (cA, 190, .inl f_t_w))] H → va_D A [(h_t, .inr (10, [.ref h_t_w, .int f_t_known, .int f_t_kept, .int f_t_seed, .ref h_t_imageSeed, .ref h_t_bookOf, .ref h_t_bookIs, .int f_t_written, .ref h_t_forms, .int f_t_formRing, .int f_t_formMany, .ref h_t_best, .ref h_t_next, .ref h_t_ways, .ref h_t_round, .ref h_t_roughs, .int f_t_latest])), (h_t_best, .inl (cA, 4096, .inl f_t_best)), (h_t_next, .inl (cA, 4096, .inl f_t_next_8)), (h_t_w, .inl (cA, 190, .inl f_t_w))] → va_S A s.heap H locs → ∀ ls : Array Slot, lv_has ls 7 [(0, .ref h_t), (1, .int a1), (2, .int a2), (3, .int v3_5)] → W p l e (headSpec wsX11_wayOn rmX11_wayOn).room s m (([.ref h_t, .int a1, .int a2] : List Value).toArray) below meth c H locs 0 0 Q (F0 m 131 ls [])) → W p l e (headSpec wsX11_wayOn rmX11_wayOn).room s m (([.ref h_t, .int a1, .int a2] : List Value).toArray) below meth c H locs 0 0 Q (F0 m 41 ls []) := by
          clear hm hP hD hS hl
          intro n
          induction n with
          | zero => intro _ _ _ hm; exact nomatch (show none = some _ from hm)
          | succ n ih =>
            intro v4_2 f_t_next_7 f_t_next_8 hm H locs hP hD hS ls hl KK
            unfold m_Md_wayOn_L41 at hm
            refine lv_iload hx hb dX11_wayOn_41 (lv_at hl 4 rfl) ?_
            refine lv_aload_n hx hb dX11_wayOn_43 rfl (lv_at hl 0 rfl) ?_
            obtain ⟨r_3, hc44, hm⟩ := bd1_go hm
            refine my_cVi (As := []) (rest := [.int v4_2]) (WC := [(h_t, .inr (10, [.ref h_t_w, .int f_t_known, .int f_t_kept, .int f_t_seed, .ref h_t_imageSeed, .ref h_t_bookOf, .ref h_t_bookIs, .int f_t_written, .ref h_t_forms, .int f_t_formRing, .int f_t_formMany, .ref h_t_best, .ref h_t_next, .ref h_t_ways, .ref h_t_round, .ref h_t_roughs, .int f_t_latest])), (h_t_w, .inl (cA, 190, .inl f_t_w))]) (WC' := [(h_t, .inr (10, [.ref h_t_w, .int f_t_known, .int f_t_kept, .int f_t_seed, .ref h_t_imageSeed, .ref h_t_bookOf, .ref h_t_bookIs, .int f_t_written, .ref h_t_forms, .int f_t_formRing, .int f_t_formMany, .ref h_t_best, .ref h_t_next, .ref h_t_ways, .ref h_t_round, .ref h_t_roughs, .int f_t_latest])), (h_t_w, .inl (cA, 190, .inl f_t_w))]) (WR := [(h_t_best, .inl (cA, 4096, .inl f_t_best)), (h_t_next, .inl (cA, 4096, .inl f_t_next_7))]) (W' := [(h_t, .inr (10, [.ref h_t_w, .int f_t_known, .int f_t_kept, .int f_t_seed, .ref h_t_imageSeed, .ref h_t_bookOf, .ref h_t_bookIs, .int f_t_written, .ref h_t_forms, .int f_t_formRing, .int f_t_formMany, .ref h_t_best, .ref h_t_next, .ref h_t_ways, .ref h_t_round, .ref h_t_roughs, .int f_t_latest])), (h_t_best, .inl (cA, 4096, .inl f_t_best)), (h_t_next, .inl (cA, 4096, .inl f_t_next_7)), (h_t_w, .inl (cA, 190, .inl f_t_w))]) ⟨hx, hb, hml, hown, hts⟩ hK hP hD hS hA (c_Md_m l dC dI cA h_t h_t_w h_t_imageSeed h_t_bookOf h_t_bookIs h_t_forms h_t_best h_t_next h_t_ways h_t_round h_t_roughs f_t_known f_t_kept f_t_seed f_t_written f_t_formRing f_t_formMany f_t_latest f_t_w r_3 hc44) (cwV 0 hts gX11_wayOn_X11_m rfl rfl rfl (by decide +kernel) ⟨Nat.le_of_ble_eq_true rfl, Nat.le_of_ble_eq_true rfl⟩) [0, 3] [1, 2] [2, 0, 1, 3] rfl rfl rfl rfl (ci := 10) (q0 := 0) rfl rfl rfl rfl hl.1 (Nat.le_of_ble_eq_true rfl) dX11_wayOn_44 ⟨Nat.zero_le _, Nat.zero_le _⟩ (fun H locs hP hD hS => ?_)
            refine lv_icmp_ge (tgt := 131) hx hb dX11_wayOn_47 (by decide) (fun c47 => ?_) (fun c47 => ?_)
            · replace hm := if_t c47 hm
              cases hm
              exact KK _ _ hP hD hS _ (lv_sub hl [0, 1, 2, 3] rfl)
            · replace hm := if_f c47 hm
              refine lv_aload_n hx hb dX11_wayOn_50 rfl (lv_at hl 0 rfl) ?_
              refine va_get (D := (dC, dI)) (ci := 10) (v := .ref h_t_best) (C := RX11) (T := TX11) (N := 17) hx hb hts uX11 hown hK hP 0 rfl rfl 11 (by decide) k3 (fun _ h9 => h9) rfl dX11_wayOn_51 ?_
              refine lv_iload_n hx hb dX11_wayOn_54 rfl (lv_at hl 3 rfl) ?_
              obtain ⟨b55, hm⟩ := ck_go hm
              refine va_iald hx hb hK hP 1 0 rfl rfl b55 dX11_wayOn_55 ?_
              refine lv_ldc (v := 1000000) hx hb hown k2 dX11_wayOn_56 ?_
              refine lv_icmp_ge (tgt := 131) hx hb dX11_wayOn_58 (by decide) (fun c58 => ?_) (fun c58 => ?_)
              · replace hm := if_t c58 hm
                cases hm
                exact KK _ _ hP hD hS _ (lv_sub hl [0, 1, 2, 3] rfl)
              · replace hm := if_f c58 hm
                refine lv_iload_n hx hb dX11_wayOn_61 rfl (lv_at hl 3 rfl) ?_
                refine lv_iconst (v := 1) hx hb dX11_wayOn_62 (by decide) ?_
                refine lv_iload hx hb dX11_wayOn_63 (lv_at hl 4 rfl) ?_
                refine lv_ishl hx hb dX11_wayOn_65 ?_
                refine lv_ior hx hb dX11_wayOn_66 ?_
                refine lv_topi (fun v5_1 ev5_1 => ?_)
                replace hm := lt_go ev5_1 hm
                refine lv_istore (lv' := [(5, .int v5_1), (0, .ref h_t), (1, .int a1), (2, .int a2), (3, .int v3_5), (4, .int v4_2)]) hx hb dX11_wayOn_67 hl (by decide) rfl (fun ls hl => ?_)
                refine lv_aload_n hx hb dX11_wayOn_69 rfl (lv_at hl 1 rfl) ?_
                refine va_get (D := (dC, dI)) (ci := 10) (v := .ref h_t_best) (C := RX11) (T := TX11) (N := 17) hx hb hts uX11 hown hK hP 0 rfl rfl 11 (by decide) k3 (fun _ h9 => h9) rfl dX11_wayOn_70 ?_
                refine lv_iload_n hx hb dX11_wayOn_73 rfl (lv_at hl 4 rfl) ?_
                obtain ⟨b74, hm⟩ := ck_go hm
                refine va_iald hx hb hK hP 1 0 rfl rfl b74 dX11_wayOn_74 ?_
                refine lv_aload_n hx hb dX11_wayOn_75 rfl (lv_at hl 1 rfl) ?_
                refine lv_iload_n hx hb dX11_wayOn_76 rfl (lv_at hl 2 rfl) ?_
                refine lv_iload hx hb dX11_wayOn_77 (lv_at hl 5 rfl) ?_
                obtain ⟨r_4, hc79, hm⟩ := bd1_go hm
                refine my_cVi (As := [.int a1, .int v4_2]) (rest := [.int (f_t_best v3_5.toNatClampNeg)]) (WC := [(h_t, .inr (10, [.ref h_t_w, .int f_t_known, .int f_t_kept, .int f_t_seed, .ref h_t_imageSeed, .ref h_t_bookOf, .ref h_t_bookIs, .int f_t_written, .ref h_t_forms, .int f_t_formRing, .int f_t_formMany, .ref h_t_best, .ref h_t_next, .ref h_t_ways, .ref h_t_round, .ref h_t_roughs, .int f_t_latest])), (h_t_w, .inl (cA, 190, .inl f_t_w))]) (WC' := [(h_t, .inr (10, [.ref h_t_w, .int f_t_known, .int f_t_kept, .int f_t_seed, .ref h_t_imageSeed, .ref h_t_bookOf, .ref h_t_bookIs, .int f_t_written, .ref h_t_forms, .int f_t_formRing, .int f_t_formMany, .ref h_t_best, .ref h_t_next, .ref h_t_ways, .ref h_t_round, .ref h_t_roughs, .int f_t_latest])), (h_t_w, .inl (cA, 190, .inl f_t_w))]) (WR := [(h_t_best, .inl (cA, 4096, .inl f_t_best)), (h_t_next, .inl (cA, 4096, .inl f_t_next_7))]) (W' := [(h_t, .inr (10, [.ref h_t_w, .int f_t_known, .int f_t_kept, .int f_t_seed, .ref h_t_imageSeed, .ref h_t_bookOf, .ref h_t_bookIs, .int f_t_written, .ref h_t_forms, .int f_t_formRing, .int f_t_formMany, .ref h_t_best, .ref h_t_next, .ref h_t_ways, .ref h_t_round, .ref h_t_roughs, .int f_t_latest])), (h_t_best, .inl (cA, 4096, .inl f_t_best)), (h_t_next, .inl (cA, 4096, .inl f_t_next_7)), (h_t_w, .inl (cA, 190, .inl f_t_w))]) ⟨hx, hb, hml, hown, hts⟩ hK hP hD hS hA (c_Md_apart l dC dI cA h_t h_t_w h_t_imageSeed h_t_bookOf h_t_bookIs h_t_forms h_t_best h_t_next h_t_ways h_t_round h_t_roughs f_t_known f_t_kept f_t_seed f_t_written f_t_formRing f_t_formMany f_t_latest f_t_w a1 v4_2 r_4 hc79) (cwV 2 hts gX11_wayOn_X11_apart rfl rfl rfl (by decide +kernel) ⟨Nat.le_of_ble_eq_true rfl, Nat.le_of_ble_eq_true rfl⟩) [0, 3] [1, 2] [2, 0, 1, 3] rfl rfl rfl rfl (ci := 10) (q0 := 0) rfl rfl rfl rfl hl.1 (Nat.le_of_ble_eq_true rfl) dX11_wayOn_79 ⟨Nat.zero_le _, Nat.zero_le _⟩ (fun H locs hP hD hS => ?_)
                refine lv_iadd hx hb dX11_wayOn_82 ?_
                refine lv_topi (fun v6_1 ev6_1 => ?_)
                replace hm := lt_go ev6_1 hm
                refine lv_istore (lv' := [(6, .int v6_1), (5, .int v5_1), (0, .ref h_t), (1, .int a1), (2, .int a2), (3, .int v3_5), (4, .int v4_2)]) hx hb dX11_wayOn_83 hl (by decide) rfl (fun ls hl => ?_)
                refine lv_aload_n hx hb dX11_wayOn_85 rfl (lv_at hl 2 rfl) ?_
                refine va_get (D := (dC, dI)) (ci := 10) (v := .ref h_t_next) (C := RX11) (T := TX11) (N := 17) hx hb hts uX11 hown hK hP 0 rfl rfl 12 (by decide) k1 (fun _ h9 => h9) rfl dX11_wayOn_86 ?_
                refine lv_iload hx hb dX11_wayOn_89 (lv_at hl 1 rfl) ?_
                refine lv_iload_n hx hb dX11_wayOn_91 rfl (lv_at hl 4 rfl) ?_
                refine lv_iload hx hb dX11_wayOn_92 (lv_at hl 6 rfl) ?_
                obtain ⟨r_5, hc94, hm⟩ := bd1_go hm
                refine my_cSi (As := [.int a2, .int v4_2]) (rest := [.int v5_1, .ref h_t_next]) (WC := []) (WC' := []) (WR := [(h_t, .inr (10, [.ref h_t_w, .int f_t_known, .int f_t_kept, .int f_t_seed, .ref h_t_imageSeed, .ref h_t_bookOf, .ref h_t_bookIs, .int f_t_written, .ref h_t_forms, .int f_t_formRing, .int f_t_formMany, .ref h_t_best, .ref h_t_next, .ref h_t_ways, .ref h_t_round, .ref h_t_roughs, .int f_t_latest])), (h_t_best, .inl (cA, 4096, .inl f_t_best)), (h_t_next, .inl (cA, 4096, .inl f_t_next_7)), (h_t_w, .inl (cA, 190, .inl f_t_w))]) (W' := [(h_t, .inr (10, [.ref h_t_w, .int f_t_known, .int f_t_kept, .int f_t_seed, .ref h_t_imageSeed, .ref h_t_bookOf, .ref h_t_bookIs, .int f_t_written, .ref h_t_forms, .int f_t_formRing, .int f_t_formMany, .ref h_t_best, .ref h_t_next, .ref h_t_ways, .ref h_t_round, .ref h_t_roughs, .int f_t_latest])), (h_t_best, .inl (cA, 4096, .inl f_t_best)), (h_t_next, .inl (cA, 4096, .inl f_t_next_7)), (h_t_w, .inl (cA, 190, .inl f_t_w))]) ⟨hx, hb, hml, hown, hts⟩ hK hP hD hS hA (c_Md_has l dC dI cA a2 v4_2 r_5 hc94) (va_cwS 2 hts gX11_wayOn_X11_has rfl rfl rfl (by decide +kernel) ⟨Nat.le_of_ble_eq_true rfl, Nat.le_of_ble_eq_true rfl⟩) [] [0, 1, 2, 3] [0, 1, 2, 3] rfl rfl rfl rfl rfl rfl hl.1 (Nat.le_of_ble_eq_true rfl) dX11_wayOn_94 ⟨Nat.zero_le _, Nat.zero_le _⟩ (fun H locs hP hD hS => ?_)
                obtain ⟨q124_1, hqJ_1, hm⟩ := bd1_go hm
                have J_1 : ∀ (H : Heap) (locs : List Loc), va_P (dC, dI) vwCl [(h_t, .inr (10, [.ref h_t_w, .int f_t_known, .int f_t_kept, .int f_t_seed, .ref h_t_imageSeed, .ref h_t_bookOf, .ref h_t_bookIs, .int f_t_written, .ref h_t_forms, .int f_t_formRing, .int f_t_formMany, .ref h_t_best, .ref h_t_next, .ref h_t_ways, .ref h_t_round, .ref h_t_roughs, .int f_t_latest])), (h_t_best, .inl (cA, 4096, .inl f_t_best)), (h_t_next, .inl (cA, 4096, .inl f_t_next_7)), (h_t_w, .inl (cA, 190, .inl f_t_w))] H → va_D A [(h_t, .inr (10, [.ref h_t_w, .int f_t_known, .int f_t_kept, .int f_t_seed, .ref h_t_imageSeed, .ref h_t_bookOf, .ref h_t_bookIs, .int f_t_written, .ref h_t_forms, .int f_t_formRing, .int f_t_formMany, .ref h_t_best, .ref h_t_next, .ref h_t_ways, .ref h_t_round, .ref h_t_roughs, .int f_t_latest])), (h_t_best, .inl (cA, 4096, .inl f_t_best)), (h_t_next, .inl (cA, 4096, .inl f_t_next_7)), (h_t_w, .inl (cA, 190, .inl f_t_w))] → va_S A s.heap H locs → ∀ ls : Array Slot, lv_has ls 7 [(0, .ref h_t), (1, .int a1), (2, .int a2), (3, .int v3_5), (4, .int v4_2)] → W p l e (headSpec wsX11_wayOn rmX11_wayOn).room s m (([.ref h_t, .int a1, .int a2] : List Value).toArray) below meth c H locs 0 0 Q (F0 m 124 ls [.int q124_1, .int v5_1, .ref h_t_next]) := by
                  intro H locs hP hD hS ls hl
                  clear hqJ_1
                  obtain ⟨b124, hm⟩ := ck_go hm
                  refine my_iast (W' := fun z' => [(h_t, .inr (10, [.ref h_t_w, .int f_t_known, .int f_t_kept, .int f_t_seed, .ref h_t_imageSeed, .ref h_t_bookOf, .ref h_t_bookIs, .int f_t_written, .ref h_t_forms, .int f_t_formRing, .int f_t_formMany, .ref h_t_best, .ref h_t_next, .ref h_t_ways, .ref h_t_round, .ref h_t_roughs, .int f_t_latest])), (h_t_best, .inl (cA, 4096, .inl f_t_best)), (h_t_next, .inl (cA, 4096, .inl z')), (h_t_w, .inl (cA, 190, .inl f_t_w))]) hx hb hK hP hD hS 2 0 rfl rfl b124 dX11_wayOn_124 (fun _ => rfl) (fun f_t_next_9 ef_t_next_9 H locs hP hD hS => ?_)
                  replace hm := lt_go ef_t_next_9 hm
                  obtain ⟨v4_3, ev4_3⟩ : ∃ z : Int32, z = v4_2 + 1 := ⟨_, rfl⟩
                  replace hm := lt_go ev4_3 hm
                  refine lv_iinc (v := v4_3) (lv' := [(4, .int v4_3), (0, .ref h_t), (1, .int a1), (2, .int a2), (3, .int v3_5)]) hx hb dX11_wayOn_125 hl (k := 4) rfl (by rw [ev4_3]; rfl) (by decide) rfl (fun ls hl => ?_)
                  refine lv_goto (tgt := 41) hx hb dX11_wayOn_128 (by decide) ?_
                  exact ih _ _ _ hm _ _ hP hD hS _ (lv_sub hl [1, 2, 3, 4, 0] rfl) KK
                clear hm
                refine lv_if_eq (tgt := 117) hx hb dX11_wayOn_97 (by decide) (fun c97 => ?_) (fun c97 => ?_)
                · replace hqJ_1 := if_t c97 hqJ_1
                  refine lv_aload_n hx hb dX11_wayOn_117 rfl (lv_at hl 2 rfl) ?_
                  refine va_get (D := (dC, dI)) (ci := 10) (v := .ref h_t_next) (C := RX11) (T := TX11) (N := 17) hx hb hts uX11 hown hK hP 0 rfl rfl 12 (by decide) k1 (fun _ h9 => h9) rfl dX11_wayOn_118 ?_
                  refine lv_iload hx hb dX11_wayOn_121 (lv_at hl 1 rfl) ?_
                  obtain ⟨b123, hqJ_1⟩ := ck_go hqJ_1
                  refine va_iald hx hb hK hP 2 0 rfl rfl b123 dX11_wayOn_123 ?_
                  cases hqJ_1
                  exact J_1 _ _ hP hD hS _ (lv_sub hl [2, 3, 4, 5, 6] rfl)
                · replace hqJ_1 := if_f c97 hqJ_1
                  refine lv_iload hx hb dX11_wayOn_100 (lv_at hl 0 rfl) ?_
                  refine lv_aload_n hx hb dX11_wayOn_102 rfl (lv_at hl 2 rfl) ?_
                  refine va_get (D := (dC, dI)) (ci := 10) (v := .ref h_t_next) (C := RX11) (T := TX11) (N := 17) hx hb hts uX11 hown hK hP 0 rfl rfl 12 (by decide) k1 (fun _ h9 => h9) rfl dX11_wayOn_103 ?_
                  refine lv_iload hx hb dX11_wayOn_106 (lv_at hl 1 rfl) ?_
                  obtain ⟨b108, hqJ_1⟩ := ck_go hqJ_1
                  refine va_iald hx hb hK hP 2 0 rfl rfl b108 dX11_wayOn_108 ?_
                  refine lv_icmp_ge (tgt := 117) hx hb dX11_wayOn_109 (by decide) (fun c109 => ?_) (fun c109 => ?_)
                  · replace hqJ_1 := if_t c109 hqJ_1
                    refine lv_aload_n hx hb dX11_wayOn_117 rfl (lv_at hl 2 rfl) ?_
                    refine va_get (D := (dC, dI)) (ci := 10) (v := .ref h_t_next) (C := RX11) (T := TX11) (N := 17) hx hb hts uX11 hown hK hP 0 rfl rfl 12 (by decide) k1 (fun _ h9 => h9) rfl dX11_wayOn_118 ?_
                    refine lv_iload hx hb dX11_wayOn_121 (lv_at hl 1 rfl) ?_
                    obtain ⟨b123, hqJ_1⟩ := ck_go hqJ_1
                    refine va_iald hx hb hK hP 2 0 rfl rfl b123 dX11_wayOn_123 ?_
                    cases hqJ_1
                    exact J_1 _ _ hP hD hS _ (lv_sub hl [2, 3, 4, 5, 6] rfl)
                  · replace hqJ_1 := if_f c109 hqJ_1
                    refine lv_iload hx hb dX11_wayOn_112 (lv_at hl 0 rfl) ?_
                    refine lv_goto (tgt := 124) hx hb dX11_wayOn_114 (by decide) ?_
                    cases hqJ_1
                    exact J_1 _ _ hP hD hS _ (lv_sub hl [2, 3, 4, 5, 6] rfl)
        obtain ⟨f_t_next_10, hl41, hm⟩ := bd1_go hm
        refine L41 _ _ _ _ hl41 _ _ hP hD hS _ (lv_sub hl [1, 2, 3, 4, 0] rfl) (fun H locs hP hD hS ls hl => ?_)
        obtain ⟨v3_6, ev3_6⟩ : ∃ z : Int32, z = v3_5 + 1 := ⟨_, rfl⟩
        replace hm := lt_go ev3_6 hm
        refine lv_iinc (v := v3_6) (lv' := [(3, .int v3_6), (0, .ref h_t), (1, .int a1), (2, .int a2)]) hx hb dX11_wayOn_131 hl (k := 3) rfl (by rw [ev3_6]; rfl) (by decide) rfl (fun ls hl => ?_)
        refine lv_goto (tgt := 28) hx hb dX11_wayOn_134 (by decide) ?_
        exact ih _ _ _ hm _ _ hP hD hS _ (lv_sub hl [1, 2, 3, 0] rfl) KK
  obtain ⟨f_t_next_11, hl28, hm⟩ := bd1_go hm
  refine L28 _ _ _ _ hl28 _ _ hP hD hS _ (lv_sub hl [1, 2, 3, 0] rfl) (fun H locs hP hD hS ls hl => ?_)
  refine lv_iconst (v := 0) hx hb dX11_wayOn_137 (by decide) ?_
  refine lv_topi (fun v3_7 ev3_7 => ?_)
  replace hm := lt_go ev3_7 hm
  refine lv_istore_n (lv' := [(3, .int v3_7), (0, .ref h_t)]) hx hb dX11_wayOn_138 rfl hl (by decide) rfl (fun ls hl => ?_)
  have L139 : ∀ (n : Nat) (v3_8 : Int32) (f_t_best_1 : Nat → Int32) (f_t_best_2 : Nat → Int32), m_Md_wayOn_L139 f_t_w f_t_next_11 n v3_8 f_t_best_1 = some f_t_best_2 → ∀ (H : Heap) (locs : List Loc), va_P (dC, dI) vwCl [(h_t, .inr (10, [.ref h_t_w, .int f_t_known, .int f_t_kept, .int f_t_seed, .ref h_t_imageSeed, .ref h_t_bookOf, .ref h_t_bookIs, .int f_t_written, .ref h_t_forms, .int f_t_formRing, .int f_t_formMany, .ref h_t_best, .ref h_t_next, .ref h_t_ways, .ref h_t_round, .ref h_t_roughs, .int f_t_latest])), (h_t_best, .inl (cA, 4096, .inl f_t_best_1)), (h_t_next, .inl (cA, 4096, .inl f_t_next_11)), (h_t_w, .inl (cA, 190, .inl f_t_w))] H → va_D A [(h_t, .inr (10, [.ref h_t_w, .int f_t_known, .int f_t_kept, .int f_t_seed, .ref h_t_imageSeed, .ref h_t_bookOf, .ref h_t_bookIs, .int f_t_written, .ref h_t_forms, .int f_t_formRing, .int f_t_formMany, .ref h_t_best, .ref h_t_next, .ref h_t_ways, .ref h_t_round, .ref h_t_roughs, .int f_t_latest])), (h_t_best, .inl (cA, 4096, .inl f_t_best_1)), (h_t_next, .inl (cA, 4096, .inl f_t_next_11)), (h_t_w, .inl (cA, 190, .inl f_t_w))] → va_S A s.heap H locs → ∀ ls : Array Slot, lv_has ls 7 [(0, .ref h_t), (3, .int v3_8)] → (∀ (H : Heap) (locs : List Loc), va_P (dC, dI) vwCl [(h_t, .inr (10, [.ref h_t_w, .int f_t_known, .int f_t_kept, .int f_t_seed, .ref h_t_imageSeed, .ref h_t_bookOf, .ref h_t_bookIs, .int f_t_written, .ref h_t_forms, .int f_t_formRing, .int f_t_formMany, .ref h_t_best, .ref h_t_next, .ref h_t_ways, .ref h_t_round, .ref h_t_roughs, .int f_t_latest])), (h_t_best, .inl (cA, 4096, .inl f_t_best_2)), (h_t_next, .inl (cA, 4096, .inl f_t_next_11)), (h_t_w, .inl (cA, 190, .inl f_t_w))] H → va_D A [(h_t, .inr (10, [.ref h_t_w, .int f_t_known, .int f_t_kept, .int f_t_seed, .ref h_t_imageSeed, .ref h_t_bookOf, .ref h_t_bookIs, .int f_t_written, .ref h_t_forms, .int f_t_formRing, .int f_t_formMany, .ref h_t_best, .ref h_t_next, .ref h_t_ways, .ref h_t_round, .ref h_t_roughs, .int f_t_latest])), (h_t_best, .inl (cA, 4096, .inl f_t_best_2)), (h_t_next, .inl (cA, 4096, .inl f_t_next_11)), (h_t_w, .inl (cA, 190, .inl f_t_w))] → va_S A s.heap H locs → ∀ ls : Array Slot, lv_has ls 7 [] → W p l e (headSpec wsX11_wayOn rmX11_wayOn).room s m (([.ref h_t, .int a1, .int a2] : List Value).toArray) below meth c H locs 0 0 Q (F0 m 167 ls [])) → W p l e (headSpec wsX11_wayOn rmX11_wayOn).room s m (([.ref h_t, .int a1, .int a2] : List Value).toArray) below meth c H locs 0 0 Q (F0 m 139 ls []) := by
    clear hm hP hD hS hl
    intro n
    induction n with
    | zero => intro _ _ _ hm; exact nomatch (show none = some _ from hm)
    | succ n ih =>
      intro v3_8 f_t_best_1 f_t_best_2 hm H locs hP hD hS ls hl KK
      unfold m_Md_wayOn_L139 at hm
      refine lv_iload_n hx hb dX11_wayOn_139 rfl (lv_at hl 1 rfl) ?_
      refine lv_iconst (v := 1) hx hb dX11_wayOn_140 (by decide) ?_
      refine lv_aload_n hx hb dX11_wayOn_141 rfl (lv_at hl 0 rfl) ?_
      obtain ⟨r_6, hc142, hm⟩ := bd1_go hm
      refine my_cVi (As := []) (rest := [.int 1, .int v3_8]) (WC := [(h_t, .inr (10, [.ref h_t_w, .int f_t_known, .int f_t_kept, .int f_t_seed, .ref h_t_imageSeed, .ref h_t_bookOf, .ref h_t_bookIs, .int f_t_written, .ref h_t_forms, .int f_t_formRing, .int f_t_formMany, .ref h_t_best, .ref h_t_next, .ref h_t_ways, .ref h_t_round, .ref h_t_roughs, .int f_t_latest])), (h_t_w, .inl (cA, 190, .inl f_t_w))]) (WC' := [(h_t, .inr (10, [.ref h_t_w, .int f_t_known, .int f_t_kept, .int f_t_seed, .ref h_t_imageSeed, .ref h_t_bookOf, .ref h_t_bookIs, .int f_t_written, .ref h_t_forms, .int f_t_formRing, .int f_t_formMany, .ref h_t_best, .ref h_t_next, .ref h_t_ways, .ref h_t_round, .ref h_t_roughs, .int f_t_latest])), (h_t_w, .inl (cA, 190, .inl f_t_w))]) (WR := [(h_t_best, .inl (cA, 4096, .inl f_t_best_1)), (h_t_next, .inl (cA, 4096, .inl f_t_next_11))]) (W' := [(h_t, .inr (10, [.ref h_t_w, .int f_t_known, .int f_t_kept, .int f_t_seed, .ref h_t_imageSeed, .ref h_t_bookOf, .ref h_t_bookIs, .int f_t_written, .ref h_t_forms, .int f_t_formRing, .int f_t_formMany, .ref h_t_best, .ref h_t_next, .ref h_t_ways, .ref h_t_round, .ref h_t_roughs, .int f_t_latest])), (h_t_best, .inl (cA, 4096, .inl f_t_best_1)), (h_t_next, .inl (cA, 4096, .inl f_t_next_11)), (h_t_w, .inl (cA, 190, .inl f_t_w))]) ⟨hx, hb, hml, hown, hts⟩ hK hP hD hS hA (c_Md_m l dC dI cA h_t h_t_w h_t_imageSeed h_t_bookOf h_t_bookIs h_t_forms h_t_best h_t_next h_t_ways h_t_round h_t_roughs f_t_known f_t_kept f_t_seed f_t_written f_t_formRing f_t_formMany f_t_latest f_t_w r_6 hc142) (cwV 0 hts gX11_wayOn_X11_m rfl rfl rfl (by decide +kernel) ⟨Nat.le_of_ble_eq_true rfl, Nat.le_of_ble_eq_true rfl⟩) [0, 3] [1, 2] [2, 0, 1, 3] rfl rfl rfl rfl (ci := 10) (q0 := 0) rfl rfl rfl rfl hl.1 (Nat.le_of_ble_eq_true rfl) dX11_wayOn_142 ⟨Nat.zero_le _, Nat.zero_le _⟩ (fun H locs hP hD hS => ?_)
      refine lv_ishl hx hb dX11_wayOn_145 ?_
      refine lv_icmp_ge (tgt := 167) hx hb dX11_wayOn_146 (by decide) (fun c146 => ?_) (fun c146 => ?_)
      · replace hm := if_t c146 hm
        cases hm
        exact KK _ _ hP hD hS _ (lv_sub hl [] rfl)
      · replace hm := if_f c146 hm
        refine lv_aload_n hx hb dX11_wayOn_149 rfl (lv_at hl 0 rfl) ?_
        refine va_get (D := (dC, dI)) (ci := 10) (v := .ref h_t_best) (C := RX11) (T := TX11) (N := 17) hx hb hts uX11 hown hK hP 0 rfl rfl 11 (by decide) k3 (fun _ h9 => h9) rfl dX11_wayOn_150 ?_
        refine lv_iload_n hx hb dX11_wayOn_153 rfl (lv_at hl 1 rfl) ?_
        refine lv_aload_n hx hb dX11_wayOn_154 rfl (lv_at hl 0 rfl) ?_
        refine va_get (D := (dC, dI)) (ci := 10) (v := .ref h_t_next) (C := RX11) (T := TX11) (N := 17) hx hb hts uX11 hown hK hP 0 rfl rfl 12 (by decide) k1 (fun _ h9 => h9) rfl dX11_wayOn_155 ?_
        refine lv_iload_n hx hb dX11_wayOn_158 rfl (lv_at hl 1 rfl) ?_
        obtain ⟨b159, hm⟩ := ck_go hm
        refine va_iald hx hb hK hP 2 0 rfl rfl b159 dX11_wayOn_159 ?_
        obtain ⟨b160, hm⟩ := ck_go hm
        refine my_iast (W' := fun z' => [(h_t, .inr (10, [.ref h_t_w, .int f_t_known, .int f_t_kept, .int f_t_seed, .ref h_t_imageSeed, .ref h_t_bookOf, .ref h_t_bookIs, .int f_t_written, .ref h_t_forms, .int f_t_formRing, .int f_t_formMany, .ref h_t_best, .ref h_t_next, .ref h_t_ways, .ref h_t_round, .ref h_t_roughs, .int f_t_latest])), (h_t_best, .inl (cA, 4096, .inl z')), (h_t_next, .inl (cA, 4096, .inl f_t_next_11)), (h_t_w, .inl (cA, 190, .inl f_t_w))]) hx hb hK hP hD hS 1 0 rfl rfl b160 dX11_wayOn_160 (fun _ => rfl) (fun f_t_best_3 ef_t_best_3 H locs hP hD hS => ?_)
        replace hm := lt_go ef_t_best_3 hm
        obtain ⟨v3_9, ev3_9⟩ : ∃ z : Int32, z = v3_8 + 1 := ⟨_, rfl⟩
        replace hm := lt_go ev3_9 hm
        refine lv_iinc (v := v3_9) (lv' := [(3, .int v3_9), (0, .ref h_t)]) hx hb dX11_wayOn_161 hl (k := 1) rfl (by rw [ev3_9]; rfl) (by decide) rfl (fun ls hl => ?_)
        refine lv_goto (tgt := 139) hx hb dX11_wayOn_164 (by decide) ?_
        exact ih _ _ _ hm _ _ hP hD hS _ (lv_sub hl [1, 0] rfl) KK
  obtain ⟨f_t_best_4, hl139, hm⟩ := bd1_go hm
  refine L139 _ _ _ _ hl139 _ _ hP hD hS _ (lv_sub hl [1, 0] rfl) (fun H locs hP hD hS ls hl => ?_)
  cases hm
  exact W_mono hQ (W.vret hx hb hr (fun t ht hW => ⟨⟨(), rfl, trivial, by rw [ht]; exact hP, va_K.moved hW.alike hK, hD⟩, hS.F ht⟩) hS.2.2 dX11_wayOn_167)
