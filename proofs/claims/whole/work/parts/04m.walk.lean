abbrev rmX11_wayDown : Room := { frames := 3, cells := 0, slots := 0, locals := 69 }
theorem uX11_X11_wayDown : ∀ w ∈ wsX110, w ∈ wsX11_wayDown := fun _ h => List.mem_cons_of_mem _ (List.mem_append_right _ (h))
set_option maxHeartbeats 40000000 in
set_option maxRecDepth 100000 in
theorem c_Md_wayDown (l : Launch) (dC : Nat → ClassId) (dI : Nat → Nat → Nat) (cA : ClassId) (fu : Nat) (h_t h_t_w h_t_imageSeed h_t_bookOf h_t_bookIs h_t_forms h_t_best h_t_next h_t_ways h_t_round h_t_roughs : Nat) (f_t_known : Int32) (f_t_kept : Int32) (f_t_seed : Int32) (f_t_written : Int32) (f_t_formRing : Int32) (f_t_formMany : Int32) (f_t_latest : Int32) (f_t_best : Nat → Int32) (f_t_next : Nat → Int32) (f_t_w : Nat → Int32) (a1 : Int32) (a2 : Int32) (r0 : Int32) (f_t_best_z : Nat → Int32) (f_t_next_z : Nat → Int32) (hm : m_Md_wayDown fu f_t_best f_t_next f_t_w a1 a2 = some (r0, f_t_best_z, f_t_next_z)) (sz : Nat) : Met l yX11_wayDown wsX11_wayDown rmX11_wayDown (mPre (dC, dI) cA [.ref h_t, .int a1, .int a2] sz [(h_t, .inr (10, [.ref h_t_w, .int f_t_known, .int f_t_kept, .int f_t_seed, .ref h_t_imageSeed, .ref h_t_bookOf, .ref h_t_bookIs, .int f_t_written, .ref h_t_forms, .int f_t_formRing, .int f_t_formMany, .ref h_t_best, .ref h_t_next, .ref h_t_ways, .ref h_t_round, .ref h_t_roughs, .int f_t_latest])), (h_t_best, .inl (cA, 4096, .inl f_t_best)), (h_t_next, .inl (cA, 4096, .inl f_t_next)), (h_t_w, .inl (cA, 190, .inl f_t_w))]) (mPosI (dC, dI) cA r0 (va_A [(h_t, .inr (10, [.ref h_t_w, .int f_t_known, .int f_t_kept, .int f_t_seed, .ref h_t_imageSeed, .ref h_t_bookOf, .ref h_t_bookIs, .int f_t_written, .ref h_t_forms, .int f_t_formRing, .int f_t_formMany, .ref h_t_best, .ref h_t_next, .ref h_t_ways, .ref h_t_round, .ref h_t_roughs, .int f_t_latest])), (h_t_best, .inl (cA, 4096, .inl f_t_best)), (h_t_next, .inl (cA, 4096, .inl f_t_next)), (h_t_w, .inl (cA, 190, .inl f_t_w))] sz) [(h_t, .inr (10, [.ref h_t_w, .int f_t_known, .int f_t_kept, .int f_t_seed, .ref h_t_imageSeed, .ref h_t_bookOf, .ref h_t_bookIs, .int f_t_written, .ref h_t_forms, .int f_t_formRing, .int f_t_formMany, .ref h_t_best, .ref h_t_next, .ref h_t_ways, .ref h_t_round, .ref h_t_roughs, .int f_t_latest])), (h_t_best, .inl (cA, 4096, .inl f_t_best_z)), (h_t_next, .inl (cA, 4096, .inl f_t_next_z)), (h_t_w, .inl (cA, 190, .inl f_t_w))]) 0 0 (va_A [(h_t, .inr (10, [.ref h_t_w, .int f_t_known, .int f_t_kept, .int f_t_seed, .ref h_t_imageSeed, .ref h_t_bookOf, .ref h_t_bookIs, .int f_t_written, .ref h_t_forms, .int f_t_formRing, .int f_t_formMany, .ref h_t_best, .ref h_t_next, .ref h_t_ways, .ref h_t_round, .ref h_t_roughs, .int f_t_latest])), (h_t_best, .inl (cA, 4096, .inl f_t_best)), (h_t_next, .inl (cA, 4096, .inl f_t_next)), (h_t_w, .inl (cA, 190, .inl f_t_w))] sz) := by
  refine Met.ofW (cc := cX11_wayDown) (maxL := 4) (ret := (some .int)) (by decide) rfl ?_
  intro p e s m args below meth c s₁ B hml hv
  obtain ⟨rfl, hsz, hP, hK, hD0⟩ := hv
  refine W_gen (fun Q hQ => ?_)
  have hx := B.exec
  have hb := B.bytes
  have hr := B.returns
  have hts := atoms_spec (ws := wsX11_wayDown) B.pre
  have hown : s.vm.findClass RX11 = some m.cls := findClass_of_methodNamed B.named
  have hlocks := B.notSynchronized
  subst hsz
  have hD := hD0.self (sz := s.heap.size)
  clear hD0
  generalize hAe : va_A [(h_t, .inr (10, [.ref h_t_w, .int f_t_known, .int f_t_kept, .int f_t_seed, .ref h_t_imageSeed, .ref h_t_bookOf, .ref h_t_bookIs, .int f_t_written, .ref h_t_forms, .int f_t_formRing, .int f_t_formMany, .ref h_t_best, .ref h_t_next, .ref h_t_ways, .ref h_t_round, .ref h_t_roughs, .int f_t_latest])), (h_t_best, .inl (cA, 4096, .inl f_t_best)), (h_t_next, .inl (cA, 4096, .inl f_t_next)), (h_t_w, .inl (cA, 190, .inl f_t_w))] s.heap.size = A at hD hQ
  have hA : ∀ q : Nat, s.heap.size ≤ q → A q := fun q h => by rw [← hAe]; exact Or.inr h
  clear hAe
  have hS : va_S A s.heap s.heap [] := va_S.rf
  have hl := lv_entry ([.ref h_t, .int a1, .int a2]) (n := 4) (Nat.le_of_ble_eq_true rfl)
  rw [lg_entry_eq]
  generalize (lg_sl ([.ref h_t, .int a1, .int a2]) ++ List.replicate (4 - (lg_sl ([.ref h_t, .int a1, .int a2])).length) Slot.unset).toArray = ls at hl ⊢
  have hl : lv_has ls 4 [(0, .ref h_t), (1, .int a1), (2, .int a2)] := hl
  have k1 := hts (.fieldLink RX11 25 "ToneSetsModel" "best" "[I") (List.mem_of_getElem? (i := 1) rfl)
  have k2 := hts (.constant RX11 96 (1000000)) (List.mem_of_getElem? (i := 2) rfl)
  have uX11 := uX11_X11_wayDown
  unfold m_Md_wayDown at hm
  refine lv_iconst (v := 0) hx hb dX11_wayDown_0 (by decide) ?_
  refine lv_topi (fun v3_1 ev3_1 => ?_)
  replace hm := lt_go ev3_1 hm
  refine lv_istore_n (lv' := [(3, .int v3_1), (0, .ref h_t), (1, .int a1), (2, .int a2)]) hx hb dX11_wayDown_1 rfl hl (by decide) rfl (fun ls hl => ?_)
  have L2 : ∀ (n : Nat) (v3_2 : Int32) (f_t_best_1 : Nat → Int32) (f_t_best_2 : Nat → Int32), m_Md_wayDown_L2 f_t_w n v3_2 f_t_best_1 = some f_t_best_2 → ∀ (H : Heap) (locs : List Loc), va_P (dC, dI) vwCl [(h_t, .inr (10, [.ref h_t_w, .int f_t_known, .int f_t_kept, .int f_t_seed, .ref h_t_imageSeed, .ref h_t_bookOf, .ref h_t_bookIs, .int f_t_written, .ref h_t_forms, .int f_t_formRing, .int f_t_formMany, .ref h_t_best, .ref h_t_next, .ref h_t_ways, .ref h_t_round, .ref h_t_roughs, .int f_t_latest])), (h_t_best, .inl (cA, 4096, .inl f_t_best_1)), (h_t_next, .inl (cA, 4096, .inl f_t_next)), (h_t_w, .inl (cA, 190, .inl f_t_w))] H → va_D A [(h_t, .inr (10, [.ref h_t_w, .int f_t_known, .int f_t_kept, .int f_t_seed, .ref h_t_imageSeed, .ref h_t_bookOf, .ref h_t_bookIs, .int f_t_written, .ref h_t_forms, .int f_t_formRing, .int f_t_formMany, .ref h_t_best, .ref h_t_next, .ref h_t_ways, .ref h_t_round, .ref h_t_roughs, .int f_t_latest])), (h_t_best, .inl (cA, 4096, .inl f_t_best_1)), (h_t_next, .inl (cA, 4096, .inl f_t_next)), (h_t_w, .inl (cA, 190, .inl f_t_w))] → va_S A s.heap H locs → ∀ ls : Array Slot, lv_has ls 4 [(0, .ref h_t), (1, .int a1), (2, .int a2), (3, .int v3_2)] → (∀ (H : Heap) (locs : List Loc), va_P (dC, dI) vwCl [(h_t, .inr (10, [.ref h_t_w, .int f_t_known, .int f_t_kept, .int f_t_seed, .ref h_t_imageSeed, .ref h_t_bookOf, .ref h_t_bookIs, .int f_t_written, .ref h_t_forms, .int f_t_formRing, .int f_t_formMany, .ref h_t_best, .ref h_t_next, .ref h_t_ways, .ref h_t_round, .ref h_t_roughs, .int f_t_latest])), (h_t_best, .inl (cA, 4096, .inl f_t_best_2)), (h_t_next, .inl (cA, 4096, .inl f_t_next)), (h_t_w, .inl (cA, 190, .inl f_t_w))] H → va_D A [(h_t, .inr (10, [.ref h_t_w, .int f_t_known, .int f_t_kept, .int f_t_seed, .ref h_t_imageSeed, .ref h_t_bookOf, .ref h_t_bookIs, .int f_t_written, .ref h_t_forms, .int f_t_formRing, .int f_t_formMany, .ref h_t_best, .ref h_t_next, .ref h_t_ways, .ref h_t_round, .ref h_t_roughs, .int f_t_latest])), (h_t_best, .inl (cA, 4096, .inl f_t_best_2)), (h_t_next, .inl (cA, 4096, .inl f_t_next)), (h_t_w, .inl (cA, 190, .inl f_t_w))] → va_S A s.heap H locs → ∀ ls : Array Slot, lv_has ls 4 [(0, .ref h_t), (1, .int a1), (2, .int a2)] → W p l e (headSpec wsX11_wayDown rmX11_wayDown).room s m (([.ref h_t, .int a1, .int a2] : List Value).toArray) below meth c H locs 0 0 Q (F0 m 34 ls [])) → W p l e (headSpec wsX11_wayDown rmX11_wayDown).room s m (([.ref h_t, .int a1, .int a2] : List Value).toArray) below meth c H locs 0 0 Q (F0 m 2 ls []) := by
    clear hm hP hD hS hl
    intro n
    induction n with
    | zero => intro _ _ _ hm; exact nomatch (show none = some _ from hm)
    | succ n ih =>
      intro v3_2 f_t_best_1 f_t_best_2 hm H locs hP hD hS ls hl KK
      unfold m_Md_wayDown_L2 at hm
      refine lv_iload_n hx hb dX11_wayDown_2 rfl (lv_at hl 3 rfl) ?_
      refine lv_iconst (v := 1) hx hb dX11_wayDown_3 (by decide) ?_
      refine lv_aload_n hx hb dX11_wayDown_4 rfl (lv_at hl 0 rfl) ?_
      obtain ⟨r_1, hc5, hm⟩ := bd1_go hm
      refine my_cVi (As := []) (rest := [.int 1, .int v3_2]) (WC := [(h_t, .inr (10, [.ref h_t_w, .int f_t_known, .int f_t_kept, .int f_t_seed, .ref h_t_imageSeed, .ref h_t_bookOf, .ref h_t_bookIs, .int f_t_written, .ref h_t_forms, .int f_t_formRing, .int f_t_formMany, .ref h_t_best, .ref h_t_next, .ref h_t_ways, .ref h_t_round, .ref h_t_roughs, .int f_t_latest])), (h_t_w, .inl (cA, 190, .inl f_t_w))]) (WC' := [(h_t, .inr (10, [.ref h_t_w, .int f_t_known, .int f_t_kept, .int f_t_seed, .ref h_t_imageSeed, .ref h_t_bookOf, .ref h_t_bookIs, .int f_t_written, .ref h_t_forms, .int f_t_formRing, .int f_t_formMany, .ref h_t_best, .ref h_t_next, .ref h_t_ways, .ref h_t_round, .ref h_t_roughs, .int f_t_latest])), (h_t_w, .inl (cA, 190, .inl f_t_w))]) (WR := [(h_t_best, .inl (cA, 4096, .inl f_t_best_1)), (h_t_next, .inl (cA, 4096, .inl f_t_next))]) (W' := [(h_t, .inr (10, [.ref h_t_w, .int f_t_known, .int f_t_kept, .int f_t_seed, .ref h_t_imageSeed, .ref h_t_bookOf, .ref h_t_bookIs, .int f_t_written, .ref h_t_forms, .int f_t_formRing, .int f_t_formMany, .ref h_t_best, .ref h_t_next, .ref h_t_ways, .ref h_t_round, .ref h_t_roughs, .int f_t_latest])), (h_t_best, .inl (cA, 4096, .inl f_t_best_1)), (h_t_next, .inl (cA, 4096, .inl f_t_next)), (h_t_w, .inl (cA, 190, .inl f_t_w))]) ⟨hx, hb, hml, hown, hts⟩ hK hP hD hS hA (c_Md_m l dC dI cA h_t h_t_w h_t_imageSeed h_t_bookOf h_t_bookIs h_t_forms h_t_best h_t_next h_t_ways h_t_round h_t_roughs f_t_known f_t_kept f_t_seed f_t_written f_t_formRing f_t_formMany f_t_latest f_t_w r_1 hc5) (cwV 0 hts gX11_wayDown_X11_m rfl rfl rfl (by decide +kernel) ⟨Nat.le_of_ble_eq_true rfl, Nat.le_of_ble_eq_true rfl⟩) [0, 3] [1, 2] [2, 0, 1, 3] rfl rfl rfl rfl (ci := 10) (q0 := 0) rfl rfl rfl rfl hl.1 (Nat.le_of_ble_eq_true rfl) dX11_wayDown_5 ⟨Nat.zero_le _, Nat.zero_le _⟩ (fun H locs hP hD hS => ?_)
      refine lv_ishl hx hb dX11_wayDown_8 ?_
      refine lv_icmp_ge (tgt := 34) hx hb dX11_wayDown_9 (by decide) (fun c9 => ?_) (fun c9 => ?_)
      · replace hm := if_t c9 hm
        cases hm
        exact KK _ _ hP hD hS _ (lv_sub hl [0, 1, 2] rfl)
      · replace hm := if_f c9 hm
        refine lv_aload_n hx hb dX11_wayDown_12 rfl (lv_at hl 0 rfl) ?_
        refine va_get (D := (dC, dI)) (ci := 10) (v := .ref h_t_best) (C := RX11) (T := TX11) (N := 17) hx hb hts uX11 hown hK hP 0 rfl rfl 11 (by decide) k1 (fun _ h9 => h9) rfl dX11_wayDown_13 ?_
        refine lv_iload_n hx hb dX11_wayDown_16 rfl (lv_at hl 3 rfl) ?_
        refine lv_iload_n hx hb dX11_wayDown_17 rfl (lv_at hl 3 rfl) ?_
        obtain ⟨q27_1, hqJ_1, hm⟩ := bd1_go hm
        have J_1 : ∀ (H : Heap) (locs : List Loc), va_P (dC, dI) vwCl [(h_t, .inr (10, [.ref h_t_w, .int f_t_known, .int f_t_kept, .int f_t_seed, .ref h_t_imageSeed, .ref h_t_bookOf, .ref h_t_bookIs, .int f_t_written, .ref h_t_forms, .int f_t_formRing, .int f_t_formMany, .ref h_t_best, .ref h_t_next, .ref h_t_ways, .ref h_t_round, .ref h_t_roughs, .int f_t_latest])), (h_t_best, .inl (cA, 4096, .inl f_t_best_1)), (h_t_next, .inl (cA, 4096, .inl f_t_next)), (h_t_w, .inl (cA, 190, .inl f_t_w))] H → va_D A [(h_t, .inr (10, [.ref h_t_w, .int f_t_known, .int f_t_kept, .int f_t_seed, .ref h_t_imageSeed, .ref h_t_bookOf, .ref h_t_bookIs, .int f_t_written, .ref h_t_forms, .int f_t_formRing, .int f_t_formMany, .ref h_t_best, .ref h_t_next, .ref h_t_ways, .ref h_t_round, .ref h_t_roughs, .int f_t_latest])), (h_t_best, .inl (cA, 4096, .inl f_t_best_1)), (h_t_next, .inl (cA, 4096, .inl f_t_next)), (h_t_w, .inl (cA, 190, .inl f_t_w))] → va_S A s.heap H locs → ∀ ls : Array Slot, lv_has ls 4 [(0, .ref h_t), (1, .int a1), (2, .int a2), (3, .int v3_2)] → W p l e (headSpec wsX11_wayDown rmX11_wayDown).room s m (([.ref h_t, .int a1, .int a2] : List Value).toArray) below meth c H locs 0 0 Q (F0 m 27 ls [.int q27_1, .int v3_2, .ref h_t_best]) := by
          intro H locs hP hD hS ls hl
          clear hqJ_1
          obtain ⟨b27, hm⟩ := ck_go hm
          refine my_iast (W' := fun z' => [(h_t, .inr (10, [.ref h_t_w, .int f_t_known, .int f_t_kept, .int f_t_seed, .ref h_t_imageSeed, .ref h_t_bookOf, .ref h_t_bookIs, .int f_t_written, .ref h_t_forms, .int f_t_formRing, .int f_t_formMany, .ref h_t_best, .ref h_t_next, .ref h_t_ways, .ref h_t_round, .ref h_t_roughs, .int f_t_latest])), (h_t_best, .inl (cA, 4096, .inl z')), (h_t_next, .inl (cA, 4096, .inl f_t_next)), (h_t_w, .inl (cA, 190, .inl f_t_w))]) hx hb hK hP hD hS 1 0 rfl rfl b27 dX11_wayDown_27 (fun _ => rfl) (fun f_t_best_3 ef_t_best_3 H locs hP hD hS => ?_)
          replace hm := lt_go ef_t_best_3 hm
          obtain ⟨v3_3, ev3_3⟩ : ∃ z : Int32, z = v3_2 + 1 := ⟨_, rfl⟩
          replace hm := lt_go ev3_3 hm
          refine lv_iinc (v := v3_3) (lv' := [(3, .int v3_3), (0, .ref h_t), (1, .int a1), (2, .int a2)]) hx hb dX11_wayDown_28 hl (k := 3) rfl (by rw [ev3_3]; rfl) (by decide) rfl (fun ls hl => ?_)
          refine lv_goto (tgt := 2) hx hb dX11_wayDown_31 (by decide) ?_
          exact ih _ _ _ hm _ _ hP hD hS _ (lv_sub hl [1, 2, 3, 0] rfl) KK
        clear hm
        refine lv_if_ne (tgt := 25) hx hb dX11_wayDown_18 (by decide) (fun c18 => ?_) (fun c18 => ?_)
        · replace hqJ_1 := if_f c18 hqJ_1
          refine lv_ldc (v := 1000000) hx hb hown k2 dX11_wayDown_25 ?_
          cases hqJ_1
          exact J_1 _ _ hP hD hS _ (lv_sub hl [0, 1, 2, 3] rfl)
        · replace hqJ_1 := if_t c18 hqJ_1
          refine lv_iconst (v := 0) hx hb dX11_wayDown_21 (by decide) ?_
          refine lv_goto (tgt := 27) hx hb dX11_wayDown_22 (by decide) ?_
          cases hqJ_1
          exact J_1 _ _ hP hD hS _ (lv_sub hl [0, 1, 2, 3] rfl)
  obtain ⟨f_t_best_4, hl2, hm⟩ := bd1_go hm
  refine L2 _ _ _ _ hl2 _ _ hP hD hS _ (lv_sub hl [1, 2, 3, 0] rfl) (fun H locs hP hD hS ls hl => ?_)
  refine lv_iconst (v := 0) hx hb dX11_wayDown_34 (by decide) ?_
  refine lv_topi (fun v3_4 ev3_4 => ?_)
  replace hm := lt_go ev3_4 hm
  refine lv_istore_n (lv' := [(3, .int v3_4), (0, .ref h_t), (1, .int a1), (2, .int a2)]) hx hb dX11_wayDown_35 rfl hl (by decide) rfl (fun ls hl => ?_)
  have L36 : ∀ (n : Nat) (v3_5 : Int32) (f_t_best_5 : Nat → Int32) (f_t_next_1 : Nat → Int32) (f_t_best_6 : Nat → Int32) (f_t_next_2 : Nat → Int32), m_Md_wayDown_L36 fu f_t_w a1 a2 n v3_5 f_t_best_5 f_t_next_1 = some (f_t_best_6, f_t_next_2) → ∀ (H : Heap) (locs : List Loc), va_P (dC, dI) vwCl [(h_t, .inr (10, [.ref h_t_w, .int f_t_known, .int f_t_kept, .int f_t_seed, .ref h_t_imageSeed, .ref h_t_bookOf, .ref h_t_bookIs, .int f_t_written, .ref h_t_forms, .int f_t_formRing, .int f_t_formMany, .ref h_t_best, .ref h_t_next, .ref h_t_ways, .ref h_t_round, .ref h_t_roughs, .int f_t_latest])), (h_t_best, .inl (cA, 4096, .inl f_t_best_5)), (h_t_next, .inl (cA, 4096, .inl f_t_next_1)), (h_t_w, .inl (cA, 190, .inl f_t_w))] H → va_D A [(h_t, .inr (10, [.ref h_t_w, .int f_t_known, .int f_t_kept, .int f_t_seed, .ref h_t_imageSeed, .ref h_t_bookOf, .ref h_t_bookIs, .int f_t_written, .ref h_t_forms, .int f_t_formRing, .int f_t_formMany, .ref h_t_best, .ref h_t_next, .ref h_t_ways, .ref h_t_round, .ref h_t_roughs, .int f_t_latest])), (h_t_best, .inl (cA, 4096, .inl f_t_best_5)), (h_t_next, .inl (cA, 4096, .inl f_t_next_1)), (h_t_w, .inl (cA, 190, .inl f_t_w))] → va_S A s.heap H locs → ∀ ls : Array Slot, lv_has ls 4 [(0, .ref h_t), (1, .int a1), (2, .int a2), (3, .int v3_5)] → (∀ (H : Heap) (locs : List Loc), va_P (dC, dI) vwCl [(h_t, .inr (10, [.ref h_t_w, .int f_t_known, .int f_t_kept, .int f_t_seed, .ref h_t_imageSeed, .ref h_t_bookOf, .ref h_t_bookIs, .int f_t_written, .ref h_t_forms, .int f_t_formRing, .int f_t_formMany, .ref h_t_best, .ref h_t_next, .ref h_t_ways, .ref h_t_round, .ref h_t_roughs, .int f_t_latest])), (h_t_best, .inl (cA, 4096, .inl f_t_best_6)), (h_t_next, .inl (cA, 4096, .inl f_t_next_2)), (h_t_w, .inl (cA, 190, .inl f_t_w))] H → va_D A [(h_t, .inr (10, [.ref h_t_w, .int f_t_known, .int f_t_kept, .int f_t_seed, .ref h_t_imageSeed, .ref h_t_bookOf, .ref h_t_bookIs, .int f_t_written, .ref h_t_forms, .int f_t_formRing, .int f_t_formMany, .ref h_t_best, .ref h_t_next, .ref h_t_ways, .ref h_t_round, .ref h_t_roughs, .int f_t_latest])), (h_t_best, .inl (cA, 4096, .inl f_t_best_6)), (h_t_next, .inl (cA, 4096, .inl f_t_next_2)), (h_t_w, .inl (cA, 190, .inl f_t_w))] → va_S A s.heap H locs → ∀ ls : Array Slot, lv_has ls 4 [(0, .ref h_t), (2, .int a2)] → W p l e (headSpec wsX11_wayDown rmX11_wayDown).room s m (([.ref h_t, .int a1, .int a2] : List Value).toArray) below meth c H locs 0 0 Q (F0 m 64 ls [])) → W p l e (headSpec wsX11_wayDown rmX11_wayDown).room s m (([.ref h_t, .int a1, .int a2] : List Value).toArray) below meth c H locs 0 0 Q (F0 m 36 ls []) := by
    clear hm hP hD hS hl
    intro n
    induction n with
    | zero => intro _ _ _ _ _ hm; exact nomatch (show none = some _ from hm)
    | succ n ih =>
      intro v3_5 f_t_best_5 f_t_next_1 f_t_best_6 f_t_next_2 hm H locs hP hD hS ls hl KK
      unfold m_Md_wayDown_L36 at hm
      refine lv_iload_n hx hb dX11_wayDown_36 rfl (lv_at hl 3 rfl) ?_
      refine lv_aload_n hx hb dX11_wayDown_37 rfl (lv_at hl 0 rfl) ?_
      obtain ⟨r_2, hc38, hm⟩ := bd1_go hm
      refine my_cVi (As := []) (rest := [.int v3_5]) (WC := [(h_t, .inr (10, [.ref h_t_w, .int f_t_known, .int f_t_kept, .int f_t_seed, .ref h_t_imageSeed, .ref h_t_bookOf, .ref h_t_bookIs, .int f_t_written, .ref h_t_forms, .int f_t_formRing, .int f_t_formMany, .ref h_t_best, .ref h_t_next, .ref h_t_ways, .ref h_t_round, .ref h_t_roughs, .int f_t_latest])), (h_t_w, .inl (cA, 190, .inl f_t_w))]) (WC' := [(h_t, .inr (10, [.ref h_t_w, .int f_t_known, .int f_t_kept, .int f_t_seed, .ref h_t_imageSeed, .ref h_t_bookOf, .ref h_t_bookIs, .int f_t_written, .ref h_t_forms, .int f_t_formRing, .int f_t_formMany, .ref h_t_best, .ref h_t_next, .ref h_t_ways, .ref h_t_round, .ref h_t_roughs, .int f_t_latest])), (h_t_w, .inl (cA, 190, .inl f_t_w))]) (WR := [(h_t_best, .inl (cA, 4096, .inl f_t_best_5)), (h_t_next, .inl (cA, 4096, .inl f_t_next_1))]) (W' := [(h_t, .inr (10, [.ref h_t_w, .int f_t_known, .int f_t_kept, .int f_t_seed, .ref h_t_imageSeed, .ref h_t_bookOf, .ref h_t_bookIs, .int f_t_written, .ref h_t_forms, .int f_t_formRing, .int f_t_formMany, .ref h_t_best, .ref h_t_next, .ref h_t_ways, .ref h_t_round, .ref h_t_roughs, .int f_t_latest])), (h_t_best, .inl (cA, 4096, .inl f_t_best_5)), (h_t_next, .inl (cA, 4096, .inl f_t_next_1)), (h_t_w, .inl (cA, 190, .inl f_t_w))]) ⟨hx, hb, hml, hown, hts⟩ hK hP hD hS hA (c_Md_m l dC dI cA h_t h_t_w h_t_imageSeed h_t_bookOf h_t_bookIs h_t_forms h_t_best h_t_next h_t_ways h_t_round h_t_roughs f_t_known f_t_kept f_t_seed f_t_written f_t_formRing f_t_formMany f_t_latest f_t_w r_2 hc38) (cwV 0 hts gX11_wayDown_X11_m rfl rfl rfl (by decide +kernel) ⟨Nat.le_of_ble_eq_true rfl, Nat.le_of_ble_eq_true rfl⟩) [0, 3] [1, 2] [2, 0, 1, 3] rfl rfl rfl rfl (ci := 10) (q0 := 0) rfl rfl rfl rfl hl.1 (Nat.le_of_ble_eq_true rfl) dX11_wayDown_38 ⟨Nat.zero_le _, Nat.zero_le _⟩ (fun H locs hP hD hS => ?_)
      refine lv_icmp_ge (tgt := 64) hx hb dX11_wayDown_41 (by decide) (fun c41 => ?_) (fun c41 => ?_)
      · replace hm := if_t c41 hm
        cases hm
        exact KK _ _ hP hD hS _ (lv_sub hl [0, 2] rfl)
      · replace hm := if_f c41 hm
        refine lv_iload_n hx hb dX11_wayDown_44 rfl (lv_at hl 1 rfl) ?_
        refine lv_iload_n hx hb dX11_wayDown_45 rfl (lv_at hl 3 rfl) ?_
        obtain ⟨r_3, hc46, hm⟩ := bd1_go hm
        refine my_cSi (As := [.int a1, .int v3_5]) (rest := []) (WC := []) (WC' := []) (WR := [(h_t, .inr (10, [.ref h_t_w, .int f_t_known, .int f_t_kept, .int f_t_seed, .ref h_t_imageSeed, .ref h_t_bookOf, .ref h_t_bookIs, .int f_t_written, .ref h_t_forms, .int f_t_formRing, .int f_t_formMany, .ref h_t_best, .ref h_t_next, .ref h_t_ways, .ref h_t_round, .ref h_t_roughs, .int f_t_latest])), (h_t_best, .inl (cA, 4096, .inl f_t_best_5)), (h_t_next, .inl (cA, 4096, .inl f_t_next_1)), (h_t_w, .inl (cA, 190, .inl f_t_w))]) (W' := [(h_t, .inr (10, [.ref h_t_w, .int f_t_known, .int f_t_kept, .int f_t_seed, .ref h_t_imageSeed, .ref h_t_bookOf, .ref h_t_bookIs, .int f_t_written, .ref h_t_forms, .int f_t_formRing, .int f_t_formMany, .ref h_t_best, .ref h_t_next, .ref h_t_ways, .ref h_t_round, .ref h_t_roughs, .int f_t_latest])), (h_t_best, .inl (cA, 4096, .inl f_t_best_5)), (h_t_next, .inl (cA, 4096, .inl f_t_next_1)), (h_t_w, .inl (cA, 190, .inl f_t_w))]) ⟨hx, hb, hml, hown, hts⟩ hK hP hD hS hA (c_Md_has l dC dI cA a1 v3_5 r_3 hc46) (va_cwS 2 hts gX11_wayDown_X11_has rfl rfl rfl (by decide +kernel) ⟨Nat.le_of_ble_eq_true rfl, Nat.le_of_ble_eq_true rfl⟩) [] [0, 1, 2, 3] [0, 1, 2, 3] rfl rfl rfl rfl rfl rfl hl.1 (Nat.le_of_ble_eq_true rfl) dX11_wayDown_46 ⟨Nat.zero_le _, Nat.zero_le _⟩ (fun H locs hP hD hS => ?_)
        obtain ⟨f_t_best_7, f_t_next_3, hqJ_2, hm⟩ := bd2_go hm
        have J_2 : ∀ (H : Heap) (locs : List Loc), va_P (dC, dI) vwCl [(h_t, .inr (10, [.ref h_t_w, .int f_t_known, .int f_t_kept, .int f_t_seed, .ref h_t_imageSeed, .ref h_t_bookOf, .ref h_t_bookIs, .int f_t_written, .ref h_t_forms, .int f_t_formRing, .int f_t_formMany, .ref h_t_best, .ref h_t_next, .ref h_t_ways, .ref h_t_round, .ref h_t_roughs, .int f_t_latest])), (h_t_best, .inl (cA, 4096, .inl f_t_best_7)), (h_t_next, .inl (cA, 4096, .inl f_t_next_3)), (h_t_w, .inl (cA, 190, .inl f_t_w))] H → va_D A [(h_t, .inr (10, [.ref h_t_w, .int f_t_known, .int f_t_kept, .int f_t_seed, .ref h_t_imageSeed, .ref h_t_bookOf, .ref h_t_bookIs, .int f_t_written, .ref h_t_forms, .int f_t_formRing, .int f_t_formMany, .ref h_t_best, .ref h_t_next, .ref h_t_ways, .ref h_t_round, .ref h_t_roughs, .int f_t_latest])), (h_t_best, .inl (cA, 4096, .inl f_t_best_7)), (h_t_next, .inl (cA, 4096, .inl f_t_next_3)), (h_t_w, .inl (cA, 190, .inl f_t_w))] → va_S A s.heap H locs → ∀ ls : Array Slot, lv_has ls 4 [(0, .ref h_t), (1, .int a1), (2, .int a2), (3, .int v3_5)] → W p l e (headSpec wsX11_wayDown rmX11_wayDown).room s m (([.ref h_t, .int a1, .int a2] : List Value).toArray) below meth c H locs 0 0 Q (F0 m 58 ls []) := by
          intro H locs hP hD hS ls hl
          clear hqJ_2
          obtain ⟨v3_6, ev3_6⟩ : ∃ z : Int32, z = v3_5 + 1 := ⟨_, rfl⟩
          replace hm := lt_go ev3_6 hm
          refine lv_iinc (v := v3_6) (lv' := [(3, .int v3_6), (0, .ref h_t), (1, .int a1), (2, .int a2)]) hx hb dX11_wayDown_58 hl (k := 3) rfl (by rw [ev3_6]; rfl) (by decide) rfl (fun ls hl => ?_)
          refine lv_goto (tgt := 36) hx hb dX11_wayDown_61 (by decide) ?_
          exact ih _ _ _ _ _ hm _ _ hP hD hS _ (lv_sub hl [1, 2, 3, 0] rfl) KK
        clear hm
        refine lv_if_eq (tgt := 58) hx hb dX11_wayDown_49 (by decide) (fun c49 => ?_) (fun c49 => ?_)
        · replace hqJ_2 := if_t c49 hqJ_2
          cases hqJ_2
          exact J_2 _ _ hP hD hS _ (lv_sub hl [0, 1, 2, 3] rfl)
        · replace hqJ_2 := if_f c49 hqJ_2
          refine lv_aload_n hx hb dX11_wayDown_52 rfl (lv_at hl 0 rfl) ?_
          refine lv_iload_n hx hb dX11_wayDown_53 rfl (lv_at hl 3 rfl) ?_
          refine lv_iload_n hx hb dX11_wayDown_54 rfl (lv_at hl 2 rfl) ?_
          obtain ⟨f_t_best_8, f_t_next_4, hc55, hqJ_2⟩ := bd2_go hqJ_2
          refine my_cVv (As := [.int v3_5, .int a2]) (rest := []) (WC := [(h_t, .inr (10, [.ref h_t_w, .int f_t_known, .int f_t_kept, .int f_t_seed, .ref h_t_imageSeed, .ref h_t_bookOf, .ref h_t_bookIs, .int f_t_written, .ref h_t_forms, .int f_t_formRing, .int f_t_formMany, .ref h_t_best, .ref h_t_next, .ref h_t_ways, .ref h_t_round, .ref h_t_roughs, .int f_t_latest])), (h_t_best, .inl (cA, 4096, .inl f_t_best_5)), (h_t_next, .inl (cA, 4096, .inl f_t_next_1)), (h_t_w, .inl (cA, 190, .inl f_t_w))]) (WC' := [(h_t, .inr (10, [.ref h_t_w, .int f_t_known, .int f_t_kept, .int f_t_seed, .ref h_t_imageSeed, .ref h_t_bookOf, .ref h_t_bookIs, .int f_t_written, .ref h_t_forms, .int f_t_formRing, .int f_t_formMany, .ref h_t_best, .ref h_t_next, .ref h_t_ways, .ref h_t_round, .ref h_t_roughs, .int f_t_latest])), (h_t_best, .inl (cA, 4096, .inl f_t_best_8)), (h_t_next, .inl (cA, 4096, .inl f_t_next_4)), (h_t_w, .inl (cA, 190, .inl f_t_w))]) (WR := []) (W' := [(h_t, .inr (10, [.ref h_t_w, .int f_t_known, .int f_t_kept, .int f_t_seed, .ref h_t_imageSeed, .ref h_t_bookOf, .ref h_t_bookIs, .int f_t_written, .ref h_t_forms, .int f_t_formRing, .int f_t_formMany, .ref h_t_best, .ref h_t_next, .ref h_t_ways, .ref h_t_round, .ref h_t_roughs, .int f_t_latest])), (h_t_best, .inl (cA, 4096, .inl f_t_best_8)), (h_t_next, .inl (cA, 4096, .inl f_t_next_4)), (h_t_w, .inl (cA, 190, .inl f_t_w))]) ⟨hx, hb, hml, hown, hts⟩ hK hP hD hS hA (c_Md_wayOn l dC dI cA fu h_t h_t_w h_t_imageSeed h_t_bookOf h_t_bookIs h_t_forms h_t_best h_t_next h_t_ways h_t_round h_t_roughs f_t_known f_t_kept f_t_seed f_t_written f_t_formRing f_t_formMany f_t_latest f_t_best_5 f_t_next_1 f_t_w v3_5 a2 f_t_best_8 f_t_next_4 hc55) (cwV 2 hts gX11_wayDown_X11_wayOn rfl rfl rfl (by decide +kernel) ⟨Nat.le_of_ble_eq_true rfl, Nat.le_of_ble_eq_true rfl⟩) [0, 1, 2, 3] [] [0, 1, 2, 3] rfl rfl rfl rfl (ci := 10) (q0 := 0) rfl rfl rfl rfl hl.1 (Nat.le_of_ble_eq_true rfl) dX11_wayDown_55 ⟨Nat.zero_le _, Nat.zero_le _⟩ (fun H locs hP hD hS => ?_)
          cases hqJ_2
          exact J_2 _ _ hP hD hS _ (lv_sub hl [0, 1, 2, 3] rfl)
  obtain ⟨f_t_best_9, f_t_next_5, hl36, hm⟩ := bd2_go hm
  refine L36 _ _ _ _ _ _ hl36 _ _ hP hD hS _ (lv_sub hl [1, 2, 3, 0] rfl) (fun H locs hP hD hS ls hl => ?_)
  refine lv_aload_n hx hb dX11_wayDown_64 rfl (lv_at hl 0 rfl) ?_
  refine va_get (D := (dC, dI)) (ci := 10) (v := .ref h_t_best) (C := RX11) (T := TX11) (N := 17) hx hb hts uX11 hown hK hP 0 rfl rfl 11 (by decide) k1 (fun _ h9 => h9) rfl dX11_wayDown_65 ?_
  refine lv_iload_n hx hb dX11_wayDown_68 rfl (lv_at hl 1 rfl) ?_
  obtain ⟨b69, hm⟩ := ck_go hm
  refine va_iald hx hb hK hP 1 0 rfl rfl b69 dX11_wayDown_69 ?_
  cases hm
  exact W_mono hQ (W.iret hx hb hr (fun t ht hW => ⟨⟨_, (), rfl, rfl, by rw [ht]; exact hP, va_K.moved hW.alike hK, hD⟩, hS.F ht⟩) hS.2.2 dX11_wayDown_70)
abbrev rmX11_wayOf : Room := { frames := 4, cells := 0, slots := 0, locals := 92 }
set_option maxHeartbeats 40000000 in
set_option maxRecDepth 100000 in
theorem c_Md_wayOf (l : Launch) (dC : Nat → ClassId) (dI : Nat → Nat → Nat) (cA : ClassId) (fu : Nat) (h_t h_t_w h_t_imageSeed h_t_bookOf h_t_bookIs h_t_forms h_t_best h_t_next h_t_ways h_t_round h_t_roughs : Nat) (f_t_known : Int32) (f_t_kept : Int32) (f_t_seed : Int32) (f_t_written : Int32) (f_t_formRing : Int32) (f_t_formMany : Int32) (f_t_latest : Int32) (f_t_best : Nat → Int32) (f_t_next : Nat → Int32) (f_t_w : Nat → Int32) (a1 : Int32) (a2 : Int32) (r0 : Int32) (f_t_best_z : Nat → Int32) (f_t_next_z : Nat → Int32) (hm : m_Md_wayOf fu f_t_best f_t_next f_t_w a1 a2 = some (r0, f_t_best_z, f_t_next_z)) (sz : Nat) : Met l yX11_wayOf wsX11_wayOf rmX11_wayOf (mPre (dC, dI) cA [.ref h_t, .int a1, .int a2] sz [(h_t, .inr (10, [.ref h_t_w, .int f_t_known, .int f_t_kept, .int f_t_seed, .ref h_t_imageSeed, .ref h_t_bookOf, .ref h_t_bookIs, .int f_t_written, .ref h_t_forms, .int f_t_formRing, .int f_t_formMany, .ref h_t_best, .ref h_t_next, .ref h_t_ways, .ref h_t_round, .ref h_t_roughs, .int f_t_latest])), (h_t_best, .inl (cA, 4096, .inl f_t_best)), (h_t_next, .inl (cA, 4096, .inl f_t_next)), (h_t_w, .inl (cA, 190, .inl f_t_w))]) (mPosI (dC, dI) cA r0 (va_A [(h_t, .inr (10, [.ref h_t_w, .int f_t_known, .int f_t_kept, .int f_t_seed, .ref h_t_imageSeed, .ref h_t_bookOf, .ref h_t_bookIs, .int f_t_written, .ref h_t_forms, .int f_t_formRing, .int f_t_formMany, .ref h_t_best, .ref h_t_next, .ref h_t_ways, .ref h_t_round, .ref h_t_roughs, .int f_t_latest])), (h_t_best, .inl (cA, 4096, .inl f_t_best)), (h_t_next, .inl (cA, 4096, .inl f_t_next)), (h_t_w, .inl (cA, 190, .inl f_t_w))] sz) [(h_t, .inr (10, [.ref h_t_w, .int f_t_known, .int f_t_kept, .int f_t_seed, .ref h_t_imageSeed, .ref h_t_bookOf, .ref h_t_bookIs, .int f_t_written, .ref h_t_forms, .int f_t_formRing, .int f_t_formMany, .ref h_t_best, .ref h_t_next, .ref h_t_ways, .ref h_t_round, .ref h_t_roughs, .int f_t_latest])), (h_t_best, .inl (cA, 4096, .inl f_t_best_z)), (h_t_next, .inl (cA, 4096, .inl f_t_next_z)), (h_t_w, .inl (cA, 190, .inl f_t_w))]) 0 0 (va_A [(h_t, .inr (10, [.ref h_t_w, .int f_t_known, .int f_t_kept, .int f_t_seed, .ref h_t_imageSeed, .ref h_t_bookOf, .ref h_t_bookIs, .int f_t_written, .ref h_t_forms, .int f_t_formRing, .int f_t_formMany, .ref h_t_best, .ref h_t_next, .ref h_t_ways, .ref h_t_round, .ref h_t_roughs, .int f_t_latest])), (h_t_best, .inl (cA, 4096, .inl f_t_best)), (h_t_next, .inl (cA, 4096, .inl f_t_next)), (h_t_w, .inl (cA, 190, .inl f_t_w))] sz) := by
  refine Met.ofW (cc := cX11_wayOf) (maxL := 3) (ret := (some .int)) (by decide) rfl ?_
  intro p e s m args below meth c s₁ B hml hv
  obtain ⟨rfl, hsz, hP, hK, hD0⟩ := hv
  refine W_gen (fun Q hQ => ?_)
  have hx := B.exec
  have hb := B.bytes
  have hr := B.returns
  have hts := atoms_spec (ws := wsX11_wayOf) B.pre
  have hown : s.vm.findClass RX11 = some m.cls := findClass_of_methodNamed B.named
  have hlocks := B.notSynchronized
  subst hsz
  have hD := hD0.self (sz := s.heap.size)
  clear hD0
  generalize hAe : va_A [(h_t, .inr (10, [.ref h_t_w, .int f_t_known, .int f_t_kept, .int f_t_seed, .ref h_t_imageSeed, .ref h_t_bookOf, .ref h_t_bookIs, .int f_t_written, .ref h_t_forms, .int f_t_formRing, .int f_t_formMany, .ref h_t_best, .ref h_t_next, .ref h_t_ways, .ref h_t_round, .ref h_t_roughs, .int f_t_latest])), (h_t_best, .inl (cA, 4096, .inl f_t_best)), (h_t_next, .inl (cA, 4096, .inl f_t_next)), (h_t_w, .inl (cA, 190, .inl f_t_w))] s.heap.size = A at hD hQ
  have hA : ∀ q : Nat, s.heap.size ≤ q → A q := fun q h => by rw [← hAe]; exact Or.inr h
  clear hAe
  have hS : va_S A s.heap s.heap [] := va_S.rf
  have hl := lv_entry ([.ref h_t, .int a1, .int a2]) (n := 3) (Nat.le_of_ble_eq_true rfl)
  rw [lg_entry_eq]
  generalize (lg_sl ([.ref h_t, .int a1, .int a2]) ++ List.replicate (3 - (lg_sl ([.ref h_t, .int a1, .int a2])).length) Slot.unset).toArray = ls at hl ⊢
  have hl : lv_has ls 3 [(0, .ref h_t), (1, .int a1), (2, .int a2)] := hl
  unfold m_Md_wayOf at hm
  refine lv_iload_n hx hb dX11_wayOf_0 rfl (lv_at hl 1 rfl) ?_
  obtain ⟨r_1, hc1, hm⟩ := bd1_go hm
  refine my_cSi (As := [.int a1]) (rest := []) (WC := []) (WC' := []) (WR := [(h_t, .inr (10, [.ref h_t_w, .int f_t_known, .int f_t_kept, .int f_t_seed, .ref h_t_imageSeed, .ref h_t_bookOf, .ref h_t_bookIs, .int f_t_written, .ref h_t_forms, .int f_t_formRing, .int f_t_formMany, .ref h_t_best, .ref h_t_next, .ref h_t_ways, .ref h_t_round, .ref h_t_roughs, .int f_t_latest])), (h_t_best, .inl (cA, 4096, .inl f_t_best)), (h_t_next, .inl (cA, 4096, .inl f_t_next)), (h_t_w, .inl (cA, 190, .inl f_t_w))]) (W' := [(h_t, .inr (10, [.ref h_t_w, .int f_t_known, .int f_t_kept, .int f_t_seed, .ref h_t_imageSeed, .ref h_t_bookOf, .ref h_t_bookIs, .int f_t_written, .ref h_t_forms, .int f_t_formRing, .int f_t_formMany, .ref h_t_best, .ref h_t_next, .ref h_t_ways, .ref h_t_round, .ref h_t_roughs, .int f_t_latest])), (h_t_best, .inl (cA, 4096, .inl f_t_best)), (h_t_next, .inl (cA, 4096, .inl f_t_next)), (h_t_w, .inl (cA, 190, .inl f_t_w))]) ⟨hx, hb, hml, hown, hts⟩ hK hP hD hS hA (c_Md_ones l dC dI cA fu a1 r_1 hc1) (va_cwS 1 hts gX11_wayOf_X11_ones rfl rfl rfl (by decide +kernel) ⟨Nat.le_of_ble_eq_true rfl, Nat.le_of_ble_eq_true rfl⟩) [] [0, 1, 2, 3] [0, 1, 2, 3] rfl rfl rfl rfl rfl rfl hl.1 (Nat.le_of_ble_eq_true rfl) dX11_wayOf_1 ⟨Nat.zero_le _, Nat.zero_le _⟩ (fun H locs hP hD hS => ?_)
  refine lv_iload_n hx hb dX11_wayOf_4 rfl (lv_at hl 2 rfl) ?_
  obtain ⟨r_2, hc5, hm⟩ := bd1_go hm
  refine my_cSi (As := [.int a2]) (rest := [.int r_1]) (WC := []) (WC' := []) (WR := [(h_t, .inr (10, [.ref h_t_w, .int f_t_known, .int f_t_kept, .int f_t_seed, .ref h_t_imageSeed, .ref h_t_bookOf, .ref h_t_bookIs, .int f_t_written, .ref h_t_forms, .int f_t_formRing, .int f_t_formMany, .ref h_t_best, .ref h_t_next, .ref h_t_ways, .ref h_t_round, .ref h_t_roughs, .int f_t_latest])), (h_t_best, .inl (cA, 4096, .inl f_t_best)), (h_t_next, .inl (cA, 4096, .inl f_t_next)), (h_t_w, .inl (cA, 190, .inl f_t_w))]) (W' := [(h_t, .inr (10, [.ref h_t_w, .int f_t_known, .int f_t_kept, .int f_t_seed, .ref h_t_imageSeed, .ref h_t_bookOf, .ref h_t_bookIs, .int f_t_written, .ref h_t_forms, .int f_t_formRing, .int f_t_formMany, .ref h_t_best, .ref h_t_next, .ref h_t_ways, .ref h_t_round, .ref h_t_roughs, .int f_t_latest])), (h_t_best, .inl (cA, 4096, .inl f_t_best)), (h_t_next, .inl (cA, 4096, .inl f_t_next)), (h_t_w, .inl (cA, 190, .inl f_t_w))]) ⟨hx, hb, hml, hown, hts⟩ hK hP hD hS hA (c_Md_ones l dC dI cA fu a2 r_2 hc5) (va_cwS 1 hts gX11_wayOf_X11_ones rfl rfl rfl (by decide +kernel) ⟨Nat.le_of_ble_eq_true rfl, Nat.le_of_ble_eq_true rfl⟩) [] [0, 1, 2, 3] [0, 1, 2, 3] rfl rfl rfl rfl rfl rfl hl.1 (Nat.le_of_ble_eq_true rfl) dX11_wayOf_5 ⟨Nat.zero_le _, Nat.zero_le _⟩ (fun H locs hP hD hS => ?_)
  refine lv_icmp_lt (tgt := 20) hx hb dX11_wayOf_8 (by decide) (fun c8 => ?_) (fun c8 => ?_)
  · replace hm := if_t c8 hm
    refine lv_aload_n hx hb dX11_wayOf_20 rfl (lv_at hl 0 rfl) ?_
    refine lv_iload_n hx hb dX11_wayOf_21 rfl (lv_at hl 2 rfl) ?_
    refine lv_iload_n hx hb dX11_wayOf_22 rfl (lv_at hl 1 rfl) ?_
    obtain ⟨r_3, f_t_best_1, f_t_next_1, hc23, hm⟩ := bd3_go hm
    refine my_cVi (As := [.int a2, .int a1]) (rest := []) (WC := [(h_t, .inr (10, [.ref h_t_w, .int f_t_known, .int f_t_kept, .int f_t_seed, .ref h_t_imageSeed, .ref h_t_bookOf, .ref h_t_bookIs, .int f_t_written, .ref h_t_forms, .int f_t_formRing, .int f_t_formMany, .ref h_t_best, .ref h_t_next, .ref h_t_ways, .ref h_t_round, .ref h_t_roughs, .int f_t_latest])), (h_t_best, .inl (cA, 4096, .inl f_t_best)), (h_t_next, .inl (cA, 4096, .inl f_t_next)), (h_t_w, .inl (cA, 190, .inl f_t_w))]) (WC' := [(h_t, .inr (10, [.ref h_t_w, .int f_t_known, .int f_t_kept, .int f_t_seed, .ref h_t_imageSeed, .ref h_t_bookOf, .ref h_t_bookIs, .int f_t_written, .ref h_t_forms, .int f_t_formRing, .int f_t_formMany, .ref h_t_best, .ref h_t_next, .ref h_t_ways, .ref h_t_round, .ref h_t_roughs, .int f_t_latest])), (h_t_best, .inl (cA, 4096, .inl f_t_best_1)), (h_t_next, .inl (cA, 4096, .inl f_t_next_1)), (h_t_w, .inl (cA, 190, .inl f_t_w))]) (WR := []) (W' := [(h_t, .inr (10, [.ref h_t_w, .int f_t_known, .int f_t_kept, .int f_t_seed, .ref h_t_imageSeed, .ref h_t_bookOf, .ref h_t_bookIs, .int f_t_written, .ref h_t_forms, .int f_t_formRing, .int f_t_formMany, .ref h_t_best, .ref h_t_next, .ref h_t_ways, .ref h_t_round, .ref h_t_roughs, .int f_t_latest])), (h_t_best, .inl (cA, 4096, .inl f_t_best_1)), (h_t_next, .inl (cA, 4096, .inl f_t_next_1)), (h_t_w, .inl (cA, 190, .inl f_t_w))]) ⟨hx, hb, hml, hown, hts⟩ hK hP hD hS hA (c_Md_wayDown l dC dI cA fu h_t h_t_w h_t_imageSeed h_t_bookOf h_t_bookIs h_t_forms h_t_best h_t_next h_t_ways h_t_round h_t_roughs f_t_known f_t_kept f_t_seed f_t_written f_t_formRing f_t_formMany f_t_latest f_t_best f_t_next f_t_w a2 a1 r_3 f_t_best_1 f_t_next_1 hc23) (cwV 2 hts gX11_wayOf_X11_wayDown rfl rfl rfl (by decide +kernel) ⟨Nat.le_of_ble_eq_true rfl, Nat.le_of_ble_eq_true rfl⟩) [0, 1, 2, 3] [] [0, 1, 2, 3] rfl rfl rfl rfl (ci := 10) (q0 := 0) rfl rfl rfl rfl hl.1 (Nat.le_of_ble_eq_true rfl) dX11_wayOf_23 ⟨Nat.zero_le _, Nat.zero_le _⟩ (fun H locs hP hD hS => ?_)
    cases hm
    exact W_mono hQ (W.iret hx hb hr (fun t ht hW => ⟨⟨_, (), rfl, rfl, by rw [ht]; exact hP, va_K.moved hW.alike hK, hD⟩, hS.F ht⟩) hS.2.2 dX11_wayOf_26)
  · replace hm := if_f c8 hm
    refine lv_aload_n hx hb dX11_wayOf_11 rfl (lv_at hl 0 rfl) ?_
    refine lv_iload_n hx hb dX11_wayOf_12 rfl (lv_at hl 1 rfl) ?_
    refine lv_iload_n hx hb dX11_wayOf_13 rfl (lv_at hl 2 rfl) ?_
    obtain ⟨r_4, f_t_best_2, f_t_next_2, hc14, hm⟩ := bd3_go hm
    refine my_cVi (As := [.int a1, .int a2]) (rest := []) (WC := [(h_t, .inr (10, [.ref h_t_w, .int f_t_known, .int f_t_kept, .int f_t_seed, .ref h_t_imageSeed, .ref h_t_bookOf, .ref h_t_bookIs, .int f_t_written, .ref h_t_forms, .int f_t_formRing, .int f_t_formMany, .ref h_t_best, .ref h_t_next, .ref h_t_ways, .ref h_t_round, .ref h_t_roughs, .int f_t_latest])), (h_t_best, .inl (cA, 4096, .inl f_t_best)), (h_t_next, .inl (cA, 4096, .inl f_t_next)), (h_t_w, .inl (cA, 190, .inl f_t_w))]) (WC' := [(h_t, .inr (10, [.ref h_t_w, .int f_t_known, .int f_t_kept, .int f_t_seed, .ref h_t_imageSeed, .ref h_t_bookOf, .ref h_t_bookIs, .int f_t_written, .ref h_t_forms, .int f_t_formRing, .int f_t_formMany, .ref h_t_best, .ref h_t_next, .ref h_t_ways, .ref h_t_round, .ref h_t_roughs, .int f_t_latest])), (h_t_best, .inl (cA, 4096, .inl f_t_best_2)), (h_t_next, .inl (cA, 4096, .inl f_t_next_2)), (h_t_w, .inl (cA, 190, .inl f_t_w))]) (WR := []) (W' := [(h_t, .inr (10, [.ref h_t_w, .int f_t_known, .int f_t_kept, .int f_t_seed, .ref h_t_imageSeed, .ref h_t_bookOf, .ref h_t_bookIs, .int f_t_written, .ref h_t_forms, .int f_t_formRing, .int f_t_formMany, .ref h_t_best, .ref h_t_next, .ref h_t_ways, .ref h_t_round, .ref h_t_roughs, .int f_t_latest])), (h_t_best, .inl (cA, 4096, .inl f_t_best_2)), (h_t_next, .inl (cA, 4096, .inl f_t_next_2)), (h_t_w, .inl (cA, 190, .inl f_t_w))]) ⟨hx, hb, hml, hown, hts⟩ hK hP hD hS hA (c_Md_wayDown l dC dI cA fu h_t h_t_w h_t_imageSeed h_t_bookOf h_t_bookIs h_t_forms h_t_best h_t_next h_t_ways h_t_round h_t_roughs f_t_known f_t_kept f_t_seed f_t_written f_t_formRing f_t_formMany f_t_latest f_t_best f_t_next f_t_w a1 a2 r_4 f_t_best_2 f_t_next_2 hc14) (cwV 2 hts gX11_wayOf_X11_wayDown rfl rfl rfl (by decide +kernel) ⟨Nat.le_of_ble_eq_true rfl, Nat.le_of_ble_eq_true rfl⟩) [0, 1, 2, 3] [] [0, 1, 2, 3] rfl rfl rfl rfl (ci := 10) (q0 := 0) rfl rfl rfl rfl hl.1 (Nat.le_of_ble_eq_true rfl) dX11_wayOf_14 ⟨Nat.zero_le _, Nat.zero_le _⟩ (fun H locs hP hD hS => ?_)
    refine lv_goto (tgt := 26) hx hb dX11_wayOf_17 (by decide) ?_
    cases hm
    exact W_mono hQ (W.iret hx hb hr (fun t ht hW => ⟨⟨_, (), rfl, rfl, by rw [ht]; exact hP, va_K.moved hW.alike hK, hD⟩, hS.F ht⟩) hS.2.2 dX11_wayOf_26)
abbrev rmX11_layWays : Room := { frames := 5, cells := 0, slots := 0, locals := 114 }
theorem uX11_X11_layWays : ∀ w ∈ wsX110, w ∈ wsX11_layWays := fun _ h => List.mem_cons_of_mem _ (List.mem_append_right _ (h))
set_option maxHeartbeats 40000000 in
set_option maxRecDepth 100000 in
theorem c_Md_layWays (l : Launch) (dC : Nat → ClassId) (dI : Nat → Nat → Nat) (cA : ClassId) (fu : Nat) (h_t h_t_w h_t_imageSeed h_t_bookOf h_t_bookIs h_t_forms h_t_best h_t_next h_t_ways h_t_round h_t_roughs : Nat) (f_t_known : Int32) (f_t_kept : Int32) (f_t_seed : Int32) (f_t_written : Int32) (f_t_formRing : Int32) (f_t_formMany : Int32) (f_t_latest : Int32) (f_t_best : Nat → Int32) (f_t_next : Nat → Int32) (f_t_w : Nat → Int32) (f_t_ways : Nat → Int32) (f_t_best_z : Nat → Int32) (f_t_next_z : Nat → Int32) (f_t_ways_z : Nat → Int32) (hm : m_Md_layWays fu f_t_best f_t_next f_t_w f_t_ways = some (f_t_best_z, f_t_next_z, f_t_ways_z)) (sz : Nat) : Met l yX11_layWays wsX11_layWays rmX11_layWays (mPre (dC, dI) cA [.ref h_t] sz [(h_t, .inr (10, [.ref h_t_w, .int f_t_known, .int f_t_kept, .int f_t_seed, .ref h_t_imageSeed, .ref h_t_bookOf, .ref h_t_bookIs, .int f_t_written, .ref h_t_forms, .int f_t_formRing, .int f_t_formMany, .ref h_t_best, .ref h_t_next, .ref h_t_ways, .ref h_t_round, .ref h_t_roughs, .int f_t_latest])), (h_t_best, .inl (cA, 4096, .inl f_t_best)), (h_t_next, .inl (cA, 4096, .inl f_t_next)), (h_t_w, .inl (cA, 190, .inl f_t_w)), (h_t_ways, .inl (cA, 64, .inl f_t_ways))]) (mPosV (dC, dI) cA (va_A [(h_t, .inr (10, [.ref h_t_w, .int f_t_known, .int f_t_kept, .int f_t_seed, .ref h_t_imageSeed, .ref h_t_bookOf, .ref h_t_bookIs, .int f_t_written, .ref h_t_forms, .int f_t_formRing, .int f_t_formMany, .ref h_t_best, .ref h_t_next, .ref h_t_ways, .ref h_t_round, .ref h_t_roughs, .int f_t_latest])), (h_t_best, .inl (cA, 4096, .inl f_t_best)), (h_t_next, .inl (cA, 4096, .inl f_t_next)), (h_t_w, .inl (cA, 190, .inl f_t_w)), (h_t_ways, .inl (cA, 64, .inl f_t_ways))] sz) [(h_t, .inr (10, [.ref h_t_w, .int f_t_known, .int f_t_kept, .int f_t_seed, .ref h_t_imageSeed, .ref h_t_bookOf, .ref h_t_bookIs, .int f_t_written, .ref h_t_forms, .int f_t_formRing, .int f_t_formMany, .ref h_t_best, .ref h_t_next, .ref h_t_ways, .ref h_t_round, .ref h_t_roughs, .int f_t_latest])), (h_t_best, .inl (cA, 4096, .inl f_t_best_z)), (h_t_next, .inl (cA, 4096, .inl f_t_next_z)), (h_t_w, .inl (cA, 190, .inl f_t_w)), (h_t_ways, .inl (cA, 64, .inl f_t_ways_z))]) 0 0 (va_A [(h_t, .inr (10, [.ref h_t_w, .int f_t_known, .int f_t_kept, .int f_t_seed, .ref h_t_imageSeed, .ref h_t_bookOf, .ref h_t_bookIs, .int f_t_written, .ref h_t_forms, .int f_t_formRing, .int f_t_formMany, .ref h_t_best, .ref h_t_next, .ref h_t_ways, .ref h_t_round, .ref h_t_roughs, .int f_t_latest])), (h_t_best, .inl (cA, 4096, .inl f_t_best)), (h_t_next, .inl (cA, 4096, .inl f_t_next)), (h_t_w, .inl (cA, 190, .inl f_t_w)), (h_t_ways, .inl (cA, 64, .inl f_t_ways))] sz) := by
  refine Met.ofW (cc := cX11_layWays) (maxL := 5) (ret := none) (by decide) rfl ?_
  intro p e s m args below meth c s₁ B hml hv
  obtain ⟨rfl, hsz, hP, hK, hD0⟩ := hv
  refine W_gen (fun Q hQ => ?_)
  have hx := B.exec
  have hb := B.bytes
  have hr := B.returns
  have hts := atoms_spec (ws := wsX11_layWays) B.pre
  have hown : s.vm.findClass RX11 = some m.cls := findClass_of_methodNamed B.named
  have hlocks := B.notSynchronized
  subst hsz
  have hD := hD0.self (sz := s.heap.size)
  clear hD0
  generalize hAe : va_A [(h_t, .inr (10, [.ref h_t_w, .int f_t_known, .int f_t_kept, .int f_t_seed, .ref h_t_imageSeed, .ref h_t_bookOf, .ref h_t_bookIs, .int f_t_written, .ref h_t_forms, .int f_t_formRing, .int f_t_formMany, .ref h_t_best, .ref h_t_next, .ref h_t_ways, .ref h_t_round, .ref h_t_roughs, .int f_t_latest])), (h_t_best, .inl (cA, 4096, .inl f_t_best)), (h_t_next, .inl (cA, 4096, .inl f_t_next)), (h_t_w, .inl (cA, 190, .inl f_t_w)), (h_t_ways, .inl (cA, 64, .inl f_t_ways))] s.heap.size = A at hD hQ
  have hA : ∀ q : Nat, s.heap.size ≤ q → A q := fun q h => by rw [← hAe]; exact Or.inr h
  clear hAe
  have hS : va_S A s.heap s.heap [] := va_S.rf
  have hl := lv_entry ([.ref h_t]) (n := 5) (Nat.le_of_ble_eq_true rfl)
  rw [lg_entry_eq]
  generalize (lg_sl ([.ref h_t]) ++ List.replicate (5 - (lg_sl ([.ref h_t])).length) Slot.unset).toArray = ls at hl ⊢
  have hl : lv_has ls 5 [(0, .ref h_t)] := hl
  have k1 := hts (.fieldLink RX11 7 "ToneSetsModel" "w" "[I") (List.mem_of_getElem? (i := 1) rfl)
  have k2 := hts (.fieldLink RX11 31 "ToneSetsModel" "ways" "[I") (List.mem_of_getElem? (i := 2) rfl)
  have uX11 := uX11_X11_layWays
  unfold m_Md_layWays at hm
  refine lv_iconst (v := 0) hx hb dX11_layWays_0 (by decide) ?_
  refine lv_topi (fun v1_1 ev1_1 => ?_)
  replace hm := lt_go ev1_1 hm
  refine lv_istore_n (lv' := [(1, .int v1_1), (0, .ref h_t)]) hx hb dX11_layWays_1 rfl hl (by decide) rfl (fun ls hl => ?_)
  have L2 : ∀ (n : Nat) (v1_2 : Int32) (f_t_best_1 : Nat → Int32) (f_t_next_1 : Nat → Int32) (f_t_ways_1 : Nat → Int32) (f_t_best_2 : Nat → Int32) (f_t_next_2 : Nat → Int32) (f_t_ways_2 : Nat → Int32), m_Md_layWays_L2 fu f_t_w n v1_2 f_t_best_1 f_t_next_1 f_t_ways_1 = some (f_t_best_2, f_t_next_2, f_t_ways_2) → ∀ (H : Heap) (locs : List Loc), va_P (dC, dI) vwCl [(h_t, .inr (10, [.ref h_t_w, .int f_t_known, .int f_t_kept, .int f_t_seed, .ref h_t_imageSeed, .ref h_t_bookOf, .ref h_t_bookIs, .int f_t_written, .ref h_t_forms, .int f_t_formRing, .int f_t_formMany, .ref h_t_best, .ref h_t_next, .ref h_t_ways, .ref h_t_round, .ref h_t_roughs, .int f_t_latest])), (h_t_best, .inl (cA, 4096, .inl f_t_best_1)), (h_t_next, .inl (cA, 4096, .inl f_t_next_1)), (h_t_w, .inl (cA, 190, .inl f_t_w)), (h_t_ways, .inl (cA, 64, .inl f_t_ways_1))] H → va_D A [(h_t, .inr (10, [.ref h_t_w, .int f_t_known, .int f_t_kept, .int f_t_seed, .ref h_t_imageSeed, .ref h_t_bookOf, .ref h_t_bookIs, .int f_t_written, .ref h_t_forms, .int f_t_formRing, .int f_t_formMany, .ref h_t_best, .ref h_t_next, .ref h_t_ways, .ref h_t_round, .ref h_t_roughs, .int f_t_latest])), (h_t_best, .inl (cA, 4096, .inl f_t_best_1)), (h_t_next, .inl (cA, 4096, .inl f_t_next_1)), (h_t_w, .inl (cA, 190, .inl f_t_w)), (h_t_ways, .inl (cA, 64, .inl f_t_ways_1))] → va_S A s.heap H locs → ∀ ls : Array Slot, lv_has ls 5 [(0, .ref h_t), (1, .int v1_2)] → (∀ (H : Heap) (locs : List Loc), va_P (dC, dI) vwCl [(h_t, .inr (10, [.ref h_t_w, .int f_t_known, .int f_t_kept, .int f_t_seed, .ref h_t_imageSeed, .ref h_t_bookOf, .ref h_t_bookIs, .int f_t_written, .ref h_t_forms, .int f_t_formRing, .int f_t_formMany, .ref h_t_best, .ref h_t_next, .ref h_t_ways, .ref h_t_round, .ref h_t_roughs, .int f_t_latest])), (h_t_best, .inl (cA, 4096, .inl f_t_best_2)), (h_t_next, .inl (cA, 4096, .inl f_t_next_2)), (h_t_w, .inl (cA, 190, .inl f_t_w)), (h_t_ways, .inl (cA, 64, .inl f_t_ways_2))] H → va_D A [(h_t, .inr (10, [.ref h_t_w, .int f_t_known, .int f_t_kept, .int f_t_seed, .ref h_t_imageSeed, .ref h_t_bookOf, .ref h_t_bookIs, .int f_t_written, .ref h_t_forms, .int f_t_formRing, .int f_t_formMany, .ref h_t_best, .ref h_t_next, .ref h_t_ways, .ref h_t_round, .ref h_t_roughs, .int f_t_latest])), (h_t_best, .inl (cA, 4096, .inl f_t_best_2)), (h_t_next, .inl (cA, 4096, .inl f_t_next_2)), (h_t_w, .inl (cA, 190, .inl f_t_w)), (h_t_ways, .inl (cA, 64, .inl f_t_ways_2))] → va_S A s.heap H locs → ∀ ls : Array Slot, lv_has ls 5 [] → W p l e (headSpec wsX11_layWays rmX11_layWays).room s m (([.ref h_t] : List Value).toArray) below meth c H locs 0 0 Q (F0 m 133 ls [])) → W p l e (headSpec wsX11_layWays rmX11_layWays).room s m (([.ref h_t] : List Value).toArray) below meth c H locs 0 0 Q (F0 m 2 ls []) := by
    clear hm hP hD hS hl
    intro n
    induction n with
    | zero => intro _ _ _ _ _ _ _ hm; exact nomatch (show none = some _ from hm)
    | succ n ih =>
      intro v1_2 f_t_best_1 f_t_next_1 f_t_ways_1 f_t_best_2 f_t_next_2 f_t_ways_2 hm H locs hP hD hS ls hl KK
      unfold m_Md_layWays_L2 at hm
      refine lv_iload_n hx hb dX11_layWays_2 rfl (lv_at hl 1 rfl) ?_
      refine lv_bipush (v := 8) hx hb dX11_layWays_3 (by decide) ?_
      refine lv_aload_n hx hb dX11_layWays_5 rfl (lv_at hl 0 rfl) ?_
      refine va_get (D := (dC, dI)) (ci := 10) (v := .ref h_t_w) (C := RX11) (T := TX11) (N := 17) hx hb hts uX11 hown hK hP 0 rfl rfl 0 (by decide) k1 (fun _ h9 => h9) rfl dX11_layWays_6 ?_
      refine lv_iconst (v := 1) hx hb dX11_layWays_9 (by decide) ?_
      obtain ⟨b10, hm⟩ := ck_go hm
      refine va_iald hx hb hK hP 3 0 rfl rfl b10 dX11_layWays_10 ?_
      refine lv_imul hx hb dX11_layWays_11 ?_
      refine lv_icmp_ge (tgt := 133) hx hb dX11_layWays_12 (by decide) (fun c12 => ?_) (fun c12 => ?_)
      · replace hm := if_t c12 hm
        cases hm
        exact KK _ _ hP hD hS _ (lv_sub hl [] rfl)
      · replace hm := if_f c12 hm
        refine lv_iload_n hx hb dX11_layWays_15 rfl (lv_at hl 1 rfl) ?_
        refine lv_bipush (v := 8) hx hb dX11_layWays_16 (by decide) ?_
        refine lv_idiv hx hb dX11_layWays_18 (by decide) ?_
        refine lv_topi (fun v2_1 ev2_1 => ?_)
        replace hm := lt_go ev2_1 hm
        refine lv_istore_n (lv' := [(2, .int v2_1), (0, .ref h_t), (1, .int v1_2)]) hx hb dX11_layWays_19 rfl hl (by decide) rfl (fun ls hl => ?_)
        refine lv_iload_n hx hb dX11_layWays_20 rfl (lv_at hl 2 rfl) ?_
        refine lv_bipush (v := 8) hx hb dX11_layWays_21 (by decide) ?_
        refine lv_irem hx hb dX11_layWays_23 (by decide) ?_
        refine lv_topi (fun v3_1 ev3_1 => ?_)
        replace hm := lt_go ev3_1 hm
        refine lv_istore_n (lv' := [(3, .int v3_1), (2, .int v2_1), (0, .ref h_t), (1, .int v1_2)]) hx hb dX11_layWays_24 rfl hl (by decide) rfl (fun ls hl => ?_)
        refine lv_iload_n hx hb dX11_layWays_25 rfl (lv_at hl 0 rfl) ?_
        refine lv_aload_n hx hb dX11_layWays_26 rfl (lv_at hl 2 rfl) ?_
        refine va_get (D := (dC, dI)) (ci := 10) (v := .ref h_t_w) (C := RX11) (T := TX11) (N := 17) hx hb hts uX11 hown hK hP 0 rfl rfl 0 (by decide) k1 (fun _ h9 => h9) rfl dX11_layWays_27 ?_
        refine lv_iconst (v := 1) hx hb dX11_layWays_30 (by decide) ?_
        obtain ⟨b31, hm⟩ := ck_go hm
        refine va_iald hx hb hK hP 3 0 rfl rfl b31 dX11_layWays_31 ?_
        obtain ⟨q67_1, hqJ_1, hm⟩ := bd1_go hm
        have J_1 : ∀ (H : Heap) (locs : List Loc), va_P (dC, dI) vwCl [(h_t, .inr (10, [.ref h_t_w, .int f_t_known, .int f_t_kept, .int f_t_seed, .ref h_t_imageSeed, .ref h_t_bookOf, .ref h_t_bookIs, .int f_t_written, .ref h_t_forms, .int f_t_formRing, .int f_t_formMany, .ref h_t_best, .ref h_t_next, .ref h_t_ways, .ref h_t_round, .ref h_t_roughs, .int f_t_latest])), (h_t_best, .inl (cA, 4096, .inl f_t_best_1)), (h_t_next, .inl (cA, 4096, .inl f_t_next_1)), (h_t_w, .inl (cA, 190, .inl f_t_w)), (h_t_ways, .inl (cA, 64, .inl f_t_ways_1))] H → va_D A [(h_t, .inr (10, [.ref h_t_w, .int f_t_known, .int f_t_kept, .int f_t_seed, .ref h_t_imageSeed, .ref h_t_bookOf, .ref h_t_bookIs, .int f_t_written, .ref h_t_forms, .int f_t_formRing, .int f_t_formMany, .ref h_t_best, .ref h_t_next, .ref h_t_ways, .ref h_t_round, .ref h_t_roughs, .int f_t_latest])), (h_t_best, .inl (cA, 4096, .inl f_t_best_1)), (h_t_next, .inl (cA, 4096, .inl f_t_next_1)), (h_t_w, .inl (cA, 190, .inl f_t_w)), (h_t_ways, .inl (cA, 64, .inl f_t_ways_1))] → va_S A s.heap H locs → ∀ ls : Array Slot, lv_has ls 5 [(0, .ref h_t), (1, .int v1_2), (2, .int v2_1), (3, .int v3_1)] → W p l e (headSpec wsX11_layWays rmX11_layWays).room s m (([.ref h_t] : List Value).toArray) below meth c H locs 0 0 Q (F0 m 67 ls [.int q67_1]) := by
          intro H locs hP hD hS ls hl
          clear hqJ_1
          refine lv_topi (fun v4_1 ev4_1 => ?_)
          replace hm := lt_go ev4_1 hm
          refine lv_istore (lv' := [(4, .int v4_1), (0, .ref h_t), (1, .int v1_2), (2, .int v2_1), (3, .int v3_1)]) hx hb dX11_layWays_67 hl (by decide) rfl (fun ls hl => ?_)
          refine lv_iload hx hb dX11_layWays_69 (lv_at hl 0 rfl) ?_
          obtain ⟨f_t_best_3, f_t_next_3, f_t_ways_3, hqJ_2, hm⟩ := bd3_go hm
          have J_2 : ∀ (H : Heap) (locs : List Loc), va_P (dC, dI) vwCl [(h_t, .inr (10, [.ref h_t_w, .int f_t_known, .int f_t_kept, .int f_t_seed, .ref h_t_imageSeed, .ref h_t_bookOf, .ref h_t_bookIs, .int f_t_written, .ref h_t_forms, .int f_t_formRing, .int f_t_formMany, .ref h_t_best, .ref h_t_next, .ref h_t_ways, .ref h_t_round, .ref h_t_roughs, .int f_t_latest])), (h_t_best, .inl (cA, 4096, .inl f_t_best_3)), (h_t_next, .inl (cA, 4096, .inl f_t_next_3)), (h_t_w, .inl (cA, 190, .inl f_t_w)), (h_t_ways, .inl (cA, 64, .inl f_t_ways_3))] H → va_D A [(h_t, .inr (10, [.ref h_t_w, .int f_t_known, .int f_t_kept, .int f_t_seed, .ref h_t_imageSeed, .ref h_t_bookOf, .ref h_t_bookIs, .int f_t_written, .ref h_t_forms, .int f_t_formRing, .int f_t_formMany, .ref h_t_best, .ref h_t_next, .ref h_t_ways, .ref h_t_round, .ref h_t_roughs, .int f_t_latest])), (h_t_best, .inl (cA, 4096, .inl f_t_best_3)), (h_t_next, .inl (cA, 4096, .inl f_t_next_3)), (h_t_w, .inl (cA, 190, .inl f_t_w)), (h_t_ways, .inl (cA, 64, .inl f_t_ways_3))] → va_S A s.heap H locs → ∀ ls : Array Slot, lv_has ls 5 [(0, .ref h_t), (1, .int v1_2)] → W p l e (headSpec wsX11_layWays rmX11_layWays).room s m (([.ref h_t] : List Value).toArray) below meth c H locs 0 0 Q (F0 m 127 ls []) := by
            intro H locs hP hD hS ls hl
            clear hqJ_2
            obtain ⟨v1_3, ev1_3⟩ : ∃ z : Int32, z = v1_2 + 1 := ⟨_, rfl⟩
            replace hm := lt_go ev1_3 hm
            refine lv_iinc (v := v1_3) (lv' := [(1, .int v1_3), (0, .ref h_t)]) hx hb dX11_layWays_127 hl (k := 1) rfl (by rw [ev1_3]; rfl) (by decide) rfl (fun ls hl => ?_)
            refine lv_goto (tgt := 2) hx hb dX11_layWays_130 (by decide) ?_
            exact ih _ _ _ _ _ _ _ hm _ _ hP hD hS _ (lv_sub hl [1, 0] rfl) KK
          clear hm
          refine lv_if_eq (tgt := 127) hx hb dX11_layWays_71 (by decide) (fun c71 => ?_) (fun c71 => ?_)
          · replace hqJ_2 := if_t c71 hqJ_2
            cases hqJ_2
            exact J_2 _ _ hP hD hS _ (lv_sub hl [1, 2] rfl)
          · replace hqJ_2 := if_f c71 hqJ_2
            refine lv_aload_n hx hb dX11_layWays_74 rfl (lv_at hl 1 rfl) ?_
            refine va_get (D := (dC, dI)) (ci := 10) (v := .ref h_t_ways) (C := RX11) (T := TX11) (N := 17) hx hb hts uX11 hown hK hP 0 rfl rfl 13 (by decide) k2 (fun _ h9 => h9) rfl dX11_layWays_75 ?_
            refine lv_bipush (v := 8) hx hb dX11_layWays_78 (by decide) ?_
            refine lv_iload_n hx hb dX11_layWays_80 rfl (lv_at hl 3 rfl) ?_
            refine lv_imul hx hb dX11_layWays_81 ?_
            refine lv_iload_n hx hb dX11_layWays_82 rfl (lv_at hl 4 rfl) ?_
            refine lv_iadd hx hb dX11_layWays_83 ?_
            refine lv_aload_n hx hb dX11_layWays_84 rfl (lv_at hl 1 rfl) ?_
            refine lv_aload_n hx hb dX11_layWays_85 rfl (lv_at hl 1 rfl) ?_
            refine va_get (D := (dC, dI)) (ci := 10) (v := .ref h_t_w) (C := RX11) (T := TX11) (N := 17) hx hb hts uX11 hown hK hP 0 rfl rfl 0 (by decide) k1 (fun _ h9 => h9) rfl dX11_layWays_86 ?_
            refine lv_iconst (v := 2) hx hb dX11_layWays_89 (by decide) ?_
            refine lv_iload_n hx hb dX11_layWays_90 rfl (lv_at hl 3 rfl) ?_
            refine lv_iadd hx hb dX11_layWays_91 ?_
            obtain ⟨b92, hqJ_2⟩ := ck_go hqJ_2
            refine va_iald hx hb hK hP 3 0 rfl rfl b92 dX11_layWays_92 ?_
            refine lv_aload_n hx hb dX11_layWays_93 rfl (lv_at hl 1 rfl) ?_
            refine va_get (D := (dC, dI)) (ci := 10) (v := .ref h_t_w) (C := RX11) (T := TX11) (N := 17) hx hb hts uX11 hown hK hP 0 rfl rfl 0 (by decide) k1 (fun _ h9 => h9) rfl dX11_layWays_94 ?_
            refine lv_iconst (v := 2) hx hb dX11_layWays_97 (by decide) ?_
            refine lv_iload_n hx hb dX11_layWays_98 rfl (lv_at hl 4 rfl) ?_
            refine lv_iadd hx hb dX11_layWays_99 ?_
            obtain ⟨b100, hqJ_2⟩ := ck_go hqJ_2
            refine va_iald hx hb hK hP 3 0 rfl rfl b100 dX11_layWays_100 ?_
            obtain ⟨r_1, f_t_best_4, f_t_next_4, hc101, hqJ_2⟩ := bd3_go hqJ_2
            refine my_cVi (As := [.int (f_t_w (2 + v2_1).toNatClampNeg), .int (f_t_w (2 + v3_1).toNatClampNeg)]) (rest := [.int ((8 * v2_1) + v3_1), .ref h_t_ways]) (WC := [(h_t, .inr (10, [.ref h_t_w, .int f_t_known, .int f_t_kept, .int f_t_seed, .ref h_t_imageSeed, .ref h_t_bookOf, .ref h_t_bookIs, .int f_t_written, .ref h_t_forms, .int f_t_formRing, .int f_t_formMany, .ref h_t_best, .ref h_t_next, .ref h_t_ways, .ref h_t_round, .ref h_t_roughs, .int f_t_latest])), (h_t_best, .inl (cA, 4096, .inl f_t_best_1)), (h_t_next, .inl (cA, 4096, .inl f_t_next_1)), (h_t_w, .inl (cA, 190, .inl f_t_w))]) (WC' := [(h_t, .inr (10, [.ref h_t_w, .int f_t_known, .int f_t_kept, .int f_t_seed, .ref h_t_imageSeed, .ref h_t_bookOf, .ref h_t_bookIs, .int f_t_written, .ref h_t_forms, .int f_t_formRing, .int f_t_formMany, .ref h_t_best, .ref h_t_next, .ref h_t_ways, .ref h_t_round, .ref h_t_roughs, .int f_t_latest])), (h_t_best, .inl (cA, 4096, .inl f_t_best_4)), (h_t_next, .inl (cA, 4096, .inl f_t_next_4)), (h_t_w, .inl (cA, 190, .inl f_t_w))]) (WR := [(h_t_ways, .inl (cA, 64, .inl f_t_ways_1))]) (W' := [(h_t, .inr (10, [.ref h_t_w, .int f_t_known, .int f_t_kept, .int f_t_seed, .ref h_t_imageSeed, .ref h_t_bookOf, .ref h_t_bookIs, .int f_t_written, .ref h_t_forms, .int f_t_formRing, .int f_t_formMany, .ref h_t_best, .ref h_t_next, .ref h_t_ways, .ref h_t_round, .ref h_t_roughs, .int f_t_latest])), (h_t_best, .inl (cA, 4096, .inl f_t_best_4)), (h_t_next, .inl (cA, 4096, .inl f_t_next_4)), (h_t_w, .inl (cA, 190, .inl f_t_w)), (h_t_ways, .inl (cA, 64, .inl f_t_ways_1))]) ⟨hx, hb, hml, hown, hts⟩ hK hP hD hS hA (c_Md_wayOf l dC dI cA fu h_t h_t_w h_t_imageSeed h_t_bookOf h_t_bookIs h_t_forms h_t_best h_t_next h_t_ways h_t_round h_t_roughs f_t_known f_t_kept f_t_seed f_t_written f_t_formRing f_t_formMany f_t_latest f_t_best_1 f_t_next_1 f_t_w (f_t_w (2 + v2_1).toNatClampNeg) (f_t_w (2 + v3_1).toNatClampNeg) r_1 f_t_best_4 f_t_next_4 hc101) (cwV 2 hts gX11_layWays_X11_wayOf rfl rfl rfl (by decide +kernel) ⟨Nat.le_of_ble_eq_true rfl, Nat.le_of_ble_eq_true rfl⟩) [0, 1, 2, 3] [4] [1, 2, 3, 4, 0] rfl rfl rfl rfl (ci := 10) (q0 := 0) rfl rfl rfl rfl hl.1 (Nat.le_of_ble_eq_true rfl) dX11_layWays_101 ⟨Nat.zero_le _, Nat.zero_le _⟩ (fun H locs hP hD hS => ?_)
            obtain ⟨b104, hqJ_2⟩ := ck_go hqJ_2
            refine my_iast (W' := fun z' => [(h_t, .inr (10, [.ref h_t_w, .int f_t_known, .int f_t_kept, .int f_t_seed, .ref h_t_imageSeed, .ref h_t_bookOf, .ref h_t_bookIs, .int f_t_written, .ref h_t_forms, .int f_t_formRing, .int f_t_formMany, .ref h_t_best, .ref h_t_next, .ref h_t_ways, .ref h_t_round, .ref h_t_roughs, .int f_t_latest])), (h_t_best, .inl (cA, 4096, .inl f_t_best_4)), (h_t_next, .inl (cA, 4096, .inl f_t_next_4)), (h_t_w, .inl (cA, 190, .inl f_t_w)), (h_t_ways, .inl (cA, 64, .inl z'))]) hx hb hK hP hD hS 4 0 rfl rfl b104 dX11_layWays_104 (fun _ => rfl) (fun f_t_ways_4 ef_t_ways_4 H locs hP hD hS => ?_)
            replace hqJ_2 := lt_go ef_t_ways_4 hqJ_2
            refine lv_aload_n hx hb dX11_layWays_105 rfl (lv_at hl 1 rfl) ?_
            refine va_get (D := (dC, dI)) (ci := 10) (v := .ref h_t_ways) (C := RX11) (T := TX11) (N := 17) hx hb hts uX11 hown hK hP 0 rfl rfl 13 (by decide) k2 (fun _ h9 => h9) rfl dX11_layWays_106 ?_
            refine lv_bipush (v := 8) hx hb dX11_layWays_109 (by decide) ?_
            refine lv_iload_n hx hb dX11_layWays_111 rfl (lv_at hl 4 rfl) ?_
            refine lv_imul hx hb dX11_layWays_112 ?_
            refine lv_iload_n hx hb dX11_layWays_113 rfl (lv_at hl 3 rfl) ?_
            refine lv_iadd hx hb dX11_layWays_114 ?_
            refine lv_aload_n hx hb dX11_layWays_115 rfl (lv_at hl 1 rfl) ?_
            refine va_get (D := (dC, dI)) (ci := 10) (v := .ref h_t_ways) (C := RX11) (T := TX11) (N := 17) hx hb hts uX11 hown hK hP 0 rfl rfl 13 (by decide) k2 (fun _ h9 => h9) rfl dX11_layWays_116 ?_
            refine lv_bipush (v := 8) hx hb dX11_layWays_119 (by decide) ?_
            refine lv_iload_n hx hb dX11_layWays_121 rfl (lv_at hl 3 rfl) ?_
            refine lv_imul hx hb dX11_layWays_122 ?_
            refine lv_iload_n hx hb dX11_layWays_123 rfl (lv_at hl 4 rfl) ?_
            refine lv_iadd hx hb dX11_layWays_124 ?_
            obtain ⟨b125, hqJ_2⟩ := ck_go hqJ_2
            refine va_iald hx hb hK hP 4 0 rfl rfl b125 dX11_layWays_125 ?_
            obtain ⟨b126, hqJ_2⟩ := ck_go hqJ_2
            refine my_iast (W' := fun z' => [(h_t, .inr (10, [.ref h_t_w, .int f_t_known, .int f_t_kept, .int f_t_seed, .ref h_t_imageSeed, .ref h_t_bookOf, .ref h_t_bookIs, .int f_t_written, .ref h_t_forms, .int f_t_formRing, .int f_t_formMany, .ref h_t_best, .ref h_t_next, .ref h_t_ways, .ref h_t_round, .ref h_t_roughs, .int f_t_latest])), (h_t_best, .inl (cA, 4096, .inl f_t_best_4)), (h_t_next, .inl (cA, 4096, .inl f_t_next_4)), (h_t_w, .inl (cA, 190, .inl f_t_w)), (h_t_ways, .inl (cA, 64, .inl z'))]) hx hb hK hP hD hS 4 0 rfl rfl b126 dX11_layWays_126 (fun _ => rfl) (fun f_t_ways_5 ef_t_ways_5 H locs hP hD hS => ?_)
            replace hqJ_2 := lt_go ef_t_ways_5 hqJ_2
            cases hqJ_2
            exact J_2 _ _ hP hD hS _ (lv_sub hl [1, 2] rfl)
        clear hm
        refine lv_icmp_ge (tgt := 66) hx hb dX11_layWays_32 (by decide) (fun c32 => ?_) (fun c32 => ?_)
        · replace hqJ_1 := if_t c32 hqJ_1
          refine lv_iconst (v := 0) hx hb dX11_layWays_66 (by decide) ?_
          cases hqJ_1
          exact J_1 _ _ hP hD hS _ (lv_sub hl [2, 3, 1, 0] rfl)
        · replace hqJ_1 := if_f c32 hqJ_1
          refine lv_aload_n hx hb dX11_layWays_35 rfl (lv_at hl 2 rfl) ?_
          refine va_get (D := (dC, dI)) (ci := 10) (v := .ref h_t_w) (C := RX11) (T := TX11) (N := 17) hx hb hts uX11 hown hK hP 0 rfl rfl 0 (by decide) k1 (fun _ h9 => h9) rfl dX11_layWays_36 ?_
          refine lv_iconst (v := 2) hx hb dX11_layWays_39 (by decide) ?_
          refine lv_iload_n hx hb dX11_layWays_40 rfl (lv_at hl 1 rfl) ?_
          refine lv_iadd hx hb dX11_layWays_41 ?_
          obtain ⟨b42, hqJ_1⟩ := ck_go hqJ_1
          refine va_iald hx hb hK hP 3 0 rfl rfl b42 dX11_layWays_42 ?_
          refine lv_if_eq (tgt := 66) hx hb dX11_layWays_43 (by decide) (fun c43 => ?_) (fun c43 => ?_)
          · replace hqJ_1 := if_t c43 hqJ_1
            refine lv_iconst (v := 0) hx hb dX11_layWays_66 (by decide) ?_
            cases hqJ_1
            exact J_1 _ _ hP hD hS _ (lv_sub hl [2, 3, 1, 0] rfl)
          · replace hqJ_1 := if_f c43 hqJ_1
            refine lv_iload_n hx hb dX11_layWays_46 rfl (lv_at hl 0 rfl) ?_
            refine lv_iload_n hx hb dX11_layWays_47 rfl (lv_at hl 1 rfl) ?_
            refine lv_icmp_ge (tgt := 66) hx hb dX11_layWays_48 (by decide) (fun c48 => ?_) (fun c48 => ?_)
            · replace hqJ_1 := if_t c48 hqJ_1
              refine lv_iconst (v := 0) hx hb dX11_layWays_66 (by decide) ?_
              cases hqJ_1
              exact J_1 _ _ hP hD hS _ (lv_sub hl [2, 3, 1, 0] rfl)
            · replace hqJ_1 := if_f c48 hqJ_1
              refine lv_aload_n hx hb dX11_layWays_51 rfl (lv_at hl 2 rfl) ?_
              refine va_get (D := (dC, dI)) (ci := 10) (v := .ref h_t_w) (C := RX11) (T := TX11) (N := 17) hx hb hts uX11 hown hK hP 0 rfl rfl 0 (by decide) k1 (fun _ h9 => h9) rfl dX11_layWays_52 ?_
              refine lv_iconst (v := 2) hx hb dX11_layWays_55 (by decide) ?_
              refine lv_iload_n hx hb dX11_layWays_56 rfl (lv_at hl 0 rfl) ?_
              refine lv_iadd hx hb dX11_layWays_57 ?_
              obtain ⟨b58, hqJ_1⟩ := ck_go hqJ_1
              refine va_iald hx hb hK hP 3 0 rfl rfl b58 dX11_layWays_58 ?_
              refine lv_if_eq (tgt := 66) hx hb dX11_layWays_59 (by decide) (fun c59 => ?_) (fun c59 => ?_)
              · replace hqJ_1 := if_t c59 hqJ_1
                refine lv_iconst (v := 0) hx hb dX11_layWays_66 (by decide) ?_
                cases hqJ_1
                exact J_1 _ _ hP hD hS _ (lv_sub hl [2, 3, 1, 0] rfl)
              · replace hqJ_1 := if_f c59 hqJ_1
                refine lv_iconst (v := 1) hx hb dX11_layWays_62 (by decide) ?_
                refine lv_goto (tgt := 67) hx hb dX11_layWays_63 (by decide) ?_
                cases hqJ_1
                exact J_1 _ _ hP hD hS _ (lv_sub hl [2, 3, 1, 0] rfl)
  obtain ⟨f_t_best_5, f_t_next_5, f_t_ways_6, hl2, hm⟩ := bd3_go hm
  refine L2 _ _ _ _ _ _ _ _ hl2 _ _ hP hD hS _ (lv_sub hl [1, 0] rfl) (fun H locs hP hD hS ls hl => ?_)
  cases hm
  exact W_mono hQ (W.vret hx hb hr (fun t ht hW => ⟨⟨(), rfl, trivial, by rw [ht]; exact hP, va_K.moved hW.alike hK, hD⟩, hS.F ht⟩) hS.2.2 dX11_layWays_133)
abbrev rmX11_nearestOf : Room := { frames := 5, cells := 0, slots := 0, locals := 114 }
set_option maxHeartbeats 40000000 in
set_option maxRecDepth 100000 in
theorem c_Md_nearestOf (l : Launch) (dC : Nat → ClassId) (dI : Nat → Nat → Nat) (cA : ClassId) (fu : Nat) (h_t h_t_w h_t_imageSeed h_t_bookOf h_t_bookIs h_t_forms h_t_best h_t_next h_t_ways h_t_round h_t_roughs : Nat) (f_t_known : Int32) (f_t_kept : Int32) (f_t_seed : Int32) (f_t_written : Int32) (f_t_formRing : Int32) (f_t_formMany : Int32) (f_t_latest : Int32) (f_t_best : Nat → Int32) (f_t_next : Nat → Int32) (f_t_w : Nat → Int32) (a1 : Int32) (a2 : Int32) (r0 : Int32) (f_t_best_z : Nat → Int32) (f_t_next_z : Nat → Int32) (hm : m_Md_nearestOf fu f_t_best f_t_next f_t_w a1 a2 = some (r0, f_t_best_z, f_t_next_z)) (sz : Nat) : Met l yX11_nearestOf wsX11_nearestOf rmX11_nearestOf (mPre (dC, dI) cA [.ref h_t, .int a1, .int a2] sz [(h_t, .inr (10, [.ref h_t_w, .int f_t_known, .int f_t_kept, .int f_t_seed, .ref h_t_imageSeed, .ref h_t_bookOf, .ref h_t_bookIs, .int f_t_written, .ref h_t_forms, .int f_t_formRing, .int f_t_formMany, .ref h_t_best, .ref h_t_next, .ref h_t_ways, .ref h_t_round, .ref h_t_roughs, .int f_t_latest])), (h_t_best, .inl (cA, 4096, .inl f_t_best)), (h_t_next, .inl (cA, 4096, .inl f_t_next)), (h_t_w, .inl (cA, 190, .inl f_t_w))]) (mPosI (dC, dI) cA r0 (va_A [(h_t, .inr (10, [.ref h_t_w, .int f_t_known, .int f_t_kept, .int f_t_seed, .ref h_t_imageSeed, .ref h_t_bookOf, .ref h_t_bookIs, .int f_t_written, .ref h_t_forms, .int f_t_formRing, .int f_t_formMany, .ref h_t_best, .ref h_t_next, .ref h_t_ways, .ref h_t_round, .ref h_t_roughs, .int f_t_latest])), (h_t_best, .inl (cA, 4096, .inl f_t_best)), (h_t_next, .inl (cA, 4096, .inl f_t_next)), (h_t_w, .inl (cA, 190, .inl f_t_w))] sz) [(h_t, .inr (10, [.ref h_t_w, .int f_t_known, .int f_t_kept, .int f_t_seed, .ref h_t_imageSeed, .ref h_t_bookOf, .ref h_t_bookIs, .int f_t_written, .ref h_t_forms, .int f_t_formRing, .int f_t_formMany, .ref h_t_best, .ref h_t_next, .ref h_t_ways, .ref h_t_round, .ref h_t_roughs, .int f_t_latest])), (h_t_best, .inl (cA, 4096, .inl f_t_best_z)), (h_t_next, .inl (cA, 4096, .inl f_t_next_z)), (h_t_w, .inl (cA, 190, .inl f_t_w))]) 0 0 (va_A [(h_t, .inr (10, [.ref h_t_w, .int f_t_known, .int f_t_kept, .int f_t_seed, .ref h_t_imageSeed, .ref h_t_bookOf, .ref h_t_bookIs, .int f_t_written, .ref h_t_forms, .int f_t_formRing, .int f_t_formMany, .ref h_t_best, .ref h_t_next, .ref h_t_ways, .ref h_t_round, .ref h_t_roughs, .int f_t_latest])), (h_t_best, .inl (cA, 4096, .inl f_t_best)), (h_t_next, .inl (cA, 4096, .inl f_t_next)), (h_t_w, .inl (cA, 190, .inl f_t_w))] sz) := by
  refine Met.ofW (cc := cX11_nearestOf) (maxL := 7) (ret := (some .int)) (by decide) rfl ?_
  intro p e s m args below meth c s₁ B hml hv
  obtain ⟨rfl, hsz, hP, hK, hD0⟩ := hv
  refine W_gen (fun Q hQ => ?_)
  have hx := B.exec
  have hb := B.bytes
  have hr := B.returns
  have hts := atoms_spec (ws := wsX11_nearestOf) B.pre
  have hown : s.vm.findClass RX11 = some m.cls := findClass_of_methodNamed B.named
  have hlocks := B.notSynchronized
  subst hsz
  have hD := hD0.self (sz := s.heap.size)
  clear hD0
  generalize hAe : va_A [(h_t, .inr (10, [.ref h_t_w, .int f_t_known, .int f_t_kept, .int f_t_seed, .ref h_t_imageSeed, .ref h_t_bookOf, .ref h_t_bookIs, .int f_t_written, .ref h_t_forms, .int f_t_formRing, .int f_t_formMany, .ref h_t_best, .ref h_t_next, .ref h_t_ways, .ref h_t_round, .ref h_t_roughs, .int f_t_latest])), (h_t_best, .inl (cA, 4096, .inl f_t_best)), (h_t_next, .inl (cA, 4096, .inl f_t_next)), (h_t_w, .inl (cA, 190, .inl f_t_w))] s.heap.size = A at hD hQ
  have hA : ∀ q : Nat, s.heap.size ≤ q → A q := fun q h => by rw [← hAe]; exact Or.inr h
  clear hAe
  have hS : va_S A s.heap s.heap [] := va_S.rf
  have hl := lv_entry ([.ref h_t, .int a1, .int a2]) (n := 7) (Nat.le_of_ble_eq_true rfl)
  rw [lg_entry_eq]
  generalize (lg_sl ([.ref h_t, .int a1, .int a2]) ++ List.replicate (7 - (lg_sl ([.ref h_t, .int a1, .int a2])).length) Slot.unset).toArray = ls at hl ⊢
  have hl : lv_has ls 7 [(0, .ref h_t), (1, .int a1), (2, .int a2)] := hl
  have k1 := hts (.constant RX11 96 (1000000)) (List.mem_of_getElem? (i := 1) rfl)
  unfold m_Md_nearestOf at hm
  refine lv_iconst (v := 0) hx hb dX11_nearestOf_0 (by decide) ?_
  refine lv_topi (fun v3_1 ev3_1 => ?_)
  replace hm := lt_go ev3_1 hm
  refine lv_istore_n (lv' := [(3, .int v3_1), (0, .ref h_t), (1, .int a1), (2, .int a2)]) hx hb dX11_nearestOf_1 rfl hl (by decide) rfl (fun ls hl => ?_)
  refine lv_ldc (v := 1000000) hx hb hown k1 dX11_nearestOf_2 ?_
  refine lv_topi (fun v4_1 ev4_1 => ?_)
  replace hm := lt_go ev4_1 hm
  refine lv_istore (lv' := [(4, .int v4_1), (3, .int v3_1), (0, .ref h_t), (1, .int a1), (2, .int a2)]) hx hb dX11_nearestOf_4 hl (by decide) rfl (fun ls hl => ?_)
  refine lv_iconst (v := 0) hx hb dX11_nearestOf_6 (by decide) ?_
  refine lv_topi (fun v5_1 ev5_1 => ?_)
  replace hm := lt_go ev5_1 hm
  refine lv_istore (lv' := [(5, .int v5_1), (4, .int v4_1), (3, .int v3_1), (0, .ref h_t), (1, .int a1), (2, .int a2)]) hx hb dX11_nearestOf_7 hl (by decide) rfl (fun ls hl => ?_)
  have L9 : ∀ (n : Nat) (v3_2 : Int32) (v4_2 : Int32) (v5_2 : Int32) (f_t_best_1 : Nat → Int32) (f_t_next_1 : Nat → Int32) (v3_3 : Int32) (f_t_best_2 : Nat → Int32) (f_t_next_2 : Nat → Int32), m_Md_nearestOf_L9 fu f_t_w a2 a1 n v3_2 v4_2 v5_2 f_t_best_1 f_t_next_1 = some (v3_3, f_t_best_2, f_t_next_2) → ∀ (H : Heap) (locs : List Loc), va_P (dC, dI) vwCl [(h_t, .inr (10, [.ref h_t_w, .int f_t_known, .int f_t_kept, .int f_t_seed, .ref h_t_imageSeed, .ref h_t_bookOf, .ref h_t_bookIs, .int f_t_written, .ref h_t_forms, .int f_t_formRing, .int f_t_formMany, .ref h_t_best, .ref h_t_next, .ref h_t_ways, .ref h_t_round, .ref h_t_roughs, .int f_t_latest])), (h_t_best, .inl (cA, 4096, .inl f_t_best_1)), (h_t_next, .inl (cA, 4096, .inl f_t_next_1)), (h_t_w, .inl (cA, 190, .inl f_t_w))] H → va_D A [(h_t, .inr (10, [.ref h_t_w, .int f_t_known, .int f_t_kept, .int f_t_seed, .ref h_t_imageSeed, .ref h_t_bookOf, .ref h_t_bookIs, .int f_t_written, .ref h_t_forms, .int f_t_formRing, .int f_t_formMany, .ref h_t_best, .ref h_t_next, .ref h_t_ways, .ref h_t_round, .ref h_t_roughs, .int f_t_latest])), (h_t_best, .inl (cA, 4096, .inl f_t_best_1)), (h_t_next, .inl (cA, 4096, .inl f_t_next_1)), (h_t_w, .inl (cA, 190, .inl f_t_w))] → va_S A s.heap H locs → ∀ ls : Array Slot, lv_has ls 7 [(0, .ref h_t), (1, .int a1), (2, .int a2), (3, .int v3_2), (4, .int v4_2), (5, .int v5_2)] → (∀ (H : Heap) (locs : List Loc), va_P (dC, dI) vwCl [(h_t, .inr (10, [.ref h_t_w, .int f_t_known, .int f_t_kept, .int f_t_seed, .ref h_t_imageSeed, .ref h_t_bookOf, .ref h_t_bookIs, .int f_t_written, .ref h_t_forms, .int f_t_formRing, .int f_t_formMany, .ref h_t_best, .ref h_t_next, .ref h_t_ways, .ref h_t_round, .ref h_t_roughs, .int f_t_latest])), (h_t_best, .inl (cA, 4096, .inl f_t_best_2)), (h_t_next, .inl (cA, 4096, .inl f_t_next_2)), (h_t_w, .inl (cA, 190, .inl f_t_w))] H → va_D A [(h_t, .inr (10, [.ref h_t_w, .int f_t_known, .int f_t_kept, .int f_t_seed, .ref h_t_imageSeed, .ref h_t_bookOf, .ref h_t_bookIs, .int f_t_written, .ref h_t_forms, .int f_t_formRing, .int f_t_formMany, .ref h_t_best, .ref h_t_next, .ref h_t_ways, .ref h_t_round, .ref h_t_roughs, .int f_t_latest])), (h_t_best, .inl (cA, 4096, .inl f_t_best_2)), (h_t_next, .inl (cA, 4096, .inl f_t_next_2)), (h_t_w, .inl (cA, 190, .inl f_t_w))] → va_S A s.heap H locs → ∀ ls : Array Slot, lv_has ls 7 [(3, .int v3_3)] → W p l e (headSpec wsX11_nearestOf rmX11_nearestOf).room s m (([.ref h_t, .int a1, .int a2] : List Value).toArray) below meth c H locs 0 0 Q (F0 m 70 ls [])) → W p l e (headSpec wsX11_nearestOf rmX11_nearestOf).room s m (([.ref h_t, .int a1, .int a2] : List Value).toArray) below meth c H locs 0 0 Q (F0 m 9 ls []) := by
    clear hm hP hD hS hl
    intro n
    induction n with
    | zero => intro _ _ _ _ _ _ _ _ hm; exact nomatch (show none = some _ from hm)
    | succ n ih =>
      intro v3_2 v4_2 v5_2 f_t_best_1 f_t_next_1 v3_3 f_t_best_2 f_t_next_2 hm H locs hP hD hS ls hl KK
      unfold m_Md_nearestOf_L9 at hm
      refine lv_iload hx hb dX11_nearestOf_9 (lv_at hl 5 rfl) ?_
      refine lv_iconst (v := 2) hx hb dX11_nearestOf_11 (by decide) ?_
      refine lv_aload_n hx hb dX11_nearestOf_12 rfl (lv_at hl 0 rfl) ?_
      obtain ⟨r_1, hc13, hm⟩ := bd1_go hm
      refine my_cVi (As := []) (rest := [.int 2, .int v5_2]) (WC := [(h_t, .inr (10, [.ref h_t_w, .int f_t_known, .int f_t_kept, .int f_t_seed, .ref h_t_imageSeed, .ref h_t_bookOf, .ref h_t_bookIs, .int f_t_written, .ref h_t_forms, .int f_t_formRing, .int f_t_formMany, .ref h_t_best, .ref h_t_next, .ref h_t_ways, .ref h_t_round, .ref h_t_roughs, .int f_t_latest])), (h_t_w, .inl (cA, 190, .inl f_t_w))]) (WC' := [(h_t, .inr (10, [.ref h_t_w, .int f_t_known, .int f_t_kept, .int f_t_seed, .ref h_t_imageSeed, .ref h_t_bookOf, .ref h_t_bookIs, .int f_t_written, .ref h_t_forms, .int f_t_formRing, .int f_t_formMany, .ref h_t_best, .ref h_t_next, .ref h_t_ways, .ref h_t_round, .ref h_t_roughs, .int f_t_latest])), (h_t_w, .inl (cA, 190, .inl f_t_w))]) (WR := [(h_t_best, .inl (cA, 4096, .inl f_t_best_1)), (h_t_next, .inl (cA, 4096, .inl f_t_next_1))]) (W' := [(h_t, .inr (10, [.ref h_t_w, .int f_t_known, .int f_t_kept, .int f_t_seed, .ref h_t_imageSeed, .ref h_t_bookOf, .ref h_t_bookIs, .int f_t_written, .ref h_t_forms, .int f_t_formRing, .int f_t_formMany, .ref h_t_best, .ref h_t_next, .ref h_t_ways, .ref h_t_round, .ref h_t_roughs, .int f_t_latest])), (h_t_best, .inl (cA, 4096, .inl f_t_best_1)), (h_t_next, .inl (cA, 4096, .inl f_t_next_1)), (h_t_w, .inl (cA, 190, .inl f_t_w))]) ⟨hx, hb, hml, hown, hts⟩ hK hP hD hS hA (c_Md_m l dC dI cA h_t h_t_w h_t_imageSeed h_t_bookOf h_t_bookIs h_t_forms h_t_best h_t_next h_t_ways h_t_round h_t_roughs f_t_known f_t_kept f_t_seed f_t_written f_t_formRing f_t_formMany f_t_latest f_t_w r_1 hc13) (cwV 0 hts gX11_nearestOf_X11_m rfl rfl rfl (by decide +kernel) ⟨Nat.le_of_ble_eq_true rfl, Nat.le_of_ble_eq_true rfl⟩) [0, 3] [1, 2] [2, 0, 1, 3] rfl rfl rfl rfl (ci := 10) (q0 := 0) rfl rfl rfl rfl hl.1 (Nat.le_of_ble_eq_true rfl) dX11_nearestOf_13 ⟨Nat.zero_le _, Nat.zero_le _⟩ (fun H locs hP hD hS => ?_)
      refine lv_imul hx hb dX11_nearestOf_16 ?_
      refine lv_icmp_ge (tgt := 70) hx hb dX11_nearestOf_17 (by decide) (fun c17 => ?_) (fun c17 => ?_)
      · replace hm := if_t c17 hm
        cases hm
        exact KK _ _ hP hD hS _ (lv_sub hl [3] rfl)
      · replace hm := if_f c17 hm
        refine lv_aload_n hx hb dX11_nearestOf_20 rfl (lv_at hl 0 rfl) ?_
        refine lv_iload_n hx hb dX11_nearestOf_21 rfl (lv_at hl 1 rfl) ?_
        refine lv_aload_n hx hb dX11_nearestOf_22 rfl (lv_at hl 0 rfl) ?_
        refine lv_iload_n hx hb dX11_nearestOf_23 rfl (lv_at hl 2 rfl) ?_
        refine lv_iload hx hb dX11_nearestOf_24 (lv_at hl 5 rfl) ?_
        obtain ⟨r_2, hc26, hm⟩ := bd1_go hm
        refine my_cVi (As := [.int a2, .int v5_2]) (rest := [.int a1, .ref h_t]) (WC := [(h_t, .inr (10, [.ref h_t_w, .int f_t_known, .int f_t_kept, .int f_t_seed, .ref h_t_imageSeed, .ref h_t_bookOf, .ref h_t_bookIs, .int f_t_written, .ref h_t_forms, .int f_t_formRing, .int f_t_formMany, .ref h_t_best, .ref h_t_next, .ref h_t_ways, .ref h_t_round, .ref h_t_roughs, .int f_t_latest])), (h_t_w, .inl (cA, 190, .inl f_t_w))]) (WC' := [(h_t, .inr (10, [.ref h_t_w, .int f_t_known, .int f_t_kept, .int f_t_seed, .ref h_t_imageSeed, .ref h_t_bookOf, .ref h_t_bookIs, .int f_t_written, .ref h_t_forms, .int f_t_formRing, .int f_t_formMany, .ref h_t_best, .ref h_t_next, .ref h_t_ways, .ref h_t_round, .ref h_t_roughs, .int f_t_latest])), (h_t_w, .inl (cA, 190, .inl f_t_w))]) (WR := [(h_t_best, .inl (cA, 4096, .inl f_t_best_1)), (h_t_next, .inl (cA, 4096, .inl f_t_next_1))]) (W' := [(h_t, .inr (10, [.ref h_t_w, .int f_t_known, .int f_t_kept, .int f_t_seed, .ref h_t_imageSeed, .ref h_t_bookOf, .ref h_t_bookIs, .int f_t_written, .ref h_t_forms, .int f_t_formRing, .int f_t_formMany, .ref h_t_best, .ref h_t_next, .ref h_t_ways, .ref h_t_round, .ref h_t_roughs, .int f_t_latest])), (h_t_best, .inl (cA, 4096, .inl f_t_best_1)), (h_t_next, .inl (cA, 4096, .inl f_t_next_1)), (h_t_w, .inl (cA, 190, .inl f_t_w))]) ⟨hx, hb, hml, hown, hts⟩ hK hP hD hS hA (c_Md_imageOf l dC dI cA fu h_t h_t_w h_t_imageSeed h_t_bookOf h_t_bookIs h_t_forms h_t_best h_t_next h_t_ways h_t_round h_t_roughs f_t_known f_t_kept f_t_seed f_t_written f_t_formRing f_t_formMany f_t_latest f_t_w a2 v5_2 r_2 hc26) (cwV 2 hts gX11_nearestOf_X11_imageOf rfl rfl rfl (by decide +kernel) ⟨Nat.le_of_ble_eq_true rfl, Nat.le_of_ble_eq_true rfl⟩) [0, 3] [1, 2] [2, 0, 1, 3] rfl rfl rfl rfl (ci := 10) (q0 := 0) rfl rfl rfl rfl hl.1 (Nat.le_of_ble_eq_true rfl) dX11_nearestOf_26 ⟨Nat.zero_le _, Nat.zero_le _⟩ (fun H locs hP hD hS => ?_)
        obtain ⟨r_3, f_t_best_3, f_t_next_3, hc29, hm⟩ := bd3_go hm
        refine my_cVi (As := [.int a1, .int r_2]) (rest := []) (WC := [(h_t, .inr (10, [.ref h_t_w, .int f_t_known, .int f_t_kept, .int f_t_seed, .ref h_t_imageSeed, .ref h_t_bookOf, .ref h_t_bookIs, .int f_t_written, .ref h_t_forms, .int f_t_formRing, .int f_t_formMany, .ref h_t_best, .ref h_t_next, .ref h_t_ways, .ref h_t_round, .ref h_t_roughs, .int f_t_latest])), (h_t_best, .inl (cA, 4096, .inl f_t_best_1)), (h_t_next, .inl (cA, 4096, .inl f_t_next_1)), (h_t_w, .inl (cA, 190, .inl f_t_w))]) (WC' := [(h_t, .inr (10, [.ref h_t_w, .int f_t_known, .int f_t_kept, .int f_t_seed, .ref h_t_imageSeed, .ref h_t_bookOf, .ref h_t_bookIs, .int f_t_written, .ref h_t_forms, .int f_t_formRing, .int f_t_formMany, .ref h_t_best, .ref h_t_next, .ref h_t_ways, .ref h_t_round, .ref h_t_roughs, .int f_t_latest])), (h_t_best, .inl (cA, 4096, .inl f_t_best_3)), (h_t_next, .inl (cA, 4096, .inl f_t_next_3)), (h_t_w, .inl (cA, 190, .inl f_t_w))]) (WR := []) (W' := [(h_t, .inr (10, [.ref h_t_w, .int f_t_known, .int f_t_kept, .int f_t_seed, .ref h_t_imageSeed, .ref h_t_bookOf, .ref h_t_bookIs, .int f_t_written, .ref h_t_forms, .int f_t_formRing, .int f_t_formMany, .ref h_t_best, .ref h_t_next, .ref h_t_ways, .ref h_t_round, .ref h_t_roughs, .int f_t_latest])), (h_t_best, .inl (cA, 4096, .inl f_t_best_3)), (h_t_next, .inl (cA, 4096, .inl f_t_next_3)), (h_t_w, .inl (cA, 190, .inl f_t_w))]) ⟨hx, hb, hml, hown, hts⟩ hK hP hD hS hA (c_Md_wayOf l dC dI cA fu h_t h_t_w h_t_imageSeed h_t_bookOf h_t_bookIs h_t_forms h_t_best h_t_next h_t_ways h_t_round h_t_roughs f_t_known f_t_kept f_t_seed f_t_written f_t_formRing f_t_formMany f_t_latest f_t_best_1 f_t_next_1 f_t_w a1 r_2 r_3 f_t_best_3 f_t_next_3 hc29) (cwV 2 hts gX11_nearestOf_X11_wayOf rfl rfl rfl (by decide +kernel) ⟨Nat.le_of_ble_eq_true rfl, Nat.le_of_ble_eq_true rfl⟩) [0, 1, 2, 3] [] [0, 1, 2, 3] rfl rfl rfl rfl (ci := 10) (q0 := 0) rfl rfl rfl rfl hl.1 (Nat.le_of_ble_eq_true rfl) dX11_nearestOf_29 ⟨Nat.zero_le _, Nat.zero_le _⟩ (fun H locs hP hD hS => ?_)
        refine lv_topi (fun v6_1 ev6_1 => ?_)
        replace hm := lt_go ev6_1 hm
        refine lv_istore (lv' := [(6, .int v6_1), (0, .ref h_t), (1, .int a1), (2, .int a2), (3, .int v3_2), (4, .int v4_2), (5, .int v5_2)]) hx hb dX11_nearestOf_32 hl (by decide) rfl (fun ls hl => ?_)
        refine lv_iload hx hb dX11_nearestOf_34 (lv_at hl 0 rfl) ?_
        refine lv_iload hx hb dX11_nearestOf_36 (lv_at hl 5 rfl) ?_
        obtain ⟨q47_1, hqJ_1, hm⟩ := bd1_go hm
        have J_1 : ∀ (H : Heap) (locs : List Loc), va_P (dC, dI) vwCl [(h_t, .inr (10, [.ref h_t_w, .int f_t_known, .int f_t_kept, .int f_t_seed, .ref h_t_imageSeed, .ref h_t_bookOf, .ref h_t_bookIs, .int f_t_written, .ref h_t_forms, .int f_t_formRing, .int f_t_formMany, .ref h_t_best, .ref h_t_next, .ref h_t_ways, .ref h_t_round, .ref h_t_roughs, .int f_t_latest])), (h_t_best, .inl (cA, 4096, .inl f_t_best_3)), (h_t_next, .inl (cA, 4096, .inl f_t_next_3)), (h_t_w, .inl (cA, 190, .inl f_t_w))] H → va_D A [(h_t, .inr (10, [.ref h_t_w, .int f_t_known, .int f_t_kept, .int f_t_seed, .ref h_t_imageSeed, .ref h_t_bookOf, .ref h_t_bookIs, .int f_t_written, .ref h_t_forms, .int f_t_formRing, .int f_t_formMany, .ref h_t_best, .ref h_t_next, .ref h_t_ways, .ref h_t_round, .ref h_t_roughs, .int f_t_latest])), (h_t_best, .inl (cA, 4096, .inl f_t_best_3)), (h_t_next, .inl (cA, 4096, .inl f_t_next_3)), (h_t_w, .inl (cA, 190, .inl f_t_w))] → va_S A s.heap H locs → ∀ ls : Array Slot, lv_has ls 7 [(0, .ref h_t), (1, .int a1), (2, .int a2), (4, .int v4_2), (5, .int v5_2), (6, .int v6_1)] → W p l e (headSpec wsX11_nearestOf rmX11_nearestOf).room s m (([.ref h_t, .int a1, .int a2] : List Value).toArray) below meth c H locs 0 0 Q (F0 m 47 ls [.int q47_1]) := by
          intro H locs hP hD hS ls hl
          clear hqJ_1
          refine lv_topi (fun v3_4 ev3_4 => ?_)
          replace hm := lt_go ev3_4 hm
          refine lv_istore_n (lv' := [(3, .int v3_4), (0, .ref h_t), (1, .int a1), (2, .int a2), (4, .int v4_2), (5, .int v5_2), (6, .int v6_1)]) hx hb dX11_nearestOf_47 rfl hl (by decide) rfl (fun ls hl => ?_)
          refine lv_iload hx hb dX11_nearestOf_48 (lv_at hl 6 rfl) ?_
          refine lv_iload hx hb dX11_nearestOf_50 (lv_at hl 4 rfl) ?_
          obtain ⟨q62_1, hqJ_2, hm⟩ := bd1_go hm
          have J_2 : ∀ (H : Heap) (locs : List Loc), va_P (dC, dI) vwCl [(h_t, .inr (10, [.ref h_t_w, .int f_t_known, .int f_t_kept, .int f_t_seed, .ref h_t_imageSeed, .ref h_t_bookOf, .ref h_t_bookIs, .int f_t_written, .ref h_t_forms, .int f_t_formRing, .int f_t_formMany, .ref h_t_best, .ref h_t_next, .ref h_t_ways, .ref h_t_round, .ref h_t_roughs, .int f_t_latest])), (h_t_best, .inl (cA, 4096, .inl f_t_best_3)), (h_t_next, .inl (cA, 4096, .inl f_t_next_3)), (h_t_w, .inl (cA, 190, .inl f_t_w))] H → va_D A [(h_t, .inr (10, [.ref h_t_w, .int f_t_known, .int f_t_kept, .int f_t_seed, .ref h_t_imageSeed, .ref h_t_bookOf, .ref h_t_bookIs, .int f_t_written, .ref h_t_forms, .int f_t_formRing, .int f_t_formMany, .ref h_t_best, .ref h_t_next, .ref h_t_ways, .ref h_t_round, .ref h_t_roughs, .int f_t_latest])), (h_t_best, .inl (cA, 4096, .inl f_t_best_3)), (h_t_next, .inl (cA, 4096, .inl f_t_next_3)), (h_t_w, .inl (cA, 190, .inl f_t_w))] → va_S A s.heap H locs → ∀ ls : Array Slot, lv_has ls 7 [(0, .ref h_t), (1, .int a1), (2, .int a2), (3, .int v3_4), (5, .int v5_2)] → W p l e (headSpec wsX11_nearestOf rmX11_nearestOf).room s m (([.ref h_t, .int a1, .int a2] : List Value).toArray) below meth c H locs 0 0 Q (F0 m 62 ls [.int q62_1]) := by
            intro H locs hP hD hS ls hl
            clear hqJ_2
            refine lv_topi (fun v4_3 ev4_3 => ?_)
            replace hm := lt_go ev4_3 hm
            refine lv_istore (lv' := [(4, .int v4_3), (0, .ref h_t), (1, .int a1), (2, .int a2), (3, .int v3_4), (5, .int v5_2)]) hx hb dX11_nearestOf_62 hl (by decide) rfl (fun ls hl => ?_)
            obtain ⟨v5_3, ev5_3⟩ : ∃ z : Int32, z = v5_2 + 1 := ⟨_, rfl⟩
            replace hm := lt_go ev5_3 hm
            refine lv_iinc (v := v5_3) (lv' := [(5, .int v5_3), (4, .int v4_3), (0, .ref h_t), (1, .int a1), (2, .int a2), (3, .int v3_4)]) hx hb dX11_nearestOf_64 hl (k := 5) rfl (by rw [ev5_3]; rfl) (by decide) rfl (fun ls hl => ?_)
            refine lv_goto (tgt := 9) hx hb dX11_nearestOf_67 (by decide) ?_
            exact ih _ _ _ _ _ _ _ _ hm _ _ hP hD hS _ (lv_sub hl [2, 3, 4, 5, 1, 0] rfl) KK
          clear hm
          refine lv_icmp_ge (tgt := 60) hx hb dX11_nearestOf_52 (by decide) (fun c52 => ?_) (fun c52 => ?_)
          · replace hqJ_2 := if_t c52 hqJ_2
            refine lv_iload hx hb dX11_nearestOf_60 (lv_at hl 4 rfl) ?_
            cases hqJ_2
            exact J_2 _ _ hP hD hS _ (lv_sub hl [1, 2, 3, 0, 5] rfl)
          · replace hqJ_2 := if_f c52 hqJ_2
            refine lv_iload hx hb dX11_nearestOf_55 (lv_at hl 6 rfl) ?_
            refine lv_goto (tgt := 62) hx hb dX11_nearestOf_57 (by decide) ?_
            cases hqJ_2
            exact J_2 _ _ hP hD hS _ (lv_sub hl [1, 2, 3, 0, 5] rfl)
        clear hm
        refine lv_icmp_ge (tgt := 46) hx hb dX11_nearestOf_38 (by decide) (fun c38 => ?_) (fun c38 => ?_)
        · replace hqJ_1 := if_t c38 hqJ_1
          refine lv_iload_n hx hb dX11_nearestOf_46 rfl (lv_at hl 4 rfl) ?_
          cases hqJ_1
          exact J_1 _ _ hP hD hS _ (lv_sub hl [1, 2, 3, 5, 6, 0] rfl)
        · replace hqJ_1 := if_f c38 hqJ_1
          refine lv_iload hx hb dX11_nearestOf_41 (lv_at hl 6 rfl) ?_
          refine lv_goto (tgt := 47) hx hb dX11_nearestOf_43 (by decide) ?_
          cases hqJ_1
          exact J_1 _ _ hP hD hS _ (lv_sub hl [1, 2, 3, 5, 6, 0] rfl)
  obtain ⟨v3_5, f_t_best_4, f_t_next_4, hl9, hm⟩ := bd3_go hm
  refine L9 _ _ _ _ _ _ _ _ _ hl9 _ _ hP hD hS _ (lv_sub hl [3, 4, 5, 2, 1, 0] rfl) (fun H locs hP hD hS ls hl => ?_)
  refine lv_iload_n hx hb dX11_nearestOf_70 rfl (lv_at hl 0 rfl) ?_
  cases hm
  exact W_mono hQ (W.iret hx hb hr (fun t ht hW => ⟨⟨_, (), rfl, rfl, by rw [ht]; exact hP, va_K.moved hW.alike hK, hD⟩, hS.F ht⟩) hS.2.2 dX11_nearestOf_71)
abbrev rmX11_nearest : Room := { frames := 6, cells := 0, slots := 0, locals := 140 }
theorem uX11_X11_nearest : ∀ w ∈ wsX110, w ∈ wsX11_nearest := fun _ h => List.mem_cons_of_mem _ (List.mem_append_right _ (h))
set_option maxHeartbeats 40000000 in
set_option maxRecDepth 100000 in
theorem c_Md_nearest (l : Launch) (dC : Nat → ClassId) (dI : Nat → Nat → Nat) (cA : ClassId) (fu : Nat) (h_t h_t_w h_t_imageSeed h_t_bookOf h_t_bookIs h_t_forms h_t_best h_t_next h_t_ways h_t_round h_t_roughs : Nat) (f_t_known : Int32) (f_t_kept : Int32) (f_t_seed : Int32) (f_t_written : Int32) (f_t_formRing : Int32) (f_t_formMany : Int32) (f_t_latest : Int32) (f_t_best : Nat → Int32) (f_t_next : Nat → Int32) (f_t_w : Nat → Int32) (a1 : Int32) (a2 : Int32) (a3 : Int32) (r0 : Int32) (f_t_best_z : Nat → Int32) (f_t_next_z : Nat → Int32) (hm : m_Md_nearest fu f_t_best f_t_next f_t_w a1 a2 a3 = some (r0, f_t_best_z, f_t_next_z)) (sz : Nat) : Met l yX11_nearest wsX11_nearest rmX11_nearest (mPre (dC, dI) cA [.ref h_t, .int a1, .int a2, .int a3] sz [(h_t, .inr (10, [.ref h_t_w, .int f_t_known, .int f_t_kept, .int f_t_seed, .ref h_t_imageSeed, .ref h_t_bookOf, .ref h_t_bookIs, .int f_t_written, .ref h_t_forms, .int f_t_formRing, .int f_t_formMany, .ref h_t_best, .ref h_t_next, .ref h_t_ways, .ref h_t_round, .ref h_t_roughs, .int f_t_latest])), (h_t_best, .inl (cA, 4096, .inl f_t_best)), (h_t_next, .inl (cA, 4096, .inl f_t_next)), (h_t_w, .inl (cA, 190, .inl f_t_w))]) (mPosI (dC, dI) cA r0 (va_A [(h_t, .inr (10, [.ref h_t_w, .int f_t_known, .int f_t_kept, .int f_t_seed, .ref h_t_imageSeed, .ref h_t_bookOf, .ref h_t_bookIs, .int f_t_written, .ref h_t_forms, .int f_t_formRing, .int f_t_formMany, .ref h_t_best, .ref h_t_next, .ref h_t_ways, .ref h_t_round, .ref h_t_roughs, .int f_t_latest])), (h_t_best, .inl (cA, 4096, .inl f_t_best)), (h_t_next, .inl (cA, 4096, .inl f_t_next)), (h_t_w, .inl (cA, 190, .inl f_t_w))] sz) [(h_t, .inr (10, [.ref h_t_w, .int f_t_known, .int f_t_kept, .int f_t_seed, .ref h_t_imageSeed, .ref h_t_bookOf, .ref h_t_bookIs, .int f_t_written, .ref h_t_forms, .int f_t_formRing, .int f_t_formMany, .ref h_t_best, .ref h_t_next, .ref h_t_ways, .ref h_t_round, .ref h_t_roughs, .int f_t_latest])), (h_t_best, .inl (cA, 4096, .inl f_t_best_z)), (h_t_next, .inl (cA, 4096, .inl f_t_next_z)), (h_t_w, .inl (cA, 190, .inl f_t_w))]) 0 0 (va_A [(h_t, .inr (10, [.ref h_t_w, .int f_t_known, .int f_t_kept, .int f_t_seed, .ref h_t_imageSeed, .ref h_t_bookOf, .ref h_t_bookIs, .int f_t_written, .ref h_t_forms, .int f_t_formRing, .int f_t_formMany, .ref h_t_best, .ref h_t_next, .ref h_t_ways, .ref h_t_round, .ref h_t_roughs, .int f_t_latest])), (h_t_best, .inl (cA, 4096, .inl f_t_best)), (h_t_next, .inl (cA, 4096, .inl f_t_next)), (h_t_w, .inl (cA, 190, .inl f_t_w))] sz) := by
  refine Met.ofW (cc := cX11_nearest) (maxL := 5) (ret := (some .int)) (by decide) rfl ?_
  intro p e s m args below meth c s₁ B hml hv
  obtain ⟨rfl, hsz, hP, hK, hD0⟩ := hv
  refine W_gen (fun Q hQ => ?_)
  have hx := B.exec
  have hb := B.bytes
  have hr := B.returns
  have hts := atoms_spec (ws := wsX11_nearest) B.pre
  have hown : s.vm.findClass RX11 = some m.cls := findClass_of_methodNamed B.named
  have hlocks := B.notSynchronized
  subst hsz
  have hD := hD0.self (sz := s.heap.size)
  clear hD0
  generalize hAe : va_A [(h_t, .inr (10, [.ref h_t_w, .int f_t_known, .int f_t_kept, .int f_t_seed, .ref h_t_imageSeed, .ref h_t_bookOf, .ref h_t_bookIs, .int f_t_written, .ref h_t_forms, .int f_t_formRing, .int f_t_formMany, .ref h_t_best, .ref h_t_next, .ref h_t_ways, .ref h_t_round, .ref h_t_roughs, .int f_t_latest])), (h_t_best, .inl (cA, 4096, .inl f_t_best)), (h_t_next, .inl (cA, 4096, .inl f_t_next)), (h_t_w, .inl (cA, 190, .inl f_t_w))] s.heap.size = A at hD hQ
  have hA : ∀ q : Nat, s.heap.size ≤ q → A q := fun q h => by rw [← hAe]; exact Or.inr h
  clear hAe
  have hS : va_S A s.heap s.heap [] := va_S.rf
  have hl := lv_entry ([.ref h_t, .int a1, .int a2, .int a3]) (n := 5) (Nat.le_of_ble_eq_true rfl)
  rw [lg_entry_eq]
  generalize (lg_sl ([.ref h_t, .int a1, .int a2, .int a3]) ++ List.replicate (5 - (lg_sl ([.ref h_t, .int a1, .int a2, .int a3])).length) Slot.unset).toArray = ls at hl ⊢
  have hl : lv_has ls 5 [(0, .ref h_t), (1, .int a1), (2, .int a2), (3, .int a3)] := hl
  have k1 := hts (.constant RX11 144 (-1000000001)) (List.mem_of_getElem? (i := 1) rfl)
  have k4 := hts (.fieldLink RX11 7 "ToneSetsModel" "w" "[I") (List.mem_of_getElem? (i := 4) rfl)
  have k3 := hts (.constant RX11 160 (-1000000003)) (List.mem_of_getElem? (i := 3) rfl)
  have k2 := hts (.constant RX11 143 (-1000000002)) (List.mem_of_getElem? (i := 2) rfl)
  have uX11 := uX11_X11_nearest
  unfold m_Md_nearest at hm
  refine lv_aload_n hx hb dX11_nearest_0 rfl (lv_at hl 0 rfl) ?_
  refine lv_iload_n hx hb dX11_nearest_1 rfl (lv_at hl 1 rfl) ?_
  obtain ⟨r_1, hc2, hm⟩ := bd1_go hm
  refine my_cVi (As := [.int a1]) (rest := []) (WC := [(h_t, .inr (10, [.ref h_t_w, .int f_t_known, .int f_t_kept, .int f_t_seed, .ref h_t_imageSeed, .ref h_t_bookOf, .ref h_t_bookIs, .int f_t_written, .ref h_t_forms, .int f_t_formRing, .int f_t_formMany, .ref h_t_best, .ref h_t_next, .ref h_t_ways, .ref h_t_round, .ref h_t_roughs, .int f_t_latest])), (h_t_w, .inl (cA, 190, .inl f_t_w))]) (WC' := [(h_t, .inr (10, [.ref h_t_w, .int f_t_known, .int f_t_kept, .int f_t_seed, .ref h_t_imageSeed, .ref h_t_bookOf, .ref h_t_bookIs, .int f_t_written, .ref h_t_forms, .int f_t_formRing, .int f_t_formMany, .ref h_t_best, .ref h_t_next, .ref h_t_ways, .ref h_t_round, .ref h_t_roughs, .int f_t_latest])), (h_t_w, .inl (cA, 190, .inl f_t_w))]) (WR := [(h_t_best, .inl (cA, 4096, .inl f_t_best)), (h_t_next, .inl (cA, 4096, .inl f_t_next))]) (W' := [(h_t, .inr (10, [.ref h_t_w, .int f_t_known, .int f_t_kept, .int f_t_seed, .ref h_t_imageSeed, .ref h_t_bookOf, .ref h_t_bookIs, .int f_t_written, .ref h_t_forms, .int f_t_formRing, .int f_t_formMany, .ref h_t_best, .ref h_t_next, .ref h_t_ways, .ref h_t_round, .ref h_t_roughs, .int f_t_latest])), (h_t_best, .inl (cA, 4096, .inl f_t_best)), (h_t_next, .inl (cA, 4096, .inl f_t_next)), (h_t_w, .inl (cA, 190, .inl f_t_w))]) ⟨hx, hb, hml, hown, hts⟩ hK hP hD hS hA (c_Md_isPlace l dC dI cA h_t h_t_w h_t_imageSeed h_t_bookOf h_t_bookIs h_t_forms h_t_best h_t_next h_t_ways h_t_round h_t_roughs f_t_known f_t_kept f_t_seed f_t_written f_t_formRing f_t_formMany f_t_latest f_t_w a1 r_1 hc2) (cwV 1 hts gX11_nearest_X11_isPlace rfl rfl rfl (by decide +kernel) ⟨Nat.le_of_ble_eq_true rfl, Nat.le_of_ble_eq_true rfl⟩) [0, 3] [1, 2] [2, 0, 1, 3] rfl rfl rfl rfl (ci := 10) (q0 := 0) rfl rfl rfl rfl hl.1 (Nat.le_of_ble_eq_true rfl) dX11_nearest_2 ⟨Nat.zero_le _, Nat.zero_le _⟩ (fun H locs hP hD hS => ?_)
  refine lv_if_eq (tgt := 16) hx hb dX11_nearest_5 (by decide) (fun c5 => ?_) (fun c5 => ?_)
  · replace hm := if_t c5 hm
    refine lv_ldc (v := (-1000000001)) hx hb hown k1 dX11_nearest_16 ?_
    cases hm
    exact W_mono hQ (W.iret hx hb hr (fun t ht hW => ⟨⟨_, (), rfl, rfl, by rw [ht]; exact hP, va_K.moved hW.alike hK, hD⟩, hS.F ht⟩) hS.2.2 dX11_nearest_18)
  · replace hm := if_f c5 hm
    refine lv_aload_n hx hb dX11_nearest_8 rfl (lv_at hl 0 rfl) ?_
    refine lv_iload_n hx hb dX11_nearest_9 rfl (lv_at hl 2 rfl) ?_
    obtain ⟨r_2, hc10, hm⟩ := bd1_go hm
    refine my_cVi (As := [.int a2]) (rest := []) (WC := [(h_t, .inr (10, [.ref h_t_w, .int f_t_known, .int f_t_kept, .int f_t_seed, .ref h_t_imageSeed, .ref h_t_bookOf, .ref h_t_bookIs, .int f_t_written, .ref h_t_forms, .int f_t_formRing, .int f_t_formMany, .ref h_t_best, .ref h_t_next, .ref h_t_ways, .ref h_t_round, .ref h_t_roughs, .int f_t_latest])), (h_t_w, .inl (cA, 190, .inl f_t_w))]) (WC' := [(h_t, .inr (10, [.ref h_t_w, .int f_t_known, .int f_t_kept, .int f_t_seed, .ref h_t_imageSeed, .ref h_t_bookOf, .ref h_t_bookIs, .int f_t_written, .ref h_t_forms, .int f_t_formRing, .int f_t_formMany, .ref h_t_best, .ref h_t_next, .ref h_t_ways, .ref h_t_round, .ref h_t_roughs, .int f_t_latest])), (h_t_w, .inl (cA, 190, .inl f_t_w))]) (WR := [(h_t_best, .inl (cA, 4096, .inl f_t_best)), (h_t_next, .inl (cA, 4096, .inl f_t_next))]) (W' := [(h_t, .inr (10, [.ref h_t_w, .int f_t_known, .int f_t_kept, .int f_t_seed, .ref h_t_imageSeed, .ref h_t_bookOf, .ref h_t_bookIs, .int f_t_written, .ref h_t_forms, .int f_t_formRing, .int f_t_formMany, .ref h_t_best, .ref h_t_next, .ref h_t_ways, .ref h_t_round, .ref h_t_roughs, .int f_t_latest])), (h_t_best, .inl (cA, 4096, .inl f_t_best)), (h_t_next, .inl (cA, 4096, .inl f_t_next)), (h_t_w, .inl (cA, 190, .inl f_t_w))]) ⟨hx, hb, hml, hown, hts⟩ hK hP hD hS hA (c_Md_isPlace l dC dI cA h_t h_t_w h_t_imageSeed h_t_bookOf h_t_bookIs h_t_forms h_t_best h_t_next h_t_ways h_t_round h_t_roughs f_t_known f_t_kept f_t_seed f_t_written f_t_formRing f_t_formMany f_t_latest f_t_w a2 r_2 hc10) (cwV 1 hts gX11_nearest_X11_isPlace rfl rfl rfl (by decide +kernel) ⟨Nat.le_of_ble_eq_true rfl, Nat.le_of_ble_eq_true rfl⟩) [0, 3] [1, 2] [2, 0, 1, 3] rfl rfl rfl rfl (ci := 10) (q0 := 0) rfl rfl rfl rfl hl.1 (Nat.le_of_ble_eq_true rfl) dX11_nearest_10 ⟨Nat.zero_le _, Nat.zero_le _⟩ (fun H locs hP hD hS => ?_)
    refine lv_if_ne (tgt := 19) hx hb dX11_nearest_13 (by decide) (fun c13 => ?_) (fun c13 => ?_)
    · replace hm := if_f c13 hm
      refine lv_iload_n hx hb dX11_nearest_19 rfl (lv_at hl 3 rfl) ?_
      refine lv_i2l (v := Int32.toInt64 a3) hx hb dX11_nearest_20 rfl ?_
      refine lv_lconst (v := 0) hx hb dX11_nearest_21 (by decide) ?_
      refine lv_lconst (v := 1) hx hb dX11_nearest_22 (by decide) ?_
      obtain ⟨r_3, hc23, hm⟩ := bd1_go hm
      refine my_cSi (As := [.long (Int32.toInt64 a3), .long 0, .long 1]) (rest := []) (WC := []) (WC' := []) (WR := [(h_t, .inr (10, [.ref h_t_w, .int f_t_known, .int f_t_kept, .int f_t_seed, .ref h_t_imageSeed, .ref h_t_bookOf, .ref h_t_bookIs, .int f_t_written, .ref h_t_forms, .int f_t_formRing, .int f_t_formMany, .ref h_t_best, .ref h_t_next, .ref h_t_ways, .ref h_t_round, .ref h_t_roughs, .int f_t_latest])), (h_t_best, .inl (cA, 4096, .inl f_t_best)), (h_t_next, .inl (cA, 4096, .inl f_t_next)), (h_t_w, .inl (cA, 190, .inl f_t_w))]) (W' := [(h_t, .inr (10, [.ref h_t_w, .int f_t_known, .int f_t_kept, .int f_t_seed, .ref h_t_imageSeed, .ref h_t_bookOf, .ref h_t_bookIs, .int f_t_written, .ref h_t_forms, .int f_t_formRing, .int f_t_formMany, .ref h_t_best, .ref h_t_next, .ref h_t_ways, .ref h_t_round, .ref h_t_roughs, .int f_t_latest])), (h_t_best, .inl (cA, 4096, .inl f_t_best)), (h_t_next, .inl (cA, 4096, .inl f_t_next)), (h_t_w, .inl (cA, 190, .inl f_t_w))]) ⟨hx, hb, hml, hown, hts⟩ hK hP hD hS hA (c_Md_in l dC dI cA (Int32.toInt64 a3) 0 1 r_3 hc23) (va_cwS 3 hts gX11_nearest_X11_in rfl rfl rfl (by decide +kernel) ⟨Nat.le_of_ble_eq_true rfl, Nat.le_of_ble_eq_true rfl⟩) [] [0, 1, 2, 3] [0, 1, 2, 3] rfl rfl rfl rfl rfl rfl hl.1 (Nat.le_of_ble_eq_true rfl) dX11_nearest_23 ⟨Nat.zero_le _, Nat.zero_le _⟩ (fun H locs hP hD hS => ?_)
      refine lv_if_ne (tgt := 32) hx hb dX11_nearest_26 (by decide) (fun c26 => ?_) (fun c26 => ?_)
      · replace hm := if_f c26 hm
        refine lv_aload_n hx hb dX11_nearest_32 rfl (lv_at hl 0 rfl) ?_
        refine lv_iload_n hx hb dX11_nearest_33 rfl (lv_at hl 1 rfl) ?_
        refine lv_iload_n hx hb dX11_nearest_34 rfl (lv_at hl 2 rfl) ?_
        obtain ⟨r_4, hc35, hm⟩ := bd1_go hm
        refine my_cVi (As := [.int a1, .int a2]) (rest := []) (WC := [(h_t, .inr (10, [.ref h_t_w, .int f_t_known, .int f_t_kept, .int f_t_seed, .ref h_t_imageSeed, .ref h_t_bookOf, .ref h_t_bookIs, .int f_t_written, .ref h_t_forms, .int f_t_formRing, .int f_t_formMany, .ref h_t_best, .ref h_t_next, .ref h_t_ways, .ref h_t_round, .ref h_t_roughs, .int f_t_latest])), (h_t_w, .inl (cA, 190, .inl f_t_w))]) (WC' := [(h_t, .inr (10, [.ref h_t_w, .int f_t_known, .int f_t_kept, .int f_t_seed, .ref h_t_imageSeed, .ref h_t_bookOf, .ref h_t_bookIs, .int f_t_written, .ref h_t_forms, .int f_t_formRing, .int f_t_formMany, .ref h_t_best, .ref h_t_next, .ref h_t_ways, .ref h_t_round, .ref h_t_roughs, .int f_t_latest])), (h_t_w, .inl (cA, 190, .inl f_t_w))]) (WR := [(h_t_best, .inl (cA, 4096, .inl f_t_best)), (h_t_next, .inl (cA, 4096, .inl f_t_next))]) (W' := [(h_t, .inr (10, [.ref h_t_w, .int f_t_known, .int f_t_kept, .int f_t_seed, .ref h_t_imageSeed, .ref h_t_bookOf, .ref h_t_bookIs, .int f_t_written, .ref h_t_forms, .int f_t_formRing, .int f_t_formMany, .ref h_t_best, .ref h_t_next, .ref h_t_ways, .ref h_t_round, .ref h_t_roughs, .int f_t_latest])), (h_t_best, .inl (cA, 4096, .inl f_t_best)), (h_t_next, .inl (cA, 4096, .inl f_t_next)), (h_t_w, .inl (cA, 190, .inl f_t_w))]) ⟨hx, hb, hml, hown, hts⟩ hK hP hD hS hA (c_Md_areWays l dC dI cA h_t h_t_w h_t_imageSeed h_t_bookOf h_t_bookIs h_t_forms h_t_best h_t_next h_t_ways h_t_round h_t_roughs f_t_known f_t_kept f_t_seed f_t_written f_t_formRing f_t_formMany f_t_latest f_t_w a1 a2 r_4 hc35) (cwV 2 hts gX11_nearest_X11_areWays rfl rfl rfl (by decide +kernel) ⟨Nat.le_of_ble_eq_true rfl, Nat.le_of_ble_eq_true rfl⟩) [0, 3] [1, 2] [2, 0, 1, 3] rfl rfl rfl rfl (ci := 10) (q0 := 0) rfl rfl rfl rfl hl.1 (Nat.le_of_ble_eq_true rfl) dX11_nearest_35 ⟨Nat.zero_le _, Nat.zero_le _⟩ (fun H locs hP hD hS => ?_)
        refine lv_if_ne (tgt := 44) hx hb dX11_nearest_38 (by decide) (fun c38 => ?_) (fun c38 => ?_)
        · replace hm := if_f c38 hm
          refine lv_aload_n hx hb dX11_nearest_44 rfl (lv_at hl 0 rfl) ?_
          refine lv_aload_n hx hb dX11_nearest_45 rfl (lv_at hl 0 rfl) ?_
          refine va_get (D := (dC, dI)) (ci := 10) (v := .ref h_t_w) (C := RX11) (T := TX11) (N := 17) hx hb hts uX11 hown hK hP 0 rfl rfl 0 (by decide) k4 (fun _ h9 => h9) rfl dX11_nearest_46 ?_
          refine lv_iconst (v := 2) hx hb dX11_nearest_49 (by decide) ?_
          refine lv_iload_n hx hb dX11_nearest_50 rfl (lv_at hl 1 rfl) ?_
          refine lv_iadd hx hb dX11_nearest_51 ?_
          obtain ⟨b52, hm⟩ := ck_go hm
          refine va_iald hx hb hK hP 3 0 rfl rfl b52 dX11_nearest_52 ?_
          refine lv_aload_n hx hb dX11_nearest_53 rfl (lv_at hl 0 rfl) ?_
          refine va_get (D := (dC, dI)) (ci := 10) (v := .ref h_t_w) (C := RX11) (T := TX11) (N := 17) hx hb hts uX11 hown hK hP 0 rfl rfl 0 (by decide) k4 (fun _ h9 => h9) rfl dX11_nearest_54 ?_
          refine lv_iconst (v := 2) hx hb dX11_nearest_57 (by decide) ?_
          refine lv_iload_n hx hb dX11_nearest_58 rfl (lv_at hl 2 rfl) ?_
          refine lv_iadd hx hb dX11_nearest_59 ?_
          obtain ⟨b60, hm⟩ := ck_go hm
          refine va_iald hx hb hK hP 3 0 rfl rfl b60 dX11_nearest_60 ?_
          obtain ⟨r_5, f_t_best_1, f_t_next_1, hc61, hm⟩ := bd3_go hm
          refine my_cVi (As := [.int (f_t_w (2 + a1).toNatClampNeg), .int (f_t_w (2 + a2).toNatClampNeg)]) (rest := []) (WC := [(h_t, .inr (10, [.ref h_t_w, .int f_t_known, .int f_t_kept, .int f_t_seed, .ref h_t_imageSeed, .ref h_t_bookOf, .ref h_t_bookIs, .int f_t_written, .ref h_t_forms, .int f_t_formRing, .int f_t_formMany, .ref h_t_best, .ref h_t_next, .ref h_t_ways, .ref h_t_round, .ref h_t_roughs, .int f_t_latest])), (h_t_best, .inl (cA, 4096, .inl f_t_best)), (h_t_next, .inl (cA, 4096, .inl f_t_next)), (h_t_w, .inl (cA, 190, .inl f_t_w))]) (WC' := [(h_t, .inr (10, [.ref h_t_w, .int f_t_known, .int f_t_kept, .int f_t_seed, .ref h_t_imageSeed, .ref h_t_bookOf, .ref h_t_bookIs, .int f_t_written, .ref h_t_forms, .int f_t_formRing, .int f_t_formMany, .ref h_t_best, .ref h_t_next, .ref h_t_ways, .ref h_t_round, .ref h_t_roughs, .int f_t_latest])), (h_t_best, .inl (cA, 4096, .inl f_t_best_1)), (h_t_next, .inl (cA, 4096, .inl f_t_next_1)), (h_t_w, .inl (cA, 190, .inl f_t_w))]) (WR := []) (W' := [(h_t, .inr (10, [.ref h_t_w, .int f_t_known, .int f_t_kept, .int f_t_seed, .ref h_t_imageSeed, .ref h_t_bookOf, .ref h_t_bookIs, .int f_t_written, .ref h_t_forms, .int f_t_formRing, .int f_t_formMany, .ref h_t_best, .ref h_t_next, .ref h_t_ways, .ref h_t_round, .ref h_t_roughs, .int f_t_latest])), (h_t_best, .inl (cA, 4096, .inl f_t_best_1)), (h_t_next, .inl (cA, 4096, .inl f_t_next_1)), (h_t_w, .inl (cA, 190, .inl f_t_w))]) ⟨hx, hb, hml, hown, hts⟩ hK hP hD hS hA (c_Md_nearestOf l dC dI cA fu h_t h_t_w h_t_imageSeed h_t_bookOf h_t_bookIs h_t_forms h_t_best h_t_next h_t_ways h_t_round h_t_roughs f_t_known f_t_kept f_t_seed f_t_written f_t_formRing f_t_formMany f_t_latest f_t_best f_t_next f_t_w (f_t_w (2 + a1).toNatClampNeg) (f_t_w (2 + a2).toNatClampNeg) r_5 f_t_best_1 f_t_next_1 hc61) (cwV 2 hts gX11_nearest_X11_nearestOf rfl rfl rfl (by decide +kernel) ⟨Nat.le_of_ble_eq_true rfl, Nat.le_of_ble_eq_true rfl⟩) [0, 1, 2, 3] [] [0, 1, 2, 3] rfl rfl rfl rfl (ci := 10) (q0 := 0) rfl rfl rfl rfl hl.1 (Nat.le_of_ble_eq_true rfl) dX11_nearest_61 ⟨Nat.zero_le _, Nat.zero_le _⟩ (fun H locs hP hD hS => ?_)
          refine lv_topi (fun v4_1 ev4_1 => ?_)
          replace hm := lt_go ev4_1 hm
          refine lv_istore (lv' := [(4, .int v4_1), (0, .ref h_t), (1, .int a1), (2, .int a2), (3, .int a3)]) hx hb dX11_nearest_64 hl (by decide) rfl (fun ls hl => ?_)
          refine lv_iload_n hx hb dX11_nearest_66 rfl (lv_at hl 4 rfl) ?_
          refine lv_if_ne (tgt := 75) hx hb dX11_nearest_67 (by decide) (fun c67 => ?_) (fun c67 => ?_)
          · replace hm := if_f c67 hm
            refine lv_aload_n hx hb dX11_nearest_75 rfl (lv_at hl 1 rfl) ?_
            refine lv_aload_n hx hb dX11_nearest_76 rfl (lv_at hl 1 rfl) ?_
            refine va_get (D := (dC, dI)) (ci := 10) (v := .ref h_t_w) (C := RX11) (T := TX11) (N := 17) hx hb hts uX11 hown hK hP 0 rfl rfl 0 (by decide) k4 (fun _ h9 => h9) rfl dX11_nearest_77 ?_
            refine lv_iconst (v := 2) hx hb dX11_nearest_80 (by decide) ?_
            refine lv_iload_n hx hb dX11_nearest_81 rfl (lv_at hl 2 rfl) ?_
            refine lv_iadd hx hb dX11_nearest_82 ?_
            obtain ⟨b83, hm⟩ := ck_go hm
            refine va_iald hx hb hK hP 3 0 rfl rfl b83 dX11_nearest_83 ?_
            refine lv_aload_n hx hb dX11_nearest_84 rfl (lv_at hl 1 rfl) ?_
            refine lv_aload_n hx hb dX11_nearest_85 rfl (lv_at hl 1 rfl) ?_
            refine va_get (D := (dC, dI)) (ci := 10) (v := .ref h_t_w) (C := RX11) (T := TX11) (N := 17) hx hb hts uX11 hown hK hP 0 rfl rfl 0 (by decide) k4 (fun _ h9 => h9) rfl dX11_nearest_86 ?_
            refine lv_iconst (v := 2) hx hb dX11_nearest_89 (by decide) ?_
            refine lv_iload_n hx hb dX11_nearest_90 rfl (lv_at hl 3 rfl) ?_
            refine lv_iadd hx hb dX11_nearest_91 ?_
            obtain ⟨b92, hm⟩ := ck_go hm
            refine va_iald hx hb hK hP 3 0 rfl rfl b92 dX11_nearest_92 ?_
            refine lv_iload hx hb dX11_nearest_93 (lv_at hl 0 rfl) ?_
            obtain ⟨r_6, hc95, hm⟩ := bd1_go hm
            refine my_cVi (As := [.int (f_t_w (2 + a2).toNatClampNeg), .int v4_1]) (rest := [.int (f_t_w (2 + a1).toNatClampNeg), .ref h_t]) (WC := [(h_t, .inr (10, [.ref h_t_w, .int f_t_known, .int f_t_kept, .int f_t_seed, .ref h_t_imageSeed, .ref h_t_bookOf, .ref h_t_bookIs, .int f_t_written, .ref h_t_forms, .int f_t_formRing, .int f_t_formMany, .ref h_t_best, .ref h_t_next, .ref h_t_ways, .ref h_t_round, .ref h_t_roughs, .int f_t_latest])), (h_t_w, .inl (cA, 190, .inl f_t_w))]) (WC' := [(h_t, .inr (10, [.ref h_t_w, .int f_t_known, .int f_t_kept, .int f_t_seed, .ref h_t_imageSeed, .ref h_t_bookOf, .ref h_t_bookIs, .int f_t_written, .ref h_t_forms, .int f_t_formRing, .int f_t_formMany, .ref h_t_best, .ref h_t_next, .ref h_t_ways, .ref h_t_round, .ref h_t_roughs, .int f_t_latest])), (h_t_w, .inl (cA, 190, .inl f_t_w))]) (WR := [(h_t_best, .inl (cA, 4096, .inl f_t_best_1)), (h_t_next, .inl (cA, 4096, .inl f_t_next_1))]) (W' := [(h_t, .inr (10, [.ref h_t_w, .int f_t_known, .int f_t_kept, .int f_t_seed, .ref h_t_imageSeed, .ref h_t_bookOf, .ref h_t_bookIs, .int f_t_written, .ref h_t_forms, .int f_t_formRing, .int f_t_formMany, .ref h_t_best, .ref h_t_next, .ref h_t_ways, .ref h_t_round, .ref h_t_roughs, .int f_t_latest])), (h_t_best, .inl (cA, 4096, .inl f_t_best_1)), (h_t_next, .inl (cA, 4096, .inl f_t_next_1)), (h_t_w, .inl (cA, 190, .inl f_t_w))]) ⟨hx, hb, hml, hown, hts⟩ hK hP hD hS hA (c_Md_imageOf l dC dI cA fu h_t h_t_w h_t_imageSeed h_t_bookOf h_t_bookIs h_t_forms h_t_best h_t_next h_t_ways h_t_round h_t_roughs f_t_known f_t_kept f_t_seed f_t_written f_t_formRing f_t_formMany f_t_latest f_t_w (f_t_w (2 + a2).toNatClampNeg) v4_1 r_6 hc95) (cwV 2 hts gX11_nearest_X11_imageOf rfl rfl rfl (by decide +kernel) ⟨Nat.le_of_ble_eq_true rfl, Nat.le_of_ble_eq_true rfl⟩) [0, 3] [1, 2] [2, 0, 1, 3] rfl rfl rfl rfl (ci := 10) (q0 := 0) rfl rfl rfl rfl hl.1 (Nat.le_of_ble_eq_true rfl) dX11_nearest_95 ⟨Nat.zero_le _, Nat.zero_le _⟩ (fun H locs hP hD hS => ?_)
            obtain ⟨r_7, f_t_best_2, f_t_next_2, hc98, hm⟩ := bd3_go hm
            refine my_cVi (As := [.int (f_t_w (2 + a1).toNatClampNeg), .int r_6]) (rest := []) (WC := [(h_t, .inr (10, [.ref h_t_w, .int f_t_known, .int f_t_kept, .int f_t_seed, .ref h_t_imageSeed, .ref h_t_bookOf, .ref h_t_bookIs, .int f_t_written, .ref h_t_forms, .int f_t_formRing, .int f_t_formMany, .ref h_t_best, .ref h_t_next, .ref h_t_ways, .ref h_t_round, .ref h_t_roughs, .int f_t_latest])), (h_t_best, .inl (cA, 4096, .inl f_t_best_1)), (h_t_next, .inl (cA, 4096, .inl f_t_next_1)), (h_t_w, .inl (cA, 190, .inl f_t_w))]) (WC' := [(h_t, .inr (10, [.ref h_t_w, .int f_t_known, .int f_t_kept, .int f_t_seed, .ref h_t_imageSeed, .ref h_t_bookOf, .ref h_t_bookIs, .int f_t_written, .ref h_t_forms, .int f_t_formRing, .int f_t_formMany, .ref h_t_best, .ref h_t_next, .ref h_t_ways, .ref h_t_round, .ref h_t_roughs, .int f_t_latest])), (h_t_best, .inl (cA, 4096, .inl f_t_best_2)), (h_t_next, .inl (cA, 4096, .inl f_t_next_2)), (h_t_w, .inl (cA, 190, .inl f_t_w))]) (WR := []) (W' := [(h_t, .inr (10, [.ref h_t_w, .int f_t_known, .int f_t_kept, .int f_t_seed, .ref h_t_imageSeed, .ref h_t_bookOf, .ref h_t_bookIs, .int f_t_written, .ref h_t_forms, .int f_t_formRing, .int f_t_formMany, .ref h_t_best, .ref h_t_next, .ref h_t_ways, .ref h_t_round, .ref h_t_roughs, .int f_t_latest])), (h_t_best, .inl (cA, 4096, .inl f_t_best_2)), (h_t_next, .inl (cA, 4096, .inl f_t_next_2)), (h_t_w, .inl (cA, 190, .inl f_t_w))]) ⟨hx, hb, hml, hown, hts⟩ hK hP hD hS hA (c_Md_wayOf l dC dI cA fu h_t h_t_w h_t_imageSeed h_t_bookOf h_t_bookIs h_t_forms h_t_best h_t_next h_t_ways h_t_round h_t_roughs f_t_known f_t_kept f_t_seed f_t_written f_t_formRing f_t_formMany f_t_latest f_t_best_1 f_t_next_1 f_t_w (f_t_w (2 + a1).toNatClampNeg) r_6 r_7 f_t_best_2 f_t_next_2 hc98) (cwV 2 hts gX11_nearest_X11_wayOf rfl rfl rfl (by decide +kernel) ⟨Nat.le_of_ble_eq_true rfl, Nat.le_of_ble_eq_true rfl⟩) [0, 1, 2, 3] [] [0, 1, 2, 3] rfl rfl rfl rfl (ci := 10) (q0 := 0) rfl rfl rfl rfl hl.1 (Nat.le_of_ble_eq_true rfl) dX11_nearest_98 ⟨Nat.zero_le _, Nat.zero_le _⟩ (fun H locs hP hD hS => ?_)
            cases hm
            exact W_mono hQ (W.iret hx hb hr (fun t ht hW => ⟨⟨_, (), rfl, rfl, by rw [ht]; exact hP, va_K.moved hW.alike hK, hD⟩, hS.F ht⟩) hS.2.2 dX11_nearest_101)
          · replace hm := if_t c67 hm
            refine lv_iload hx hb dX11_nearest_70 (lv_at hl 0 rfl) ?_
            refine lv_goto (tgt := 101) hx hb dX11_nearest_72 (by decide) ?_
            cases hm
            exact W_mono hQ (W.iret hx hb hr (fun t ht hW => ⟨⟨_, (), rfl, rfl, by rw [ht]; exact hP, va_K.moved hW.alike hK, hD⟩, hS.F ht⟩) hS.2.2 dX11_nearest_101)
        · replace hm := if_t c38 hm
          refine lv_ldc (v := (-1000000003)) hx hb hown k3 dX11_nearest_41 ?_
          cases hm
          exact W_mono hQ (W.iret hx hb hr (fun t ht hW => ⟨⟨_, (), rfl, rfl, by rw [ht]; exact hP, va_K.moved hW.alike hK, hD⟩, hS.F ht⟩) hS.2.2 dX11_nearest_43)
      · replace hm := if_t c26 hm
        refine lv_ldc (v := (-1000000002)) hx hb hown k2 dX11_nearest_29 ?_
        cases hm
        exact W_mono hQ (W.iret hx hb hr (fun t ht hW => ⟨⟨_, (), rfl, rfl, by rw [ht]; exact hP, va_K.moved hW.alike hK, hD⟩, hS.F ht⟩) hS.2.2 dX11_nearest_31)
    · replace hm := if_t c13 hm
      refine lv_ldc (v := (-1000000001)) hx hb hown k1 dX11_nearest_16 ?_
      cases hm
      exact W_mono hQ (W.iret hx hb hr (fun t ht hW => ⟨⟨_, (), rfl, rfl, by rw [ht]; exact hP, va_K.moved hW.alike hK, hD⟩, hS.F ht⟩) hS.2.2 dX11_nearest_18)
abbrev rmX11_put : Room := { frames := 3, cells := 0, slots := 0, locals := 65 }
theorem uX11_X11_put : ∀ w ∈ wsX110, w ∈ wsX11_put := fun _ h => List.mem_cons_of_mem _ (List.mem_append_right _ (h))
set_option maxHeartbeats 40000000 in
set_option maxRecDepth 100000 in
theorem c_Md_put (l : Launch) (dC : Nat → ClassId) (dI : Nat → Nat → Nat) (cA : ClassId) (fu : Nat) (h_t h_t_w h_t_imageSeed h_t_bookOf h_t_bookIs h_t_forms h_t_best h_t_next h_t_ways h_t_round h_t_roughs : Nat) (f_t_known : Int32) (f_t_kept : Int32) (f_t_seed : Int32) (f_t_written : Int32) (f_t_formRing : Int32) (f_t_formMany : Int32) (f_t_latest : Int32) (f_t_w : Nat → Int32) (a1 : Int32) (r0 : Int32) (f_t_known_z : Int32) (f_t_w_z : Nat → Int32) (hm : m_Md_put fu f_t_known f_t_w a1 = some (r0, f_t_known_z, f_t_w_z)) (sz : Nat) : Met l yX11_put wsX11_put rmX11_put (mPre (dC, dI) cA [.ref h_t, .int a1] sz [(h_t, .inr (10, [.ref h_t_w, .int f_t_known, .int f_t_kept, .int f_t_seed, .ref h_t_imageSeed, .ref h_t_bookOf, .ref h_t_bookIs, .int f_t_written, .ref h_t_forms, .int f_t_formRing, .int f_t_formMany, .ref h_t_best, .ref h_t_next, .ref h_t_ways, .ref h_t_round, .ref h_t_roughs, .int f_t_latest])), (h_t_w, .inl (cA, 190, .inl f_t_w))]) (mPosI (dC, dI) cA r0 (va_A [(h_t, .inr (10, [.ref h_t_w, .int f_t_known, .int f_t_kept, .int f_t_seed, .ref h_t_imageSeed, .ref h_t_bookOf, .ref h_t_bookIs, .int f_t_written, .ref h_t_forms, .int f_t_formRing, .int f_t_formMany, .ref h_t_best, .ref h_t_next, .ref h_t_ways, .ref h_t_round, .ref h_t_roughs, .int f_t_latest])), (h_t_w, .inl (cA, 190, .inl f_t_w))] sz) [(h_t, .inr (10, [.ref h_t_w, .int f_t_known_z, .int f_t_kept, .int f_t_seed, .ref h_t_imageSeed, .ref h_t_bookOf, .ref h_t_bookIs, .int f_t_written, .ref h_t_forms, .int f_t_formRing, .int f_t_formMany, .ref h_t_best, .ref h_t_next, .ref h_t_ways, .ref h_t_round, .ref h_t_roughs, .int f_t_latest])), (h_t_w, .inl (cA, 190, .inl f_t_w_z))]) 0 0 (va_A [(h_t, .inr (10, [.ref h_t_w, .int f_t_known, .int f_t_kept, .int f_t_seed, .ref h_t_imageSeed, .ref h_t_bookOf, .ref h_t_bookIs, .int f_t_written, .ref h_t_forms, .int f_t_formRing, .int f_t_formMany, .ref h_t_best, .ref h_t_next, .ref h_t_ways, .ref h_t_round, .ref h_t_roughs, .int f_t_latest])), (h_t_w, .inl (cA, 190, .inl f_t_w))] sz) := by
  refine Met.ofW (cc := cX11_put) (maxL := 2) (ret := (some .int)) (by decide) rfl ?_
  intro p e s m args below meth c s₁ B hml hv
  obtain ⟨rfl, hsz, hP, hK, hD0⟩ := hv
  refine W_gen (fun Q hQ => ?_)
  have hx := B.exec
  have hb := B.bytes
  have hr := B.returns
  have hts := atoms_spec (ws := wsX11_put) B.pre
  have hown : s.vm.findClass RX11 = some m.cls := findClass_of_methodNamed B.named
  have hlocks := B.notSynchronized
  subst hsz
  have hD := hD0.self (sz := s.heap.size)
  clear hD0
  generalize hAe : va_A [(h_t, .inr (10, [.ref h_t_w, .int f_t_known, .int f_t_kept, .int f_t_seed, .ref h_t_imageSeed, .ref h_t_bookOf, .ref h_t_bookIs, .int f_t_written, .ref h_t_forms, .int f_t_formRing, .int f_t_formMany, .ref h_t_best, .ref h_t_next, .ref h_t_ways, .ref h_t_round, .ref h_t_roughs, .int f_t_latest])), (h_t_w, .inl (cA, 190, .inl f_t_w))] s.heap.size = A at hD hQ
  have hA : ∀ q : Nat, s.heap.size ≤ q → A q := fun q h => by rw [← hAe]; exact Or.inr h
  clear hAe
  have hS : va_S A s.heap s.heap [] := va_S.rf
  have hl := lv_entry ([.ref h_t, .int a1]) (n := 2) (Nat.le_of_ble_eq_true rfl)
  rw [lg_entry_eq]
  generalize (lg_sl ([.ref h_t, .int a1]) ++ List.replicate (2 - (lg_sl ([.ref h_t, .int a1])).length) Slot.unset).toArray = ls at hl ⊢
  have hl : lv_has ls 2 [(0, .ref h_t), (1, .int a1)] := hl
  have k2 := hts (.fieldLink RX11 7 "ToneSetsModel" "w" "[I") (List.mem_of_getElem? (i := 2) rfl)
  have k3 := hts (.constant RX11 178 (-1000000004)) (List.mem_of_getElem? (i := 3) rfl)
  have k1 := hts (.constant RX11 143 (-1000000002)) (List.mem_of_getElem? (i := 1) rfl)
  have uX11 := uX11_X11_put
  unfold m_Md_put at hm
  refine lv_iload_n hx hb dX11_put_0 rfl (lv_at hl 1 rfl) ?_
  refine lv_i2l (v := Int32.toInt64 a1) hx hb dX11_put_1 rfl ?_
  refine lv_lconst (v := 0) hx hb dX11_put_2 (by decide) ?_
  refine lv_iconst (v := 1) hx hb dX11_put_3 (by decide) ?_
  refine lv_aload_n hx hb dX11_put_4 rfl (lv_at hl 0 rfl) ?_
  obtain ⟨r_1, hc5, hm⟩ := bd1_go hm
  refine my_cVi (As := []) (rest := [.int 1, .long 0, .long (Int32.toInt64 a1)]) (WC := [(h_t, .inr (10, [.ref h_t_w, .int f_t_known, .int f_t_kept, .int f_t_seed, .ref h_t_imageSeed, .ref h_t_bookOf, .ref h_t_bookIs, .int f_t_written, .ref h_t_forms, .int f_t_formRing, .int f_t_formMany, .ref h_t_best, .ref h_t_next, .ref h_t_ways, .ref h_t_round, .ref h_t_roughs, .int f_t_latest])), (h_t_w, .inl (cA, 190, .inl f_t_w))]) (WC' := [(h_t, .inr (10, [.ref h_t_w, .int f_t_known, .int f_t_kept, .int f_t_seed, .ref h_t_imageSeed, .ref h_t_bookOf, .ref h_t_bookIs, .int f_t_written, .ref h_t_forms, .int f_t_formRing, .int f_t_formMany, .ref h_t_best, .ref h_t_next, .ref h_t_ways, .ref h_t_round, .ref h_t_roughs, .int f_t_latest])), (h_t_w, .inl (cA, 190, .inl f_t_w))]) (WR := []) (W' := [(h_t, .inr (10, [.ref h_t_w, .int f_t_known, .int f_t_kept, .int f_t_seed, .ref h_t_imageSeed, .ref h_t_bookOf, .ref h_t_bookIs, .int f_t_written, .ref h_t_forms, .int f_t_formRing, .int f_t_formMany, .ref h_t_best, .ref h_t_next, .ref h_t_ways, .ref h_t_round, .ref h_t_roughs, .int f_t_latest])), (h_t_w, .inl (cA, 190, .inl f_t_w))]) ⟨hx, hb, hml, hown, hts⟩ hK hP hD hS hA (c_Md_m l dC dI cA h_t h_t_w h_t_imageSeed h_t_bookOf h_t_bookIs h_t_forms h_t_best h_t_next h_t_ways h_t_round h_t_roughs f_t_known f_t_kept f_t_seed f_t_written f_t_formRing f_t_formMany f_t_latest f_t_w r_1 hc5) (cwV 0 hts gX11_put_X11_m rfl rfl rfl (by decide +kernel) ⟨Nat.le_of_ble_eq_true rfl, Nat.le_of_ble_eq_true rfl⟩) [0, 1] [] [0, 1] rfl rfl rfl rfl (ci := 10) (q0 := 0) rfl rfl rfl rfl hl.1 (Nat.le_of_ble_eq_true rfl) dX11_put_5 ⟨Nat.zero_le _, Nat.zero_le _⟩ (fun H locs hP hD hS => ?_)
  refine lv_ishl hx hb dX11_put_8 ?_
  refine lv_iconst (v := 1) hx hb dX11_put_9 (by decide) ?_
  refine lv_isub hx hb dX11_put_10 ?_
  refine lv_i2l (v := Int32.toInt64 (((1 : Int32) <<< (r_1 &&& 31)) - 1)) hx hb dX11_put_11 rfl ?_
  obtain ⟨r_2, hc12, hm⟩ := bd1_go hm
  refine my_cSi (As := [.long (Int32.toInt64 a1), .long 0, .long (Int32.toInt64 (((1 : Int32) <<< (r_1 &&& 31)) - 1))]) (rest := []) (WC := []) (WC' := []) (WR := [(h_t, .inr (10, [.ref h_t_w, .int f_t_known, .int f_t_kept, .int f_t_seed, .ref h_t_imageSeed, .ref h_t_bookOf, .ref h_t_bookIs, .int f_t_written, .ref h_t_forms, .int f_t_formRing, .int f_t_formMany, .ref h_t_best, .ref h_t_next, .ref h_t_ways, .ref h_t_round, .ref h_t_roughs, .int f_t_latest])), (h_t_w, .inl (cA, 190, .inl f_t_w))]) (W' := [(h_t, .inr (10, [.ref h_t_w, .int f_t_known, .int f_t_kept, .int f_t_seed, .ref h_t_imageSeed, .ref h_t_bookOf, .ref h_t_bookIs, .int f_t_written, .ref h_t_forms, .int f_t_formRing, .int f_t_formMany, .ref h_t_best, .ref h_t_next, .ref h_t_ways, .ref h_t_round, .ref h_t_roughs, .int f_t_latest])), (h_t_w, .inl (cA, 190, .inl f_t_w))]) ⟨hx, hb, hml, hown, hts⟩ hK hP hD hS hA (c_Md_in l dC dI cA (Int32.toInt64 a1) 0 (Int32.toInt64 (((1 : Int32) <<< (r_1 &&& 31)) - 1)) r_2 hc12) (va_cwS 3 hts gX11_put_X11_in rfl rfl rfl (by decide +kernel) ⟨Nat.le_of_ble_eq_true rfl, Nat.le_of_ble_eq_true rfl⟩) [] [0, 1] [0, 1] rfl rfl rfl rfl rfl rfl hl.1 (Nat.le_of_ble_eq_true rfl) dX11_put_12 ⟨Nat.zero_le _, Nat.zero_le _⟩ (fun H locs hP hD hS => ?_)
  refine lv_if_ne (tgt := 21) hx hb dX11_put_15 (by decide) (fun c15 => ?_) (fun c15 => ?_)
  · replace hm := if_f c15 hm
    refine lv_aload_n hx hb dX11_put_21 rfl (lv_at hl 0 rfl) ?_
    refine va_get (D := (dC, dI)) (ci := 10) (v := .ref h_t_w) (C := RX11) (T := TX11) (N := 17) hx hb hts uX11 hown hK hP 0 rfl rfl 0 (by decide) k2 (fun _ h9 => h9) rfl dX11_put_22 ?_
    refine lv_iconst (v := 1) hx hb dX11_put_25 (by decide) ?_
    obtain ⟨b26, hm⟩ := ck_go hm
    refine va_iald hx hb hK hP 1 0 rfl rfl b26 dX11_put_26 ?_
    refine lv_bipush (v := 8) hx hb dX11_put_27 (by decide) ?_
    refine lv_icmp_ne (tgt := 37) hx hb dX11_put_29 (by decide) (fun c29 => ?_) (fun c29 => ?_)
    · replace hm := if_f c29 hm
      refine lv_aload_n hx hb dX11_put_37 rfl (lv_at hl 0 rfl) ?_
      refine lv_iload_n hx hb dX11_put_38 rfl (lv_at hl 1 rfl) ?_
      obtain ⟨r_3, f_t_known_1, f_t_w_1, hc39, hm⟩ := bd3_go hm
      refine my_cVi (As := [.int a1]) (rest := []) (WC := [(h_t, .inr (10, [.ref h_t_w, .int f_t_known, .int f_t_kept, .int f_t_seed, .ref h_t_imageSeed, .ref h_t_bookOf, .ref h_t_bookIs, .int f_t_written, .ref h_t_forms, .int f_t_formRing, .int f_t_formMany, .ref h_t_best, .ref h_t_next, .ref h_t_ways, .ref h_t_round, .ref h_t_roughs, .int f_t_latest])), (h_t_w, .inl (cA, 190, .inl f_t_w))]) (WC' := [(h_t, .inr (10, [.ref h_t_w, .int f_t_known_1, .int f_t_kept, .int f_t_seed, .ref h_t_imageSeed, .ref h_t_bookOf, .ref h_t_bookIs, .int f_t_written, .ref h_t_forms, .int f_t_formRing, .int f_t_formMany, .ref h_t_best, .ref h_t_next, .ref h_t_ways, .ref h_t_round, .ref h_t_roughs, .int f_t_latest])), (h_t_w, .inl (cA, 190, .inl f_t_w_1))]) (WR := []) (W' := [(h_t, .inr (10, [.ref h_t_w, .int f_t_known_1, .int f_t_kept, .int f_t_seed, .ref h_t_imageSeed, .ref h_t_bookOf, .ref h_t_bookIs, .int f_t_written, .ref h_t_forms, .int f_t_formRing, .int f_t_formMany, .ref h_t_best, .ref h_t_next, .ref h_t_ways, .ref h_t_round, .ref h_t_roughs, .int f_t_latest])), (h_t_w, .inl (cA, 190, .inl f_t_w_1))]) ⟨hx, hb, hml, hown, hts⟩ hK hP hD hS hA (c_Md_add l dC dI cA fu h_t h_t_w h_t_imageSeed h_t_bookOf h_t_bookIs h_t_forms h_t_best h_t_next h_t_ways h_t_round h_t_roughs f_t_known f_t_kept f_t_seed f_t_written f_t_formRing f_t_formMany f_t_latest f_t_w a1 r_3 f_t_known_1 f_t_w_1 hc39) (cwV 1 hts gX11_put_X11_add rfl rfl rfl (by decide +kernel) ⟨Nat.le_of_ble_eq_true rfl, Nat.le_of_ble_eq_true rfl⟩) [0, 1] [] [0, 1] rfl rfl rfl rfl (ci := 10) (q0 := 0) rfl rfl rfl rfl hl.1 (Nat.le_of_ble_eq_true rfl) dX11_put_39 ⟨Nat.zero_le _, Nat.zero_le _⟩ (fun H locs hP hD hS => ?_)
      cases hm
      exact W_mono hQ (W.iret hx hb hr (fun t ht hW => ⟨⟨_, (), rfl, rfl, by rw [ht]; exact hP, va_K.moved hW.alike hK, hD⟩, hS.F ht⟩) hS.2.2 dX11_put_42)
    · replace hm := if_t c29 hm
      refine lv_ldc (v := (-1000000004)) hx hb hown k3 dX11_put_32 ?_
      refine lv_goto (tgt := 42) hx hb dX11_put_34 (by decide) ?_
      cases hm
      exact W_mono hQ (W.iret hx hb hr (fun t ht hW => ⟨⟨_, (), rfl, rfl, by rw [ht]; exact hP, va_K.moved hW.alike hK, hD⟩, hS.F ht⟩) hS.2.2 dX11_put_42)
  · replace hm := if_t c15 hm
    refine lv_ldc (v := (-1000000002)) hx hb hown k1 dX11_put_18 ?_
    cases hm
    exact W_mono hQ (W.iret hx hb hr (fun t ht hW => ⟨⟨_, (), rfl, rfl, by rw [ht]; exact hP, va_K.moved hW.alike hK, hD⟩, hS.F ht⟩) hS.2.2 dX11_put_20)
abbrev rmX11_ring : Room := { frames := 2, cells := 0, slots := 0, locals := 44 }
theorem uX11_X11_ring : ∀ w ∈ wsX110, w ∈ wsX11_ring := fun _ h => List.mem_cons_of_mem _ (List.mem_append_right _ (h))
set_option maxHeartbeats 40000000 in
set_option maxRecDepth 100000 in
theorem c_Md_ring (l : Launch) (dC : Nat → ClassId) (dI : Nat → Nat → Nat) (cA : ClassId) (fu : Nat) (h_t h_t_w h_t_imageSeed h_t_bookOf h_t_bookIs h_t_forms h_t_best h_t_next h_t_ways h_t_round h_t_roughs : Nat) (f_t_known : Int32) (f_t_kept : Int32) (f_t_seed : Int32) (f_t_written : Int32) (f_t_formRing : Int32) (f_t_formMany : Int32) (f_t_latest : Int32) (f_t_w : Nat → Int32) (a1 : Int32) (r0 : Int32) (f_t_known_z : Int32) (f_t_w_z : Nat → Int32) (hm : m_Md_ring fu f_t_known f_t_w a1 = some (r0, f_t_known_z, f_t_w_z)) (sz : Nat) : Met l yX11_ring wsX11_ring rmX11_ring (mPre (dC, dI) cA [.ref h_t, .int a1] sz [(h_t, .inr (10, [.ref h_t_w, .int f_t_known, .int f_t_kept, .int f_t_seed, .ref h_t_imageSeed, .ref h_t_bookOf, .ref h_t_bookIs, .int f_t_written, .ref h_t_forms, .int f_t_formRing, .int f_t_formMany, .ref h_t_best, .ref h_t_next, .ref h_t_ways, .ref h_t_round, .ref h_t_roughs, .int f_t_latest])), (h_t_w, .inl (cA, 190, .inl f_t_w))]) (mPosI (dC, dI) cA r0 (va_A [(h_t, .inr (10, [.ref h_t_w, .int f_t_known, .int f_t_kept, .int f_t_seed, .ref h_t_imageSeed, .ref h_t_bookOf, .ref h_t_bookIs, .int f_t_written, .ref h_t_forms, .int f_t_formRing, .int f_t_formMany, .ref h_t_best, .ref h_t_next, .ref h_t_ways, .ref h_t_round, .ref h_t_roughs, .int f_t_latest])), (h_t_w, .inl (cA, 190, .inl f_t_w))] sz) [(h_t, .inr (10, [.ref h_t_w, .int f_t_known_z, .int f_t_kept, .int f_t_seed, .ref h_t_imageSeed, .ref h_t_bookOf, .ref h_t_bookIs, .int f_t_written, .ref h_t_forms, .int f_t_formRing, .int f_t_formMany, .ref h_t_best, .ref h_t_next, .ref h_t_ways, .ref h_t_round, .ref h_t_roughs, .int f_t_latest])), (h_t_w, .inl (cA, 190, .inl f_t_w_z))]) 0 0 (va_A [(h_t, .inr (10, [.ref h_t_w, .int f_t_known, .int f_t_kept, .int f_t_seed, .ref h_t_imageSeed, .ref h_t_bookOf, .ref h_t_bookIs, .int f_t_written, .ref h_t_forms, .int f_t_formRing, .int f_t_formMany, .ref h_t_best, .ref h_t_next, .ref h_t_ways, .ref h_t_round, .ref h_t_roughs, .int f_t_latest])), (h_t_w, .inl (cA, 190, .inl f_t_w))] sz) := by
  refine Met.ofW (cc := cX11_ring) (maxL := 3) (ret := (some .int)) (by decide) rfl ?_
  intro p e s m args below meth c s₁ B hml hv
  obtain ⟨rfl, hsz, hP, hK, hD0⟩ := hv
  refine W_gen (fun Q hQ => ?_)
  have hx := B.exec
  have hb := B.bytes
  have hr := B.returns
  have hts := atoms_spec (ws := wsX11_ring) B.pre
  have hown : s.vm.findClass RX11 = some m.cls := findClass_of_methodNamed B.named
  have hlocks := B.notSynchronized
  subst hsz
  have hD := hD0.self (sz := s.heap.size)
  clear hD0
  generalize hAe : va_A [(h_t, .inr (10, [.ref h_t_w, .int f_t_known, .int f_t_kept, .int f_t_seed, .ref h_t_imageSeed, .ref h_t_bookOf, .ref h_t_bookIs, .int f_t_written, .ref h_t_forms, .int f_t_formRing, .int f_t_formMany, .ref h_t_best, .ref h_t_next, .ref h_t_ways, .ref h_t_round, .ref h_t_roughs, .int f_t_latest])), (h_t_w, .inl (cA, 190, .inl f_t_w))] s.heap.size = A at hD hQ
  have hA : ∀ q : Nat, s.heap.size ≤ q → A q := fun q h => by rw [← hAe]; exact Or.inr h
  clear hAe
  have hS : va_S A s.heap s.heap [] := va_S.rf
  have hl := lv_entry ([.ref h_t, .int a1]) (n := 3) (Nat.le_of_ble_eq_true rfl)
  rw [lg_entry_eq]
  generalize (lg_sl ([.ref h_t, .int a1]) ++ List.replicate (3 - (lg_sl ([.ref h_t, .int a1])).length) Slot.unset).toArray = ls at hl ⊢
  have hl : lv_has ls 3 [(0, .ref h_t), (1, .int a1)] := hl
  have k1 := hts (.constantLong RX11 171 (5)) (List.mem_of_getElem? (i := 1) rfl)
  have k2 := hts (.constantLong RX11 173 (12)) (List.mem_of_getElem? (i := 2) rfl)
  have k4 := hts (.fieldLink RX11 7 "ToneSetsModel" "w" "[I") (List.mem_of_getElem? (i := 4) rfl)
  have k3 := hts (.constant RX11 143 (-1000000002)) (List.mem_of_getElem? (i := 3) rfl)
  have uX11 := uX11_X11_ring
  unfold m_Md_ring at hm
  refine lv_iload_n hx hb dX11_ring_0 rfl (lv_at hl 1 rfl) ?_
  refine lv_i2l (v := Int32.toInt64 a1) hx hb dX11_ring_1 rfl ?_
  refine lv_ldc2 (v := 5) hx hb hown k1 dX11_ring_2 ?_
  refine lv_ldc2 (v := 12) hx hb hown k2 dX11_ring_5 ?_
  obtain ⟨r_1, hc8, hm⟩ := bd1_go hm
  refine my_cSi (As := [.long (Int32.toInt64 a1), .long 5, .long 12]) (rest := []) (WC := []) (WC' := []) (WR := [(h_t, .inr (10, [.ref h_t_w, .int f_t_known, .int f_t_kept, .int f_t_seed, .ref h_t_imageSeed, .ref h_t_bookOf, .ref h_t_bookIs, .int f_t_written, .ref h_t_forms, .int f_t_formRing, .int f_t_formMany, .ref h_t_best, .ref h_t_next, .ref h_t_ways, .ref h_t_round, .ref h_t_roughs, .int f_t_latest])), (h_t_w, .inl (cA, 190, .inl f_t_w))]) (W' := [(h_t, .inr (10, [.ref h_t_w, .int f_t_known, .int f_t_kept, .int f_t_seed, .ref h_t_imageSeed, .ref h_t_bookOf, .ref h_t_bookIs, .int f_t_written, .ref h_t_forms, .int f_t_formRing, .int f_t_formMany, .ref h_t_best, .ref h_t_next, .ref h_t_ways, .ref h_t_round, .ref h_t_roughs, .int f_t_latest])), (h_t_w, .inl (cA, 190, .inl f_t_w))]) ⟨hx, hb, hml, hown, hts⟩ hK hP hD hS hA (c_Md_in l dC dI cA (Int32.toInt64 a1) 5 12 r_1 hc8) (va_cwS 3 hts gX11_ring_X11_in rfl rfl rfl (by decide +kernel) ⟨Nat.le_of_ble_eq_true rfl, Nat.le_of_ble_eq_true rfl⟩) [] [0, 1] [0, 1] rfl rfl rfl rfl rfl rfl hl.1 (Nat.le_of_ble_eq_true rfl) dX11_ring_8 ⟨Nat.zero_le _, Nat.zero_le _⟩ (fun H locs hP hD hS => ?_)
  refine lv_if_ne (tgt := 17) hx hb dX11_ring_11 (by decide) (fun c11 => ?_) (fun c11 => ?_)
  · replace hm := if_f c11 hm
    refine lv_aload_n hx hb dX11_ring_17 rfl (lv_at hl 0 rfl) ?_
    obtain ⟨f_t_known_1, f_t_w_1, hc18, hm⟩ := bd2_go hm
    refine my_cVv (As := []) (rest := []) (WC := [(h_t, .inr (10, [.ref h_t_w, .int f_t_known, .int f_t_kept, .int f_t_seed, .ref h_t_imageSeed, .ref h_t_bookOf, .ref h_t_bookIs, .int f_t_written, .ref h_t_forms, .int f_t_formRing, .int f_t_formMany, .ref h_t_best, .ref h_t_next, .ref h_t_ways, .ref h_t_round, .ref h_t_roughs, .int f_t_latest])), (h_t_w, .inl (cA, 190, .inl f_t_w))]) (WC' := [(h_t, .inr (10, [.ref h_t_w, .int f_t_known_1, .int f_t_kept, .int f_t_seed, .ref h_t_imageSeed, .ref h_t_bookOf, .ref h_t_bookIs, .int f_t_written, .ref h_t_forms, .int f_t_formRing, .int f_t_formMany, .ref h_t_best, .ref h_t_next, .ref h_t_ways, .ref h_t_round, .ref h_t_roughs, .int f_t_latest])), (h_t_w, .inl (cA, 190, .inl f_t_w_1))]) (WR := []) (W' := [(h_t, .inr (10, [.ref h_t_w, .int f_t_known_1, .int f_t_kept, .int f_t_seed, .ref h_t_imageSeed, .ref h_t_bookOf, .ref h_t_bookIs, .int f_t_written, .ref h_t_forms, .int f_t_formRing, .int f_t_formMany, .ref h_t_best, .ref h_t_next, .ref h_t_ways, .ref h_t_round, .ref h_t_roughs, .int f_t_latest])), (h_t_w, .inl (cA, 190, .inl f_t_w_1))]) ⟨hx, hb, hml, hown, hts⟩ hK hP hD hS hA (c_Md_remember l dC dI cA fu h_t h_t_w h_t_imageSeed h_t_bookOf h_t_bookIs h_t_forms h_t_best h_t_next h_t_ways h_t_round h_t_roughs f_t_known f_t_kept f_t_seed f_t_written f_t_formRing f_t_formMany f_t_latest f_t_w f_t_known_1 f_t_w_1 hc18) (cwV 0 hts gX11_ring_X11_remember rfl rfl rfl (by decide +kernel) ⟨Nat.le_of_ble_eq_true rfl, Nat.le_of_ble_eq_true rfl⟩) [0, 1] [] [0, 1] rfl rfl rfl rfl (ci := 10) (q0 := 0) rfl rfl rfl rfl hl.1 (Nat.le_of_ble_eq_true rfl) dX11_ring_18 ⟨Nat.zero_le _, Nat.zero_le _⟩ (fun H locs hP hD hS => ?_)
    refine lv_aload_n hx hb dX11_ring_21 rfl (lv_at hl 0 rfl) ?_
    obtain ⟨r_2, hc22, hm⟩ := bd1_go hm
    refine my_cVi (As := []) (rest := []) (WC := [(h_t, .inr (10, [.ref h_t_w, .int f_t_known_1, .int f_t_kept, .int f_t_seed, .ref h_t_imageSeed, .ref h_t_bookOf, .ref h_t_bookIs, .int f_t_written, .ref h_t_forms, .int f_t_formRing, .int f_t_formMany, .ref h_t_best, .ref h_t_next, .ref h_t_ways, .ref h_t_round, .ref h_t_roughs, .int f_t_latest])), (h_t_w, .inl (cA, 190, .inl f_t_w_1))]) (WC' := [(h_t, .inr (10, [.ref h_t_w, .int f_t_known_1, .int f_t_kept, .int f_t_seed, .ref h_t_imageSeed, .ref h_t_bookOf, .ref h_t_bookIs, .int f_t_written, .ref h_t_forms, .int f_t_formRing, .int f_t_formMany, .ref h_t_best, .ref h_t_next, .ref h_t_ways, .ref h_t_round, .ref h_t_roughs, .int f_t_latest])), (h_t_w, .inl (cA, 190, .inl f_t_w_1))]) (WR := []) (W' := [(h_t, .inr (10, [.ref h_t_w, .int f_t_known_1, .int f_t_kept, .int f_t_seed, .ref h_t_imageSeed, .ref h_t_bookOf, .ref h_t_bookIs, .int f_t_written, .ref h_t_forms, .int f_t_formRing, .int f_t_formMany, .ref h_t_best, .ref h_t_next, .ref h_t_ways, .ref h_t_round, .ref h_t_roughs, .int f_t_latest])), (h_t_w, .inl (cA, 190, .inl f_t_w_1))]) ⟨hx, hb, hml, hown, hts⟩ hK hP hD hS hA (c_Md_m l dC dI cA h_t h_t_w h_t_imageSeed h_t_bookOf h_t_bookIs h_t_forms h_t_best h_t_next h_t_ways h_t_round h_t_roughs f_t_known_1 f_t_kept f_t_seed f_t_written f_t_formRing f_t_formMany f_t_latest f_t_w_1 r_2 hc22) (cwV 0 hts gX11_ring_X11_m rfl rfl rfl (by decide +kernel) ⟨Nat.le_of_ble_eq_true rfl, Nat.le_of_ble_eq_true rfl⟩) [0, 1] [] [0, 1] rfl rfl rfl rfl (ci := 10) (q0 := 0) rfl rfl rfl rfl hl.1 (Nat.le_of_ble_eq_true rfl) dX11_ring_22 ⟨Nat.zero_le _, Nat.zero_le _⟩ (fun H locs hP hD hS => ?_)
    refine lv_topi (fun v2_1 ev2_1 => ?_)
    replace hm := lt_go ev2_1 hm
    refine lv_istore_n (lv' := [(2, .int v2_1), (0, .ref h_t), (1, .int a1)]) hx hb dX11_ring_25 rfl hl (by decide) rfl (fun ls hl => ?_)
    refine lv_aload_n hx hb dX11_ring_26 rfl (lv_at hl 1 rfl) ?_
    refine va_get (D := (dC, dI)) (ci := 10) (v := .ref h_t_w) (C := RX11) (T := TX11) (N := 17) hx hb hts uX11 hown hK hP 0 rfl rfl 0 (by decide) k4 (fun _ h9 => h9) rfl dX11_ring_27 ?_
    refine lv_iconst (v := 0) hx hb dX11_ring_30 (by decide) ?_
    refine lv_iload_n hx hb dX11_ring_31 rfl (lv_at hl 2 rfl) ?_
    obtain ⟨b32, hm⟩ := ck_go hm
    refine my_iast (W' := fun z' => [(h_t, .inr (10, [.ref h_t_w, .int f_t_known_1, .int f_t_kept, .int f_t_seed, .ref h_t_imageSeed, .ref h_t_bookOf, .ref h_t_bookIs, .int f_t_written, .ref h_t_forms, .int f_t_formRing, .int f_t_formMany, .ref h_t_best, .ref h_t_next, .ref h_t_ways, .ref h_t_round, .ref h_t_roughs, .int f_t_latest])), (h_t_w, .inl (cA, 190, .inl z'))]) hx hb hK hP hD hS 1 0 rfl rfl b32 dX11_ring_32 (fun _ => rfl) (fun f_t_w_2 ef_t_w_2 H locs hP hD hS => ?_)
    replace hm := lt_go ef_t_w_2 hm
    refine lv_aload_n hx hb dX11_ring_33 rfl (lv_at hl 1 rfl) ?_
    refine va_get (D := (dC, dI)) (ci := 10) (v := .ref h_t_w) (C := RX11) (T := TX11) (N := 17) hx hb hts uX11 hown hK hP 0 rfl rfl 0 (by decide) k4 (fun _ h9 => h9) rfl dX11_ring_34 ?_
    refine lv_iconst (v := 1) hx hb dX11_ring_37 (by decide) ?_
    refine lv_iconst (v := 0) hx hb dX11_ring_38 (by decide) ?_
    obtain ⟨b39, hm⟩ := ck_go hm
    refine my_iast (W' := fun z' => [(h_t, .inr (10, [.ref h_t_w, .int f_t_known_1, .int f_t_kept, .int f_t_seed, .ref h_t_imageSeed, .ref h_t_bookOf, .ref h_t_bookIs, .int f_t_written, .ref h_t_forms, .int f_t_formRing, .int f_t_formMany, .ref h_t_best, .ref h_t_next, .ref h_t_ways, .ref h_t_round, .ref h_t_roughs, .int f_t_latest])), (h_t_w, .inl (cA, 190, .inl z'))]) hx hb hK hP hD hS 1 0 rfl rfl b39 dX11_ring_39 (fun _ => rfl) (fun f_t_w_3 ef_t_w_3 H locs hP hD hS => ?_)
    replace hm := lt_go ef_t_w_3 hm
    refine lv_iload_n hx hb dX11_ring_40 rfl (lv_at hl 0 rfl) ?_
    cases hm
    exact W_mono hQ (W.iret hx hb hr (fun t ht hW => ⟨⟨_, (), rfl, rfl, by rw [ht]; exact hP, va_K.moved hW.alike hK, hD⟩, hS.F ht⟩) hS.2.2 dX11_ring_41)
  · replace hm := if_t c11 hm
    refine lv_ldc (v := (-1000000002)) hx hb hown k3 dX11_ring_14 ?_
    cases hm
    exact W_mono hQ (W.iret hx hb hr (fun t ht hW => ⟨⟨_, (), rfl, rfl, by rw [ht]; exact hP, va_K.moved hW.alike hK, hD⟩, hS.F ht⟩) hS.2.2 dX11_ring_16)
abbrev rmX11_roundNow : Room := { frames := 6, cells := 0, slots := 0, locals := 138 }
theorem uX11_X11_roundNow : ∀ w ∈ wsX110, w ∈ wsX11_roundNow := fun _ h => List.mem_cons_of_mem _ (List.mem_append_right _ (h))
set_option maxHeartbeats 40000000 in
set_option maxRecDepth 100000 in
theorem c_Md_roundNow (l : Launch) (dC : Nat → ClassId) (dI : Nat → Nat → Nat) (cA : ClassId) (fu : Nat) (h_t h_t_w h_t_imageSeed h_t_bookOf h_t_bookIs h_t_forms h_t_best h_t_next h_t_ways h_t_round h_t_roughs : Nat) (f_t_known : Int32) (f_t_kept : Int32) (f_t_seed : Int32) (f_t_written : Int32) (f_t_formRing : Int32) (f_t_formMany : Int32) (f_t_latest : Int32) (f_t_best : Nat → Int32) (f_t_next : Nat → Int32) (f_t_round : Nat → Int32) (f_t_w : Nat → Int32) (f_t_ways : Nat → Int32) (r0 : Int32) (f_t_best_z : Nat → Int32) (f_t_next_z : Nat → Int32) (f_t_round_z : Nat → Int32) (f_t_ways_z : Nat → Int32) (hm : m_Md_roundNow fu f_t_best f_t_next f_t_round f_t_w f_t_ways = some (r0, f_t_best_z, f_t_next_z, f_t_round_z, f_t_ways_z)) (sz : Nat) : Met l yX11_roundNow wsX11_roundNow rmX11_roundNow (mPre (dC, dI) cA [.ref h_t] sz [(h_t, .inr (10, [.ref h_t_w, .int f_t_known, .int f_t_kept, .int f_t_seed, .ref h_t_imageSeed, .ref h_t_bookOf, .ref h_t_bookIs, .int f_t_written, .ref h_t_forms, .int f_t_formRing, .int f_t_formMany, .ref h_t_best, .ref h_t_next, .ref h_t_ways, .ref h_t_round, .ref h_t_roughs, .int f_t_latest])), (h_t_best, .inl (cA, 4096, .inl f_t_best)), (h_t_next, .inl (cA, 4096, .inl f_t_next)), (h_t_round, .inl (cA, 2048, .inl f_t_round)), (h_t_w, .inl (cA, 190, .inl f_t_w)), (h_t_ways, .inl (cA, 64, .inl f_t_ways))]) (mPosI (dC, dI) cA r0 (va_A [(h_t, .inr (10, [.ref h_t_w, .int f_t_known, .int f_t_kept, .int f_t_seed, .ref h_t_imageSeed, .ref h_t_bookOf, .ref h_t_bookIs, .int f_t_written, .ref h_t_forms, .int f_t_formRing, .int f_t_formMany, .ref h_t_best, .ref h_t_next, .ref h_t_ways, .ref h_t_round, .ref h_t_roughs, .int f_t_latest])), (h_t_best, .inl (cA, 4096, .inl f_t_best)), (h_t_next, .inl (cA, 4096, .inl f_t_next)), (h_t_round, .inl (cA, 2048, .inl f_t_round)), (h_t_w, .inl (cA, 190, .inl f_t_w)), (h_t_ways, .inl (cA, 64, .inl f_t_ways))] sz) [(h_t, .inr (10, [.ref h_t_w, .int f_t_known, .int f_t_kept, .int f_t_seed, .ref h_t_imageSeed, .ref h_t_bookOf, .ref h_t_bookIs, .int f_t_written, .ref h_t_forms, .int f_t_formRing, .int f_t_formMany, .ref h_t_best, .ref h_t_next, .ref h_t_ways, .ref h_t_round, .ref h_t_roughs, .int f_t_latest])), (h_t_best, .inl (cA, 4096, .inl f_t_best_z)), (h_t_next, .inl (cA, 4096, .inl f_t_next_z)), (h_t_round, .inl (cA, 2048, .inl f_t_round_z)), (h_t_w, .inl (cA, 190, .inl f_t_w)), (h_t_ways, .inl (cA, 64, .inl f_t_ways_z))]) 0 0 (va_A [(h_t, .inr (10, [.ref h_t_w, .int f_t_known, .int f_t_kept, .int f_t_seed, .ref h_t_imageSeed, .ref h_t_bookOf, .ref h_t_bookIs, .int f_t_written, .ref h_t_forms, .int f_t_formRing, .int f_t_formMany, .ref h_t_best, .ref h_t_next, .ref h_t_ways, .ref h_t_round, .ref h_t_roughs, .int f_t_latest])), (h_t_best, .inl (cA, 4096, .inl f_t_best)), (h_t_next, .inl (cA, 4096, .inl f_t_next)), (h_t_round, .inl (cA, 2048, .inl f_t_round)), (h_t_w, .inl (cA, 190, .inl f_t_w)), (h_t_ways, .inl (cA, 64, .inl f_t_ways))] sz) := by
  refine Met.ofW (cc := cX11_roundNow) (maxL := 11) (ret := (some .int)) (by decide) rfl ?_
  intro p e s m args below meth c s₁ B hml hv
  obtain ⟨rfl, hsz, hP, hK, hD0⟩ := hv
  refine W_gen (fun Q hQ => ?_)
  have hx := B.exec
  have hb := B.bytes
  have hr := B.returns
  have hts := atoms_spec (ws := wsX11_roundNow) B.pre
  have hown : s.vm.findClass RX11 = some m.cls := findClass_of_methodNamed B.named
  have hlocks := B.notSynchronized
  subst hsz
  have hD := hD0.self (sz := s.heap.size)
  clear hD0
  generalize hAe : va_A [(h_t, .inr (10, [.ref h_t_w, .int f_t_known, .int f_t_kept, .int f_t_seed, .ref h_t_imageSeed, .ref h_t_bookOf, .ref h_t_bookIs, .int f_t_written, .ref h_t_forms, .int f_t_formRing, .int f_t_formMany, .ref h_t_best, .ref h_t_next, .ref h_t_ways, .ref h_t_round, .ref h_t_roughs, .int f_t_latest])), (h_t_best, .inl (cA, 4096, .inl f_t_best)), (h_t_next, .inl (cA, 4096, .inl f_t_next)), (h_t_round, .inl (cA, 2048, .inl f_t_round)), (h_t_w, .inl (cA, 190, .inl f_t_w)), (h_t_ways, .inl (cA, 64, .inl f_t_ways))] s.heap.size = A at hD hQ
  have hA : ∀ q : Nat, s.heap.size ≤ q → A q := fun q h => by rw [← hAe]; exact Or.inr h
  clear hAe
  have hS : va_S A s.heap s.heap [] := va_S.rf
  have hl := lv_entry ([.ref h_t]) (n := 11) (Nat.le_of_ble_eq_true rfl)
  rw [lg_entry_eq]
  generalize (lg_sl ([.ref h_t]) ++ List.replicate (11 - (lg_sl ([.ref h_t])).length) Slot.unset).toArray = ls at hl ⊢
  have hl : lv_has ls 11 [(0, .ref h_t)] := hl
  have k1 := hts (.fieldLink RX11 7 "ToneSetsModel" "w" "[I") (List.mem_of_getElem? (i := 1) rfl)
  have k2 := hts (.fieldLink RX11 34 "ToneSetsModel" "round" "[I") (List.mem_of_getElem? (i := 2) rfl)
  have k3 := hts (.constant RX11 96 (1000000)) (List.mem_of_getElem? (i := 3) rfl)
  have k4 := hts (.fieldLink RX11 31 "ToneSetsModel" "ways" "[I") (List.mem_of_getElem? (i := 4) rfl)
  have uX11 := uX11_X11_roundNow
  unfold m_Md_roundNow at hm
  refine lv_iconst (v := 0) hx hb dX11_roundNow_0 (by decide) ?_
  refine lv_topi (fun v1_1 ev1_1 => ?_)
  replace hm := lt_go ev1_1 hm
  refine lv_istore_n (lv' := [(1, .int v1_1), (0, .ref h_t)]) hx hb dX11_roundNow_1 rfl hl (by decide) rfl (fun ls hl => ?_)
  refine lv_aload_n hx hb dX11_roundNow_2 rfl (lv_at hl 1 rfl) ?_
  refine va_get (D := (dC, dI)) (ci := 10) (v := .ref h_t_w) (C := RX11) (T := TX11) (N := 17) hx hb hts uX11 hown hK hP 0 rfl rfl 0 (by decide) k1 (fun _ h9 => h9) rfl dX11_roundNow_3 ?_
  refine lv_iconst (v := 1) hx hb dX11_roundNow_6 (by decide) ?_
  obtain ⟨b7, hm⟩ := ck_go hm
  refine va_iald hx hb hK hP 4 0 rfl rfl b7 dX11_roundNow_7 ?_
  refine lv_iconst (v := 1) hx hb dX11_roundNow_8 (by decide) ?_
  refine lv_isub hx hb dX11_roundNow_9 ?_
  refine lv_topi (fun v2_1 ev2_1 => ?_)
  replace hm := lt_go ev2_1 hm
  refine lv_istore_n (lv' := [(2, .int v2_1), (1, .int v1_1), (0, .ref h_t)]) hx hb dX11_roundNow_10 rfl hl (by decide) rfl (fun ls hl => ?_)
  have L11 : ∀ (n : Nat) (v1_2 : Int32) (v2_2 : Int32) (v1_3 : Int32), m_Md_roundNow_L11 f_t_w n v1_2 v2_2 = some v1_3 → ∀ (H : Heap) (locs : List Loc), va_P (dC, dI) vwCl [(h_t, .inr (10, [.ref h_t_w, .int f_t_known, .int f_t_kept, .int f_t_seed, .ref h_t_imageSeed, .ref h_t_bookOf, .ref h_t_bookIs, .int f_t_written, .ref h_t_forms, .int f_t_formRing, .int f_t_formMany, .ref h_t_best, .ref h_t_next, .ref h_t_ways, .ref h_t_round, .ref h_t_roughs, .int f_t_latest])), (h_t_best, .inl (cA, 4096, .inl f_t_best)), (h_t_next, .inl (cA, 4096, .inl f_t_next)), (h_t_round, .inl (cA, 2048, .inl f_t_round)), (h_t_w, .inl (cA, 190, .inl f_t_w)), (h_t_ways, .inl (cA, 64, .inl f_t_ways))] H → va_D A [(h_t, .inr (10, [.ref h_t_w, .int f_t_known, .int f_t_kept, .int f_t_seed, .ref h_t_imageSeed, .ref h_t_bookOf, .ref h_t_bookIs, .int f_t_written, .ref h_t_forms, .int f_t_formRing, .int f_t_formMany, .ref h_t_best, .ref h_t_next, .ref h_t_ways, .ref h_t_round, .ref h_t_roughs, .int f_t_latest])), (h_t_best, .inl (cA, 4096, .inl f_t_best)), (h_t_next, .inl (cA, 4096, .inl f_t_next)), (h_t_round, .inl (cA, 2048, .inl f_t_round)), (h_t_w, .inl (cA, 190, .inl f_t_w)), (h_t_ways, .inl (cA, 64, .inl f_t_ways))] → va_S A s.heap H locs → ∀ ls : Array Slot, lv_has ls 11 [(0, .ref h_t), (1, .int v1_2), (2, .int v2_2)] → (∀ (H : Heap) (locs : List Loc), va_P (dC, dI) vwCl [(h_t, .inr (10, [.ref h_t_w, .int f_t_known, .int f_t_kept, .int f_t_seed, .ref h_t_imageSeed, .ref h_t_bookOf, .ref h_t_bookIs, .int f_t_written, .ref h_t_forms, .int f_t_formRing, .int f_t_formMany, .ref h_t_best, .ref h_t_next, .ref h_t_ways, .ref h_t_round, .ref h_t_roughs, .int f_t_latest])), (h_t_best, .inl (cA, 4096, .inl f_t_best)), (h_t_next, .inl (cA, 4096, .inl f_t_next)), (h_t_round, .inl (cA, 2048, .inl f_t_round)), (h_t_w, .inl (cA, 190, .inl f_t_w)), (h_t_ways, .inl (cA, 64, .inl f_t_ways))] H → va_D A [(h_t, .inr (10, [.ref h_t_w, .int f_t_known, .int f_t_kept, .int f_t_seed, .ref h_t_imageSeed, .ref h_t_bookOf, .ref h_t_bookIs, .int f_t_written, .ref h_t_forms, .int f_t_formRing, .int f_t_formMany, .ref h_t_best, .ref h_t_next, .ref h_t_ways, .ref h_t_round, .ref h_t_roughs, .int f_t_latest])), (h_t_best, .inl (cA, 4096, .inl f_t_best)), (h_t_next, .inl (cA, 4096, .inl f_t_next)), (h_t_round, .inl (cA, 2048, .inl f_t_round)), (h_t_w, .inl (cA, 190, .inl f_t_w)), (h_t_ways, .inl (cA, 64, .inl f_t_ways))] → va_S A s.heap H locs → ∀ ls : Array Slot, lv_has ls 11 [(0, .ref h_t), (1, .int v1_3)] → W p l e (headSpec wsX11_roundNow rmX11_roundNow).room s m (([.ref h_t] : List Value).toArray) below meth c H locs 0 0 Q (F0 m 42 ls [])) → W p l e (headSpec wsX11_roundNow rmX11_roundNow).room s m (([.ref h_t] : List Value).toArray) below meth c H locs 0 0 Q (F0 m 11 ls []) := by
    clear hm hP hD hS hl
    intro n
    induction n with
    | zero => intro _ _ _ hm; exact nomatch (show none = some _ from hm)
    | succ n ih =>
      intro v1_2 v2_2 v1_3 hm H locs hP hD hS ls hl KK
      unfold m_Md_roundNow_L11 at hm
      refine lv_iload_n hx hb dX11_roundNow_11 rfl (lv_at hl 2 rfl) ?_
      refine lv_if_lt (tgt := 42) hx hb dX11_roundNow_12 (by decide) (fun c12 => ?_) (fun c12 => ?_)
      · replace hm := if_t c12 hm
        cases hm
        exact KK _ _ hP hD hS _ (lv_sub hl [0, 1] rfl)
      · replace hm := if_f c12 hm
        refine lv_iload_n hx hb dX11_roundNow_15 rfl (lv_at hl 1 rfl) ?_
        refine lv_aload_n hx hb dX11_roundNow_16 rfl (lv_at hl 0 rfl) ?_
        refine va_get (D := (dC, dI)) (ci := 10) (v := .ref h_t_w) (C := RX11) (T := TX11) (N := 17) hx hb hts uX11 hown hK hP 0 rfl rfl 0 (by decide) k1 (fun _ h9 => h9) rfl dX11_roundNow_17 ?_
        refine lv_iconst (v := 2) hx hb dX11_roundNow_20 (by decide) ?_
        refine lv_iload_n hx hb dX11_roundNow_21 rfl (lv_at hl 2 rfl) ?_
        refine lv_iadd hx hb dX11_roundNow_22 ?_
        obtain ⟨b23, hm⟩ := ck_go hm
        refine va_iald hx hb hK hP 4 0 rfl rfl b23 dX11_roundNow_23 ?_
        obtain ⟨q34_1, hqJ_1, hm⟩ := bd1_go hm
        have J_1 : ∀ (H : Heap) (locs : List Loc), va_P (dC, dI) vwCl [(h_t, .inr (10, [.ref h_t_w, .int f_t_known, .int f_t_kept, .int f_t_seed, .ref h_t_imageSeed, .ref h_t_bookOf, .ref h_t_bookIs, .int f_t_written, .ref h_t_forms, .int f_t_formRing, .int f_t_formMany, .ref h_t_best, .ref h_t_next, .ref h_t_ways, .ref h_t_round, .ref h_t_roughs, .int f_t_latest])), (h_t_best, .inl (cA, 4096, .inl f_t_best)), (h_t_next, .inl (cA, 4096, .inl f_t_next)), (h_t_round, .inl (cA, 2048, .inl f_t_round)), (h_t_w, .inl (cA, 190, .inl f_t_w)), (h_t_ways, .inl (cA, 64, .inl f_t_ways))] H → va_D A [(h_t, .inr (10, [.ref h_t_w, .int f_t_known, .int f_t_kept, .int f_t_seed, .ref h_t_imageSeed, .ref h_t_bookOf, .ref h_t_bookIs, .int f_t_written, .ref h_t_forms, .int f_t_formRing, .int f_t_formMany, .ref h_t_best, .ref h_t_next, .ref h_t_ways, .ref h_t_round, .ref h_t_roughs, .int f_t_latest])), (h_t_best, .inl (cA, 4096, .inl f_t_best)), (h_t_next, .inl (cA, 4096, .inl f_t_next)), (h_t_round, .inl (cA, 2048, .inl f_t_round)), (h_t_w, .inl (cA, 190, .inl f_t_w)), (h_t_ways, .inl (cA, 64, .inl f_t_ways))] → va_S A s.heap H locs → ∀ ls : Array Slot, lv_has ls 11 [(0, .ref h_t), (2, .int v2_2)] → W p l e (headSpec wsX11_roundNow rmX11_roundNow).room s m (([.ref h_t] : List Value).toArray) below meth c H locs 0 0 Q (F0 m 34 ls [.int q34_1, .int v1_2]) := by
          intro H locs hP hD hS ls hl
          clear hqJ_1
          refine lv_ior hx hb dX11_roundNow_34 ?_
          refine lv_topi (fun v1_4 ev1_4 => ?_)
          replace hm := lt_go ev1_4 hm
          refine lv_istore_n (lv' := [(1, .int v1_4), (0, .ref h_t), (2, .int v2_2)]) hx hb dX11_roundNow_35 rfl hl (by decide) rfl (fun ls hl => ?_)
          obtain ⟨v2_3, ev2_3⟩ : ∃ z : Int32, z = v2_2 + (-1) := ⟨_, rfl⟩
          replace hm := lt_go ev2_3 hm
          refine lv_iinc (v := v2_3) (lv' := [(2, .int v2_3), (1, .int v1_4), (0, .ref h_t)]) hx hb dX11_roundNow_36 hl (k := 2) rfl (by rw [ev2_3]; rfl) (by decide) rfl (fun ls hl => ?_)
          refine lv_goto (tgt := 11) hx hb dX11_roundNow_39 (by decide) ?_
          exact ih _ _ _ hm _ _ hP hD hS _ (lv_sub hl [2, 1, 0] rfl) KK
        clear hm
        refine lv_if_eq (tgt := 33) hx hb dX11_roundNow_24 (by decide) (fun c24 => ?_) (fun c24 => ?_)
        · replace hqJ_1 := if_t c24 hqJ_1
          refine lv_iconst (v := 0) hx hb dX11_roundNow_33 (by decide) ?_
          cases hqJ_1
          exact J_1 _ _ hP hD hS _ (lv_sub hl [0, 2] rfl)
        · replace hqJ_1 := if_f c24 hqJ_1
          refine lv_iconst (v := 1) hx hb dX11_roundNow_27 (by decide) ?_
          refine lv_iload_n hx hb dX11_roundNow_28 rfl (lv_at hl 2 rfl) ?_
          refine lv_ishl hx hb dX11_roundNow_29 ?_
          refine lv_goto (tgt := 34) hx hb dX11_roundNow_30 (by decide) ?_
          cases hqJ_1
          exact J_1 _ _ hP hD hS _ (lv_sub hl [0, 2] rfl)
  obtain ⟨v1_5, hl11, hm⟩ := bd1_go hm
  refine L11 _ _ _ _ hl11 _ _ hP hD hS _ (lv_sub hl [2, 1, 0] rfl) (fun H locs hP hD hS ls hl => ?_)
  refine lv_iload_n hx hb dX11_roundNow_42 rfl (lv_at hl 1 rfl) ?_
  refine lv_if_ne (tgt := 48) hx hb dX11_roundNow_43 (by decide) (fun c43 => ?_) (fun c43 => ?_)
  · replace hm := if_f c43 hm
    refine lv_aload_n hx hb dX11_roundNow_48 rfl (lv_at hl 0 rfl) ?_
    obtain ⟨f_t_best_1, f_t_next_1, f_t_ways_1, hc49, hm⟩ := bd3_go hm
    refine my_cVv (As := []) (rest := []) (WC := [(h_t, .inr (10, [.ref h_t_w, .int f_t_known, .int f_t_kept, .int f_t_seed, .ref h_t_imageSeed, .ref h_t_bookOf, .ref h_t_bookIs, .int f_t_written, .ref h_t_forms, .int f_t_formRing, .int f_t_formMany, .ref h_t_best, .ref h_t_next, .ref h_t_ways, .ref h_t_round, .ref h_t_roughs, .int f_t_latest])), (h_t_best, .inl (cA, 4096, .inl f_t_best)), (h_t_next, .inl (cA, 4096, .inl f_t_next)), (h_t_w, .inl (cA, 190, .inl f_t_w)), (h_t_ways, .inl (cA, 64, .inl f_t_ways))]) (WC' := [(h_t, .inr (10, [.ref h_t_w, .int f_t_known, .int f_t_kept, .int f_t_seed, .ref h_t_imageSeed, .ref h_t_bookOf, .ref h_t_bookIs, .int f_t_written, .ref h_t_forms, .int f_t_formRing, .int f_t_formMany, .ref h_t_best, .ref h_t_next, .ref h_t_ways, .ref h_t_round, .ref h_t_roughs, .int f_t_latest])), (h_t_best, .inl (cA, 4096, .inl f_t_best_1)), (h_t_next, .inl (cA, 4096, .inl f_t_next_1)), (h_t_w, .inl (cA, 190, .inl f_t_w)), (h_t_ways, .inl (cA, 64, .inl f_t_ways_1))]) (WR := [(h_t_round, .inl (cA, 2048, .inl f_t_round))]) (W' := [(h_t, .inr (10, [.ref h_t_w, .int f_t_known, .int f_t_kept, .int f_t_seed, .ref h_t_imageSeed, .ref h_t_bookOf, .ref h_t_bookIs, .int f_t_written, .ref h_t_forms, .int f_t_formRing, .int f_t_formMany, .ref h_t_best, .ref h_t_next, .ref h_t_ways, .ref h_t_round, .ref h_t_roughs, .int f_t_latest])), (h_t_best, .inl (cA, 4096, .inl f_t_best_1)), (h_t_next, .inl (cA, 4096, .inl f_t_next_1)), (h_t_round, .inl (cA, 2048, .inl f_t_round)), (h_t_w, .inl (cA, 190, .inl f_t_w)), (h_t_ways, .inl (cA, 64, .inl f_t_ways_1))]) ⟨hx, hb, hml, hown, hts⟩ hK hP hD hS hA (c_Md_layWays l dC dI cA fu h_t h_t_w h_t_imageSeed h_t_bookOf h_t_bookIs h_t_forms h_t_best h_t_next h_t_ways h_t_round h_t_roughs f_t_known f_t_kept f_t_seed f_t_written f_t_formRing f_t_formMany f_t_latest f_t_best f_t_next f_t_w f_t_ways f_t_best_1 f_t_next_1 f_t_ways_1 hc49) (cwV 0 hts gX11_roundNow_X11_layWays rfl rfl rfl (by decide +kernel) ⟨Nat.le_of_ble_eq_true rfl, Nat.le_of_ble_eq_true rfl⟩) [0, 1, 2, 4, 5] [3] [1, 2, 3, 0, 4, 5] rfl rfl rfl rfl (ci := 10) (q0 := 0) rfl rfl rfl rfl hl.1 (Nat.le_of_ble_eq_true rfl) dX11_roundNow_49 ⟨Nat.zero_le _, Nat.zero_le _⟩ (fun H locs hP hD hS => ?_)
    refine lv_iconst (v := 0) hx hb dX11_roundNow_52 (by decide) ?_
    refine lv_topi (fun v2_4 ev2_4 => ?_)
    replace hm := lt_go ev2_4 hm
    refine lv_istore_n (lv' := [(2, .int v2_4), (0, .ref h_t), (1, .int v1_5)]) hx hb dX11_roundNow_53 rfl hl (by decide) rfl (fun ls hl => ?_)
    have L54 : ∀ (n : Nat) (v2_5 : Int32) (f_t_round_1 : Nat → Int32) (f_t_round_2 : Nat → Int32), m_Md_roundNow_L54 n v2_5 f_t_round_1 = some f_t_round_2 → ∀ (H : Heap) (locs : List Loc), va_P (dC, dI) vwCl [(h_t, .inr (10, [.ref h_t_w, .int f_t_known, .int f_t_kept, .int f_t_seed, .ref h_t_imageSeed, .ref h_t_bookOf, .ref h_t_bookIs, .int f_t_written, .ref h_t_forms, .int f_t_formRing, .int f_t_formMany, .ref h_t_best, .ref h_t_next, .ref h_t_ways, .ref h_t_round, .ref h_t_roughs, .int f_t_latest])), (h_t_best, .inl (cA, 4096, .inl f_t_best_1)), (h_t_next, .inl (cA, 4096, .inl f_t_next_1)), (h_t_round, .inl (cA, 2048, .inl f_t_round_1)), (h_t_w, .inl (cA, 190, .inl f_t_w)), (h_t_ways, .inl (cA, 64, .inl f_t_ways_1))] H → va_D A [(h_t, .inr (10, [.ref h_t_w, .int f_t_known, .int f_t_kept, .int f_t_seed, .ref h_t_imageSeed, .ref h_t_bookOf, .ref h_t_bookIs, .int f_t_written, .ref h_t_forms, .int f_t_formRing, .int f_t_formMany, .ref h_t_best, .ref h_t_next, .ref h_t_ways, .ref h_t_round, .ref h_t_roughs, .int f_t_latest])), (h_t_best, .inl (cA, 4096, .inl f_t_best_1)), (h_t_next, .inl (cA, 4096, .inl f_t_next_1)), (h_t_round, .inl (cA, 2048, .inl f_t_round_1)), (h_t_w, .inl (cA, 190, .inl f_t_w)), (h_t_ways, .inl (cA, 64, .inl f_t_ways_1))] → va_S A s.heap H locs → ∀ ls : Array Slot, lv_has ls 11 [(0, .ref h_t), (1, .int v1_5), (2, .int v2_5)] → (∀ (H : Heap) (locs : List Loc), va_P (dC, dI) vwCl [(h_t, .inr (10, [.ref h_t_w, .int f_t_known, .int f_t_kept, .int f_t_seed, .ref h_t_imageSeed, .ref h_t_bookOf, .ref h_t_bookIs, .int f_t_written, .ref h_t_forms, .int f_t_formRing, .int f_t_formMany, .ref h_t_best, .ref h_t_next, .ref h_t_ways, .ref h_t_round, .ref h_t_roughs, .int f_t_latest])), (h_t_best, .inl (cA, 4096, .inl f_t_best_1)), (h_t_next, .inl (cA, 4096, .inl f_t_next_1)), (h_t_round, .inl (cA, 2048, .inl f_t_round_2)), (h_t_w, .inl (cA, 190, .inl f_t_w)), (h_t_ways, .inl (cA, 64, .inl f_t_ways_1))] H → va_D A [(h_t, .inr (10, [.ref h_t_w, .int f_t_known, .int f_t_kept, .int f_t_seed, .ref h_t_imageSeed, .ref h_t_bookOf, .ref h_t_bookIs, .int f_t_written, .ref h_t_forms, .int f_t_formRing, .int f_t_formMany, .ref h_t_best, .ref h_t_next, .ref h_t_ways, .ref h_t_round, .ref h_t_roughs, .int f_t_latest])), (h_t_best, .inl (cA, 4096, .inl f_t_best_1)), (h_t_next, .inl (cA, 4096, .inl f_t_next_1)), (h_t_round, .inl (cA, 2048, .inl f_t_round_2)), (h_t_w, .inl (cA, 190, .inl f_t_w)), (h_t_ways, .inl (cA, 64, .inl f_t_ways_1))] → va_S A s.heap H locs → ∀ ls : Array Slot, lv_has ls 11 [(0, .ref h_t), (1, .int v1_5)] → W p l e (headSpec wsX11_roundNow rmX11_roundNow).room s m (([.ref h_t] : List Value).toArray) below meth c H locs 0 0 Q (F0 m 75 ls [])) → W p l e (headSpec wsX11_roundNow rmX11_roundNow).room s m (([.ref h_t] : List Value).toArray) below meth c H locs 0 0 Q (F0 m 54 ls []) := by
      clear hm hP hD hS hl
      intro n
      induction n with
      | zero => intro _ _ _ hm; exact nomatch (show none = some _ from hm)
      | succ n ih =>
        intro v2_5 f_t_round_1 f_t_round_2 hm H locs hP hD hS ls hl KK
        unfold m_Md_roundNow_L54 at hm
        refine lv_iload_n hx hb dX11_roundNow_54 rfl (lv_at hl 2 rfl) ?_
        refine lv_sipush (v := 2048) hx hb dX11_roundNow_55 (by decide) ?_
        refine lv_icmp_ge (tgt := 75) hx hb dX11_roundNow_58 (by decide) (fun c58 => ?_) (fun c58 => ?_)
        · replace hm := if_t c58 hm
          cases hm
          exact KK _ _ hP hD hS _ (lv_sub hl [0, 1] rfl)
        · replace hm := if_f c58 hm
          refine lv_aload_n hx hb dX11_roundNow_61 rfl (lv_at hl 0 rfl) ?_
          refine va_get (D := (dC, dI)) (ci := 10) (v := .ref h_t_round) (C := RX11) (T := TX11) (N := 17) hx hb hts uX11 hown hK hP 0 rfl rfl 14 (by decide) k2 (fun _ h9 => h9) rfl dX11_roundNow_62 ?_
          refine lv_iload_n hx hb dX11_roundNow_65 rfl (lv_at hl 2 rfl) ?_
          refine lv_ldc (v := 1000000) hx hb hown k3 dX11_roundNow_66 ?_
          obtain ⟨b68, hm⟩ := ck_go hm
          refine my_iast (W' := fun z' => [(h_t, .inr (10, [.ref h_t_w, .int f_t_known, .int f_t_kept, .int f_t_seed, .ref h_t_imageSeed, .ref h_t_bookOf, .ref h_t_bookIs, .int f_t_written, .ref h_t_forms, .int f_t_formRing, .int f_t_formMany, .ref h_t_best, .ref h_t_next, .ref h_t_ways, .ref h_t_round, .ref h_t_roughs, .int f_t_latest])), (h_t_best, .inl (cA, 4096, .inl f_t_best_1)), (h_t_next, .inl (cA, 4096, .inl f_t_next_1)), (h_t_round, .inl (cA, 2048, .inl z')), (h_t_w, .inl (cA, 190, .inl f_t_w)), (h_t_ways, .inl (cA, 64, .inl f_t_ways_1))]) hx hb hK hP hD hS 3 0 rfl rfl b68 dX11_roundNow_68 (fun _ => rfl) (fun f_t_round_3 ef_t_round_3 H locs hP hD hS => ?_)
          replace hm := lt_go ef_t_round_3 hm
          obtain ⟨v2_6, ev2_6⟩ : ∃ z : Int32, z = v2_5 + 1 := ⟨_, rfl⟩
          replace hm := lt_go ev2_6 hm
          refine lv_iinc (v := v2_6) (lv' := [(2, .int v2_6), (0, .ref h_t), (1, .int v1_5)]) hx hb dX11_roundNow_69 hl (k := 2) rfl (by rw [ev2_6]; rfl) (by decide) rfl (fun ls hl => ?_)
          refine lv_goto (tgt := 54) hx hb dX11_roundNow_72 (by decide) ?_
          exact ih _ _ _ hm _ _ hP hD hS _ (lv_sub hl [1, 2, 0] rfl) KK
    obtain ⟨f_t_round_4, hl54, hm⟩ := bd1_go hm
    refine L54 _ _ _ _ hl54 _ _ hP hD hS _ (lv_sub hl [1, 2, 0] rfl) (fun H locs hP hD hS ls hl => ?_)
    refine lv_iconst (v := 0) hx hb dX11_roundNow_75 (by decide) ?_
    refine lv_topi (fun v2_7 ev2_7 => ?_)
    replace hm := lt_go ev2_7 hm
    refine lv_istore_n (lv' := [(2, .int v2_7), (0, .ref h_t), (1, .int v1_5)]) hx hb dX11_roundNow_76 rfl hl (by decide) rfl (fun ls hl => ?_)
    have L77 : ∀ (n : Nat) (v2_8 : Int32) (v2_9 : Int32), m_Md_roundNow_L77 v1_5 n v2_8 = some v2_9 → ∀ (H : Heap) (locs : List Loc), va_P (dC, dI) vwCl [(h_t, .inr (10, [.ref h_t_w, .int f_t_known, .int f_t_kept, .int f_t_seed, .ref h_t_imageSeed, .ref h_t_bookOf, .ref h_t_bookIs, .int f_t_written, .ref h_t_forms, .int f_t_formRing, .int f_t_formMany, .ref h_t_best, .ref h_t_next, .ref h_t_ways, .ref h_t_round, .ref h_t_roughs, .int f_t_latest])), (h_t_best, .inl (cA, 4096, .inl f_t_best_1)), (h_t_next, .inl (cA, 4096, .inl f_t_next_1)), (h_t_round, .inl (cA, 2048, .inl f_t_round_4)), (h_t_w, .inl (cA, 190, .inl f_t_w)), (h_t_ways, .inl (cA, 64, .inl f_t_ways_1))] H → va_D A [(h_t, .inr (10, [.ref h_t_w, .int f_t_known, .int f_t_kept, .int f_t_seed, .ref h_t_imageSeed, .ref h_t_bookOf, .ref h_t_bookIs, .int f_t_written, .ref h_t_forms, .int f_t_formRing, .int f_t_formMany, .ref h_t_best, .ref h_t_next, .ref h_t_ways, .ref h_t_round, .ref h_t_roughs, .int f_t_latest])), (h_t_best, .inl (cA, 4096, .inl f_t_best_1)), (h_t_next, .inl (cA, 4096, .inl f_t_next_1)), (h_t_round, .inl (cA, 2048, .inl f_t_round_4)), (h_t_w, .inl (cA, 190, .inl f_t_w)), (h_t_ways, .inl (cA, 64, .inl f_t_ways_1))] → va_S A s.heap H locs → ∀ ls : Array Slot, lv_has ls 11 [(0, .ref h_t), (1, .int v1_5), (2, .int v2_8)] → (∀ (H : Heap) (locs : List Loc), va_P (dC, dI) vwCl [(h_t, .inr (10, [.ref h_t_w, .int f_t_known, .int f_t_kept, .int f_t_seed, .ref h_t_imageSeed, .ref h_t_bookOf, .ref h_t_bookIs, .int f_t_written, .ref h_t_forms, .int f_t_formRing, .int f_t_formMany, .ref h_t_best, .ref h_t_next, .ref h_t_ways, .ref h_t_round, .ref h_t_roughs, .int f_t_latest])), (h_t_best, .inl (cA, 4096, .inl f_t_best_1)), (h_t_next, .inl (cA, 4096, .inl f_t_next_1)), (h_t_round, .inl (cA, 2048, .inl f_t_round_4)), (h_t_w, .inl (cA, 190, .inl f_t_w)), (h_t_ways, .inl (cA, 64, .inl f_t_ways_1))] H → va_D A [(h_t, .inr (10, [.ref h_t_w, .int f_t_known, .int f_t_kept, .int f_t_seed, .ref h_t_imageSeed, .ref h_t_bookOf, .ref h_t_bookIs, .int f_t_written, .ref h_t_forms, .int f_t_formRing, .int f_t_formMany, .ref h_t_best, .ref h_t_next, .ref h_t_ways, .ref h_t_round, .ref h_t_roughs, .int f_t_latest])), (h_t_best, .inl (cA, 4096, .inl f_t_best_1)), (h_t_next, .inl (cA, 4096, .inl f_t_next_1)), (h_t_round, .inl (cA, 2048, .inl f_t_round_4)), (h_t_w, .inl (cA, 190, .inl f_t_w)), (h_t_ways, .inl (cA, 64, .inl f_t_ways_1))] → va_S A s.heap H locs → ∀ ls : Array Slot, lv_has ls 11 [(0, .ref h_t), (1, .int v1_5), (2, .int v2_9)] → W p l e (headSpec wsX11_roundNow rmX11_roundNow).room s m (([.ref h_t] : List Value).toArray) below meth c H locs 0 0 Q (F0 m 91 ls [])) → W p l e (headSpec wsX11_roundNow rmX11_roundNow).room s m (([.ref h_t] : List Value).toArray) below meth c H locs 0 0 Q (F0 m 77 ls []) := by
      clear hm hP hD hS hl
      intro n
      induction n with
      | zero => intro _ _ hm; exact nomatch (show none = some _ from hm)
      | succ n ih =>
        intro v2_8 v2_9 hm H locs hP hD hS ls hl KK
        unfold m_Md_roundNow_L77 at hm
        refine lv_iload_n hx hb dX11_roundNow_77 rfl (lv_at hl 1 rfl) ?_
        refine lv_iload_n hx hb dX11_roundNow_78 rfl (lv_at hl 2 rfl) ?_
        obtain ⟨r_1, hc79, hm⟩ := bd1_go hm
        refine my_cSi (As := [.int v1_5, .int v2_8]) (rest := []) (WC := []) (WC' := []) (WR := [(h_t, .inr (10, [.ref h_t_w, .int f_t_known, .int f_t_kept, .int f_t_seed, .ref h_t_imageSeed, .ref h_t_bookOf, .ref h_t_bookIs, .int f_t_written, .ref h_t_forms, .int f_t_formRing, .int f_t_formMany, .ref h_t_best, .ref h_t_next, .ref h_t_ways, .ref h_t_round, .ref h_t_roughs, .int f_t_latest])), (h_t_best, .inl (cA, 4096, .inl f_t_best_1)), (h_t_next, .inl (cA, 4096, .inl f_t_next_1)), (h_t_round, .inl (cA, 2048, .inl f_t_round_4)), (h_t_w, .inl (cA, 190, .inl f_t_w)), (h_t_ways, .inl (cA, 64, .inl f_t_ways_1))]) (W' := [(h_t, .inr (10, [.ref h_t_w, .int f_t_known, .int f_t_kept, .int f_t_seed, .ref h_t_imageSeed, .ref h_t_bookOf, .ref h_t_bookIs, .int f_t_written, .ref h_t_forms, .int f_t_formRing, .int f_t_formMany, .ref h_t_best, .ref h_t_next, .ref h_t_ways, .ref h_t_round, .ref h_t_roughs, .int f_t_latest])), (h_t_best, .inl (cA, 4096, .inl f_t_best_1)), (h_t_next, .inl (cA, 4096, .inl f_t_next_1)), (h_t_round, .inl (cA, 2048, .inl f_t_round_4)), (h_t_w, .inl (cA, 190, .inl f_t_w)), (h_t_ways, .inl (cA, 64, .inl f_t_ways_1))]) ⟨hx, hb, hml, hown, hts⟩ hK hP hD hS hA (c_Md_has l dC dI cA v1_5 v2_8 r_1 hc79) (va_cwS 2 hts gX11_roundNow_X11_has rfl rfl rfl (by decide +kernel) ⟨Nat.le_of_ble_eq_true rfl, Nat.le_of_ble_eq_true rfl⟩) [] [0, 1, 2, 3, 4, 5] [0, 1, 2, 3, 4, 5] rfl rfl rfl rfl rfl rfl hl.1 (Nat.le_of_ble_eq_true rfl) dX11_roundNow_79 ⟨Nat.zero_le _, Nat.zero_le _⟩ (fun H locs hP hD hS => ?_)
        refine lv_if_ne (tgt := 91) hx hb dX11_roundNow_82 (by decide) (fun c82 => ?_) (fun c82 => ?_)
        · replace hm := if_f c82 hm
          cases hm
          exact KK _ _ hP hD hS _ (lv_sub hl [0, 1, 2] rfl)
        · replace hm := if_t c82 hm
          obtain ⟨v2_10, ev2_10⟩ : ∃ z : Int32, z = v2_8 + 1 := ⟨_, rfl⟩
          replace hm := lt_go ev2_10 hm
          refine lv_iinc (v := v2_10) (lv' := [(2, .int v2_10), (0, .ref h_t), (1, .int v1_5)]) hx hb dX11_roundNow_85 hl (k := 2) rfl (by rw [ev2_10]; rfl) (by decide) rfl (fun ls hl => ?_)
          refine lv_goto (tgt := 77) hx hb dX11_roundNow_88 (by decide) ?_
          exact ih _ _ hm _ _ hP hD hS _ (lv_sub hl [1, 2, 0] rfl) KK
    obtain ⟨v2_11, hl77, hm⟩ := bd1_go hm
    refine L77 _ _ _ hl77 _ _ hP hD hS _ (lv_sub hl [1, 2, 0] rfl) (fun H locs hP hD hS ls hl => ?_)
    refine lv_aload_n hx hb dX11_roundNow_91 rfl (lv_at hl 0 rfl) ?_
    refine va_get (D := (dC, dI)) (ci := 10) (v := .ref h_t_round) (C := RX11) (T := TX11) (N := 17) hx hb hts uX11 hown hK hP 0 rfl rfl 14 (by decide) k2 (fun _ h9 => h9) rfl dX11_roundNow_92 ?_
    refine lv_bipush (v := 8) hx hb dX11_roundNow_95 (by decide) ?_
    refine lv_iconst (v := 1) hx hb dX11_roundNow_97 (by decide) ?_
    refine lv_iload_n hx hb dX11_roundNow_98 rfl (lv_at hl 2 rfl) ?_
    refine lv_ishl hx hb dX11_roundNow_99 ?_
    refine lv_imul hx hb dX11_roundNow_100 ?_
    refine lv_iload_n hx hb dX11_roundNow_101 rfl (lv_at hl 2 rfl) ?_
    refine lv_iadd hx hb dX11_roundNow_102 ?_
    refine lv_iconst (v := 0) hx hb dX11_roundNow_103 (by decide) ?_
    obtain ⟨b104, hm⟩ := ck_go hm
    refine my_iast (W' := fun z' => [(h_t, .inr (10, [.ref h_t_w, .int f_t_known, .int f_t_kept, .int f_t_seed, .ref h_t_imageSeed, .ref h_t_bookOf, .ref h_t_bookIs, .int f_t_written, .ref h_t_forms, .int f_t_formRing, .int f_t_formMany, .ref h_t_best, .ref h_t_next, .ref h_t_ways, .ref h_t_round, .ref h_t_roughs, .int f_t_latest])), (h_t_best, .inl (cA, 4096, .inl f_t_best_1)), (h_t_next, .inl (cA, 4096, .inl f_t_next_1)), (h_t_round, .inl (cA, 2048, .inl z')), (h_t_w, .inl (cA, 190, .inl f_t_w)), (h_t_ways, .inl (cA, 64, .inl f_t_ways_1))]) hx hb hK hP hD hS 3 0 rfl rfl b104 dX11_roundNow_104 (fun _ => rfl) (fun f_t_round_5 ef_t_round_5 H locs hP hD hS => ?_)
    replace hm := lt_go ef_t_round_5 hm
    refine lv_ldc (v := 1000000) hx hb hown k3 dX11_roundNow_105 ?_
    refine lv_topi (fun v3_1 ev3_1 => ?_)
    replace hm := lt_go ev3_1 hm
    refine lv_istore_n (lv' := [(3, .int v3_1), (0, .ref h_t), (1, .int v1_5), (2, .int v2_11)]) hx hb dX11_roundNow_107 rfl hl (by decide) rfl (fun ls hl => ?_)
    refine lv_iconst (v := 0) hx hb dX11_roundNow_108 (by decide) ?_
    refine lv_topi (fun v4_1 ev4_1 => ?_)
    replace hm := lt_go ev4_1 hm
    refine lv_istore (lv' := [(4, .int v4_1), (3, .int v3_1), (0, .ref h_t), (1, .int v1_5), (2, .int v2_11)]) hx hb dX11_roundNow_109 hl (by decide) rfl (fun ls hl => ?_)
    have L111 : ∀ (n : Nat) (v3_2 : Int32) (v4_2 : Int32) (f_t_round_6 : Nat → Int32) (v3_3 : Int32) (f_t_round_7 : Nat → Int32), m_Md_roundNow_L111 fu v1_5 f_t_w f_t_ways_1 n v3_2 v4_2 f_t_round_6 = some (v3_3, f_t_round_7) → ∀ (H : Heap) (locs : List Loc), va_P (dC, dI) vwCl [(h_t, .inr (10, [.ref h_t_w, .int f_t_known, .int f_t_kept, .int f_t_seed, .ref h_t_imageSeed, .ref h_t_bookOf, .ref h_t_bookIs, .int f_t_written, .ref h_t_forms, .int f_t_formRing, .int f_t_formMany, .ref h_t_best, .ref h_t_next, .ref h_t_ways, .ref h_t_round, .ref h_t_roughs, .int f_t_latest])), (h_t_best, .inl (cA, 4096, .inl f_t_best_1)), (h_t_next, .inl (cA, 4096, .inl f_t_next_1)), (h_t_round, .inl (cA, 2048, .inl f_t_round_6)), (h_t_w, .inl (cA, 190, .inl f_t_w)), (h_t_ways, .inl (cA, 64, .inl f_t_ways_1))] H → va_D A [(h_t, .inr (10, [.ref h_t_w, .int f_t_known, .int f_t_kept, .int f_t_seed, .ref h_t_imageSeed, .ref h_t_bookOf, .ref h_t_bookIs, .int f_t_written, .ref h_t_forms, .int f_t_formRing, .int f_t_formMany, .ref h_t_best, .ref h_t_next, .ref h_t_ways, .ref h_t_round, .ref h_t_roughs, .int f_t_latest])), (h_t_best, .inl (cA, 4096, .inl f_t_best_1)), (h_t_next, .inl (cA, 4096, .inl f_t_next_1)), (h_t_round, .inl (cA, 2048, .inl f_t_round_6)), (h_t_w, .inl (cA, 190, .inl f_t_w)), (h_t_ways, .inl (cA, 64, .inl f_t_ways_1))] → va_S A s.heap H locs → ∀ ls : Array Slot, lv_has ls 11 [(0, .ref h_t), (1, .int v1_5), (3, .int v3_2), (4, .int v4_2)] → (∀ (H : Heap) (locs : List Loc), va_P (dC, dI) vwCl [(h_t, .inr (10, [.ref h_t_w, .int f_t_known, .int f_t_kept, .int f_t_seed, .ref h_t_imageSeed, .ref h_t_bookOf, .ref h_t_bookIs, .int f_t_written, .ref h_t_forms, .int f_t_formRing, .int f_t_formMany, .ref h_t_best, .ref h_t_next, .ref h_t_ways, .ref h_t_round, .ref h_t_roughs, .int f_t_latest])), (h_t_best, .inl (cA, 4096, .inl f_t_best_1)), (h_t_next, .inl (cA, 4096, .inl f_t_next_1)), (h_t_round, .inl (cA, 2048, .inl f_t_round_7)), (h_t_w, .inl (cA, 190, .inl f_t_w)), (h_t_ways, .inl (cA, 64, .inl f_t_ways_1))] H → va_D A [(h_t, .inr (10, [.ref h_t_w, .int f_t_known, .int f_t_kept, .int f_t_seed, .ref h_t_imageSeed, .ref h_t_bookOf, .ref h_t_bookIs, .int f_t_written, .ref h_t_forms, .int f_t_formRing, .int f_t_formMany, .ref h_t_best, .ref h_t_next, .ref h_t_ways, .ref h_t_round, .ref h_t_roughs, .int f_t_latest])), (h_t_best, .inl (cA, 4096, .inl f_t_best_1)), (h_t_next, .inl (cA, 4096, .inl f_t_next_1)), (h_t_round, .inl (cA, 2048, .inl f_t_round_7)), (h_t_w, .inl (cA, 190, .inl f_t_w)), (h_t_ways, .inl (cA, 64, .inl f_t_ways_1))] → va_S A s.heap H locs → ∀ ls : Array Slot, lv_has ls 11 [(3, .int v3_3)] → W p l e (headSpec wsX11_roundNow rmX11_roundNow).room s m (([.ref h_t] : List Value).toArray) below meth c H locs 0 0 Q (F0 m 300 ls [])) → W p l e (headSpec wsX11_roundNow rmX11_roundNow).room s m (([.ref h_t] : List Value).toArray) below meth c H locs 0 0 Q (F0 m 111 ls []) := by
      clear hm hP hD hS hl
      intro n
      induction n with
      | zero => intro _ _ _ _ _ hm; exact nomatch (show none = some _ from hm)
      | succ n ih =>
        intro v3_2 v4_2 f_t_round_6 v3_3 f_t_round_7 hm H locs hP hD hS ls hl KK
        unfold m_Md_roundNow_L111 at hm
        refine lv_iload hx hb dX11_roundNow_111 (lv_at hl 3 rfl) ?_
        refine lv_sipush (v := 2048) hx hb dX11_roundNow_113 (by decide) ?_
        refine lv_icmp_ge (tgt := 300) hx hb dX11_roundNow_116 (by decide) (fun c116 => ?_) (fun c116 => ?_)
        · replace hm := if_t c116 hm
          cases hm
          exact KK _ _ hP hD hS _ (lv_sub hl [2] rfl)
        · replace hm := if_f c116 hm
          refine lv_iload hx hb dX11_roundNow_119 (lv_at hl 3 rfl) ?_
          refine lv_bipush (v := 8) hx hb dX11_roundNow_121 (by decide) ?_
          refine lv_idiv hx hb dX11_roundNow_123 (by decide) ?_
          refine lv_topi (fun v5_1 ev5_1 => ?_)
          replace hm := lt_go ev5_1 hm
          refine lv_istore (lv' := [(5, .int v5_1), (0, .ref h_t), (1, .int v1_5), (3, .int v3_2), (4, .int v4_2)]) hx hb dX11_roundNow_124 hl (by decide) rfl (fun ls hl => ?_)
          refine lv_iload hx hb dX11_roundNow_126 (lv_at hl 4 rfl) ?_
          refine lv_bipush (v := 8) hx hb dX11_roundNow_128 (by decide) ?_
          refine lv_irem hx hb dX11_roundNow_130 (by decide) ?_
          refine lv_topi (fun v6_1 ev6_1 => ?_)
          replace hm := lt_go ev6_1 hm
          refine lv_istore (lv' := [(6, .int v6_1), (5, .int v5_1), (0, .ref h_t), (1, .int v1_5), (3, .int v3_2), (4, .int v4_2)]) hx hb dX11_roundNow_131 hl (by decide) rfl (fun ls hl => ?_)
          refine lv_iload hx hb dX11_roundNow_133 (lv_at hl 1 rfl) ?_
          refine lv_iload_n hx hb dX11_roundNow_135 rfl (lv_at hl 3 rfl) ?_
          obtain ⟨q161_1, hqJ_2, hm⟩ := bd1_go hm
          have J_2 : ∀ (H : Heap) (locs : List Loc), va_P (dC, dI) vwCl [(h_t, .inr (10, [.ref h_t_w, .int f_t_known, .int f_t_kept, .int f_t_seed, .ref h_t_imageSeed, .ref h_t_bookOf, .ref h_t_bookIs, .int f_t_written, .ref h_t_forms, .int f_t_formRing, .int f_t_formMany, .ref h_t_best, .ref h_t_next, .ref h_t_ways, .ref h_t_round, .ref h_t_roughs, .int f_t_latest])), (h_t_best, .inl (cA, 4096, .inl f_t_best_1)), (h_t_next, .inl (cA, 4096, .inl f_t_next_1)), (h_t_round, .inl (cA, 2048, .inl f_t_round_6)), (h_t_w, .inl (cA, 190, .inl f_t_w)), (h_t_ways, .inl (cA, 64, .inl f_t_ways_1))] H → va_D A [(h_t, .inr (10, [.ref h_t_w, .int f_t_known, .int f_t_kept, .int f_t_seed, .ref h_t_imageSeed, .ref h_t_bookOf, .ref h_t_bookIs, .int f_t_written, .ref h_t_forms, .int f_t_formRing, .int f_t_formMany, .ref h_t_best, .ref h_t_next, .ref h_t_ways, .ref h_t_round, .ref h_t_roughs, .int f_t_latest])), (h_t_best, .inl (cA, 4096, .inl f_t_best_1)), (h_t_next, .inl (cA, 4096, .inl f_t_next_1)), (h_t_round, .inl (cA, 2048, .inl f_t_round_6)), (h_t_w, .inl (cA, 190, .inl f_t_w)), (h_t_ways, .inl (cA, 64, .inl f_t_ways_1))] → va_S A s.heap H locs → ∀ ls : Array Slot, lv_has ls 11 [(0, .ref h_t), (1, .int v1_5), (4, .int v4_2), (5, .int v5_1), (6, .int v6_1)] → W p l e (headSpec wsX11_roundNow rmX11_roundNow).room s m (([.ref h_t] : List Value).toArray) below meth c H locs 0 0 Q (F0 m 161 ls [.int q161_1]) := by
            intro H locs hP hD hS ls hl
            clear hqJ_2
            refine lv_topi (fun v3_4 ev3_4 => ?_)
            replace hm := lt_go ev3_4 hm
            refine lv_istore_n (lv' := [(3, .int v3_4), (0, .ref h_t), (1, .int v1_5), (4, .int v4_2), (5, .int v5_1), (6, .int v6_1)]) hx hb dX11_roundNow_161 rfl hl (by decide) rfl (fun ls hl => ?_)
            refine lv_iconst (v := 0) hx hb dX11_roundNow_162 (by decide) ?_
            refine lv_topi (fun v7_1 ev7_1 => ?_)
            replace hm := lt_go ev7_1 hm
            refine lv_istore (lv' := [(7, .int v7_1), (3, .int v3_4), (0, .ref h_t), (1, .int v1_5), (4, .int v4_2), (5, .int v5_1), (6, .int v6_1)]) hx hb dX11_roundNow_163 hl (by decide) rfl (fun ls hl => ?_)
            have L165 : ∀ (n : Nat) (v7_2 : Int32) (f_t_round_8 : Nat → Int32) (f_t_round_9 : Nat → Int32), m_Md_roundNow_L165 f_t_w v4_2 v5_1 v6_1 f_t_ways_1 v1_5 n v7_2 f_t_round_8 = some f_t_round_9 → ∀ (H : Heap) (locs : List Loc), va_P (dC, dI) vwCl [(h_t, .inr (10, [.ref h_t_w, .int f_t_known, .int f_t_kept, .int f_t_seed, .ref h_t_imageSeed, .ref h_t_bookOf, .ref h_t_bookIs, .int f_t_written, .ref h_t_forms, .int f_t_formRing, .int f_t_formMany, .ref h_t_best, .ref h_t_next, .ref h_t_ways, .ref h_t_round, .ref h_t_roughs, .int f_t_latest])), (h_t_best, .inl (cA, 4096, .inl f_t_best_1)), (h_t_next, .inl (cA, 4096, .inl f_t_next_1)), (h_t_round, .inl (cA, 2048, .inl f_t_round_8)), (h_t_w, .inl (cA, 190, .inl f_t_w)), (h_t_ways, .inl (cA, 64, .inl f_t_ways_1))] H → va_D A [(h_t, .inr (10, [.ref h_t_w, .int f_t_known, .int f_t_kept, .int f_t_seed, .ref h_t_imageSeed, .ref h_t_bookOf, .ref h_t_bookIs, .int f_t_written, .ref h_t_forms, .int f_t_formRing, .int f_t_formMany, .ref h_t_best, .ref h_t_next, .ref h_t_ways, .ref h_t_round, .ref h_t_roughs, .int f_t_latest])), (h_t_best, .inl (cA, 4096, .inl f_t_best_1)), (h_t_next, .inl (cA, 4096, .inl f_t_next_1)), (h_t_round, .inl (cA, 2048, .inl f_t_round_8)), (h_t_w, .inl (cA, 190, .inl f_t_w)), (h_t_ways, .inl (cA, 64, .inl f_t_ways_1))] → va_S A s.heap H locs → ∀ ls : Array Slot, lv_has ls 11 [(0, .ref h_t), (1, .int v1_5), (3, .int v3_4), (4, .int v4_2), (5, .int v5_1), (6, .int v6_1), (7, .int v7_2)] → (∀ (H : Heap) (locs : List Loc), va_P (dC, dI) vwCl [(h_t, .inr (10, [.ref h_t_w, .int f_t_known, .int f_t_kept, .int f_t_seed, .ref h_t_imageSeed, .ref h_t_bookOf, .ref h_t_bookIs, .int f_t_written, .ref h_t_forms, .int f_t_formRing, .int f_t_formMany, .ref h_t_best, .ref h_t_next, .ref h_t_ways, .ref h_t_round, .ref h_t_roughs, .int f_t_latest])), (h_t_best, .inl (cA, 4096, .inl f_t_best_1)), (h_t_next, .inl (cA, 4096, .inl f_t_next_1)), (h_t_round, .inl (cA, 2048, .inl f_t_round_9)), (h_t_w, .inl (cA, 190, .inl f_t_w)), (h_t_ways, .inl (cA, 64, .inl f_t_ways_1))] H → va_D A [(h_t, .inr (10, [.ref h_t_w, .int f_t_known, .int f_t_kept, .int f_t_seed, .ref h_t_imageSeed, .ref h_t_bookOf, .ref h_t_bookIs, .int f_t_written, .ref h_t_forms, .int f_t_formRing, .int f_t_formMany, .ref h_t_best, .ref h_t_next, .ref h_t_ways, .ref h_t_round, .ref h_t_roughs, .int f_t_latest])), (h_t_best, .inl (cA, 4096, .inl f_t_best_1)), (h_t_next, .inl (cA, 4096, .inl f_t_next_1)), (h_t_round, .inl (cA, 2048, .inl f_t_round_9)), (h_t_w, .inl (cA, 190, .inl f_t_w)), (h_t_ways, .inl (cA, 64, .inl f_t_ways_1))] → va_S A s.heap H locs → ∀ ls : Array Slot, lv_has ls 11 [(0, .ref h_t), (1, .int v1_5), (3, .int v3_4), (4, .int v4_2)] → W p l e (headSpec wsX11_roundNow rmX11_roundNow).room s m (([.ref h_t] : List Value).toArray) below meth c H locs 0 0 Q (F0 m 294 ls [])) → W p l e (headSpec wsX11_roundNow rmX11_roundNow).room s m (([.ref h_t] : List Value).toArray) below meth c H locs 0 0 Q (F0 m 165 ls []) := by
              clear hm hP hD hS hl
              intro n
              induction n with
              | zero => intro _ _ _ hm; exact nomatch (show none = some _ from hm)
              | succ n ih =>
                intro v7_2 f_t_round_8 f_t_round_9 hm H locs hP hD hS ls hl KK
                unfold m_Md_roundNow_L165 at hm
                refine lv_iload hx hb dX11_roundNow_165 (lv_at hl 6 rfl) ?_
                refine lv_aload_n hx hb dX11_roundNow_167 rfl (lv_at hl 0 rfl) ?_
                refine va_get (D := (dC, dI)) (ci := 10) (v := .ref h_t_w) (C := RX11) (T := TX11) (N := 17) hx hb hts uX11 hown hK hP 0 rfl rfl 0 (by decide) k1 (fun _ h9 => h9) rfl dX11_roundNow_168 ?_
                refine lv_iconst (v := 1) hx hb dX11_roundNow_171 (by decide) ?_
                obtain ⟨b172, hm⟩ := ck_go hm
                refine va_iald hx hb hK hP 4 0 rfl rfl b172 dX11_roundNow_172 ?_
                refine lv_icmp_ge (tgt := 294) hx hb dX11_roundNow_173 (by decide) (fun c173 => ?_) (fun c173 => ?_)
                · replace hm := if_t c173 hm
                  cases hm
                  exact KK _ _ hP hD hS _ (lv_sub hl [0, 1, 2, 3] rfl)
                · replace hm := if_f c173 hm
                  refine lv_aload_n hx hb dX11_roundNow_176 rfl (lv_at hl 0 rfl) ?_
                  refine va_get (D := (dC, dI)) (ci := 10) (v := .ref h_t_round) (C := RX11) (T := TX11) (N := 17) hx hb hts uX11 hown hK hP 0 rfl rfl 14 (by decide) k2 (fun _ h9 => h9) rfl dX11_roundNow_177 ?_
                  refine lv_iload hx hb dX11_roundNow_180 (lv_at hl 3 rfl) ?_
                  obtain ⟨b182, hm⟩ := ck_go hm
                  refine va_iald hx hb hK hP 3 0 rfl rfl b182 dX11_roundNow_182 ?_
                  refine lv_ldc (v := 1000000) hx hb hown k3 dX11_roundNow_183 ?_
                  refine lv_icmp_ge (tgt := 294) hx hb dX11_roundNow_185 (by decide) (fun c185 => ?_) (fun c185 => ?_)
                  · replace hm := if_t c185 hm
                    cases hm
                    exact KK _ _ hP hD hS _ (lv_sub hl [0, 1, 2, 3] rfl)
                  · replace hm := if_f c185 hm
                    refine lv_bipush (v := 8) hx hb dX11_roundNow_188 (by decide) ?_
                    refine lv_iload hx hb dX11_roundNow_190 (lv_at hl 4 rfl) ?_
                    refine lv_iconst (v := 1) hx hb dX11_roundNow_192 (by decide) ?_
                    refine lv_iload hx hb dX11_roundNow_193 (lv_at hl 6 rfl) ?_
                    refine lv_ishl hx hb dX11_roundNow_195 ?_
                    refine lv_ior hx hb dX11_roundNow_196 ?_
                    refine lv_imul hx hb dX11_roundNow_197 ?_
                    refine lv_iload hx hb dX11_roundNow_198 (lv_at hl 6 rfl) ?_
                    refine lv_iadd hx hb dX11_roundNow_200 ?_
                    refine lv_topi (fun v8_1 ev8_1 => ?_)
                    replace hm := lt_go ev8_1 hm
                    refine lv_istore (lv' := [(8, .int v8_1), (0, .ref h_t), (1, .int v1_5), (3, .int v3_4), (4, .int v4_2), (5, .int v5_1), (6, .int v6_1), (7, .int v7_2)]) hx hb dX11_roundNow_201 hl (by decide) rfl (fun ls hl => ?_)
                    refine lv_aload_n hx hb dX11_roundNow_203 rfl (lv_at hl 1 rfl) ?_
                    refine va_get (D := (dC, dI)) (ci := 10) (v := .ref h_t_round) (C := RX11) (T := TX11) (N := 17) hx hb hts uX11 hown hK hP 0 rfl rfl 14 (by decide) k2 (fun _ h9 => h9) rfl dX11_roundNow_204 ?_
                    refine lv_iload hx hb dX11_roundNow_207 (lv_at hl 4 rfl) ?_
                    obtain ⟨b209, hm⟩ := ck_go hm
                    refine va_iald hx hb hK hP 3 0 rfl rfl b209 dX11_roundNow_209 ?_
                    refine lv_aload_n hx hb dX11_roundNow_210 rfl (lv_at hl 1 rfl) ?_
                    refine va_get (D := (dC, dI)) (ci := 10) (v := .ref h_t_ways) (C := RX11) (T := TX11) (N := 17) hx hb hts uX11 hown hK hP 0 rfl rfl 13 (by decide) k4 (fun _ h9 => h9) rfl dX11_roundNow_211 ?_
                    refine lv_bipush (v := 8) hx hb dX11_roundNow_214 (by decide) ?_
                    refine lv_iload hx hb dX11_roundNow_216 (lv_at hl 6 rfl) ?_
                    refine lv_imul hx hb dX11_roundNow_218 ?_
                    refine lv_iload hx hb dX11_roundNow_219 (lv_at hl 7 rfl) ?_
                    refine lv_iadd hx hb dX11_roundNow_221 ?_
                    obtain ⟨b222, hm⟩ := ck_go hm
                    refine va_iald hx hb hK hP 5 0 rfl rfl b222 dX11_roundNow_222 ?_
                    refine lv_iadd hx hb dX11_roundNow_223 ?_
                    refine lv_topi (fun v9_1 ev9_1 => ?_)
                    replace hm := lt_go ev9_1 hm
                    refine lv_istore (lv' := [(9, .int v9_1), (8, .int v8_1), (0, .ref h_t), (1, .int v1_5), (3, .int v3_4), (4, .int v4_2), (5, .int v5_1), (6, .int v6_1), (7, .int v7_2)]) hx hb dX11_roundNow_224 hl (by decide) rfl (fun ls hl => ?_)
                    refine lv_iload_n hx hb dX11_roundNow_226 rfl (lv_at hl 3 rfl) ?_
                    refine lv_iload hx hb dX11_roundNow_227 (lv_at hl 8 rfl) ?_
                    obtain ⟨r_2, hc229, hm⟩ := bd1_go hm
                    refine my_cSi (As := [.int v1_5, .int v7_2]) (rest := []) (WC := []) (WC' := []) (WR := [(h_t, .inr (10, [.ref h_t_w, .int f_t_known, .int f_t_kept, .int f_t_seed, .ref h_t_imageSeed, .ref h_t_bookOf, .ref h_t_bookIs, .int f_t_written, .ref h_t_forms, .int f_t_formRing, .int f_t_formMany, .ref h_t_best, .ref h_t_next, .ref h_t_ways, .ref h_t_round, .ref h_t_roughs, .int f_t_latest])), (h_t_best, .inl (cA, 4096, .inl f_t_best_1)), (h_t_next, .inl (cA, 4096, .inl f_t_next_1)), (h_t_round, .inl (cA, 2048, .inl f_t_round_8)), (h_t_w, .inl (cA, 190, .inl f_t_w)), (h_t_ways, .inl (cA, 64, .inl f_t_ways_1))]) (W' := [(h_t, .inr (10, [.ref h_t_w, .int f_t_known, .int f_t_kept, .int f_t_seed, .ref h_t_imageSeed, .ref h_t_bookOf, .ref h_t_bookIs, .int f_t_written, .ref h_t_forms, .int f_t_formRing, .int f_t_formMany, .ref h_t_best, .ref h_t_next, .ref h_t_ways, .ref h_t_round, .ref h_t_roughs, .int f_t_latest])), (h_t_best, .inl (cA, 4096, .inl f_t_best_1)), (h_t_next, .inl (cA, 4096, .inl f_t_next_1)), (h_t_round, .inl (cA, 2048, .inl f_t_round_8)), (h_t_w, .inl (cA, 190, .inl f_t_w)), (h_t_ways, .inl (cA, 64, .inl f_t_ways_1))]) ⟨hx, hb, hml, hown, hts⟩ hK hP hD hS hA (c_Md_has l dC dI cA v1_5 v7_2 r_2 hc229) (va_cwS 2 hts gX11_roundNow_X11_has rfl rfl rfl (by decide +kernel) ⟨Nat.le_of_ble_eq_true rfl, Nat.le_of_ble_eq_true rfl⟩) [] [0, 1, 2, 3, 4, 5] [0, 1, 2, 3, 4, 5] rfl rfl rfl rfl rfl rfl hl.1 (Nat.le_of_ble_eq_true rfl) dX11_roundNow_229 ⟨Nat.zero_le _, Nat.zero_le _⟩ (fun H locs hP hD hS => ?_)
                    obtain ⟨q262_1, hqJ_3, hm⟩ := bd1_go hm
                    have J_3 : ∀ (H : Heap) (locs : List Loc), va_P (dC, dI) vwCl [(h_t, .inr (10, [.ref h_t_w, .int f_t_known, .int f_t_kept, .int f_t_seed, .ref h_t_imageSeed, .ref h_t_bookOf, .ref h_t_bookIs, .int f_t_written, .ref h_t_forms, .int f_t_formRing, .int f_t_formMany, .ref h_t_best, .ref h_t_next, .ref h_t_ways, .ref h_t_round, .ref h_t_roughs, .int f_t_latest])), (h_t_best, .inl (cA, 4096, .inl f_t_best_1)), (h_t_next, .inl (cA, 4096, .inl f_t_next_1)), (h_t_round, .inl (cA, 2048, .inl f_t_round_8)), (h_t_w, .inl (cA, 190, .inl f_t_w)), (h_t_ways, .inl (cA, 64, .inl f_t_ways_1))] H → va_D A [(h_t, .inr (10, [.ref h_t_w, .int f_t_known, .int f_t_kept, .int f_t_seed, .ref h_t_imageSeed, .ref h_t_bookOf, .ref h_t_bookIs, .int f_t_written, .ref h_t_forms, .int f_t_formRing, .int f_t_formMany, .ref h_t_best, .ref h_t_next, .ref h_t_ways, .ref h_t_round, .ref h_t_roughs, .int f_t_latest])), (h_t_best, .inl (cA, 4096, .inl f_t_best_1)), (h_t_next, .inl (cA, 4096, .inl f_t_next_1)), (h_t_round, .inl (cA, 2048, .inl f_t_round_8)), (h_t_w, .inl (cA, 190, .inl f_t_w)), (h_t_ways, .inl (cA, 64, .inl f_t_ways_1))] → va_S A s.heap H locs → ∀ ls : Array Slot, lv_has ls 11 [(0, .ref h_t), (1, .int v1_5), (3, .int v3_4), (4, .int v4_2), (5, .int v5_1), (6, .int v6_1), (7, .int v7_2), (8, .int v8_1), (9, .int v9_1)] → W p l e (headSpec wsX11_roundNow rmX11_roundNow).room s m (([.ref h_t] : List Value).toArray) below meth c H locs 0 0 Q (F0 m 262 ls [.int q262_1]) := by
                      intro H locs hP hD hS ls hl
                      clear hqJ_3
                      refine lv_topi (fun v10_1 ev10_1 => ?_)
                      replace hm := lt_go ev10_1 hm
                      refine lv_istore (lv' := [(10, .int v10_1), (0, .ref h_t), (1, .int v1_5), (3, .int v3_4), (4, .int v4_2), (5, .int v5_1), (6, .int v6_1), (7, .int v7_2), (8, .int v8_1), (9, .int v9_1)]) hx hb dX11_roundNow_262 hl (by decide) rfl (fun ls hl => ?_)
                      refine lv_aload_n hx hb dX11_roundNow_264 rfl (lv_at hl 1 rfl) ?_
                      refine va_get (D := (dC, dI)) (ci := 10) (v := .ref h_t_round) (C := RX11) (T := TX11) (N := 17) hx hb hts uX11 hown hK hP 0 rfl rfl 14 (by decide) k2 (fun _ h9 => h9) rfl dX11_roundNow_265 ?_
                      refine lv_iload hx hb dX11_roundNow_268 (lv_at hl 8 rfl) ?_
                      refine lv_iload hx hb dX11_roundNow_270 (lv_at hl 0 rfl) ?_
                      obtain ⟨q287_1, hqJ_4, hm⟩ := bd1_go hm
                      have J_4 : ∀ (H : Heap) (locs : List Loc), va_P (dC, dI) vwCl [(h_t, .inr (10, [.ref h_t_w, .int f_t_known, .int f_t_kept, .int f_t_seed, .ref h_t_imageSeed, .ref h_t_bookOf, .ref h_t_bookIs, .int f_t_written, .ref h_t_forms, .int f_t_formRing, .int f_t_formMany, .ref h_t_best, .ref h_t_next, .ref h_t_ways, .ref h_t_round, .ref h_t_roughs, .int f_t_latest])), (h_t_best, .inl (cA, 4096, .inl f_t_best_1)), (h_t_next, .inl (cA, 4096, .inl f_t_next_1)), (h_t_round, .inl (cA, 2048, .inl f_t_round_8)), (h_t_w, .inl (cA, 190, .inl f_t_w)), (h_t_ways, .inl (cA, 64, .inl f_t_ways_1))] H → va_D A [(h_t, .inr (10, [.ref h_t_w, .int f_t_known, .int f_t_kept, .int f_t_seed, .ref h_t_imageSeed, .ref h_t_bookOf, .ref h_t_bookIs, .int f_t_written, .ref h_t_forms, .int f_t_formRing, .int f_t_formMany, .ref h_t_best, .ref h_t_next, .ref h_t_ways, .ref h_t_round, .ref h_t_roughs, .int f_t_latest])), (h_t_best, .inl (cA, 4096, .inl f_t_best_1)), (h_t_next, .inl (cA, 4096, .inl f_t_next_1)), (h_t_round, .inl (cA, 2048, .inl f_t_round_8)), (h_t_w, .inl (cA, 190, .inl f_t_w)), (h_t_ways, .inl (cA, 64, .inl f_t_ways_1))] → va_S A s.heap H locs → ∀ ls : Array Slot, lv_has ls 11 [(0, .ref h_t), (1, .int v1_5), (3, .int v3_4), (4, .int v4_2), (5, .int v5_1), (6, .int v6_1), (7, .int v7_2)] → W p l e (headSpec wsX11_roundNow rmX11_roundNow).room s m (([.ref h_t] : List Value).toArray) below meth c H locs 0 0 Q (F0 m 287 ls [.int q287_1, .int v8_1, .ref h_t_round]) := by
                        intro H locs hP hD hS ls hl
                        clear hqJ_4
                        obtain ⟨b287, hm⟩ := ck_go hm
                        refine my_iast (W' := fun z' => [(h_t, .inr (10, [.ref h_t_w, .int f_t_known, .int f_t_kept, .int f_t_seed, .ref h_t_imageSeed, .ref h_t_bookOf, .ref h_t_bookIs, .int f_t_written, .ref h_t_forms, .int f_t_formRing, .int f_t_formMany, .ref h_t_best, .ref h_t_next, .ref h_t_ways, .ref h_t_round, .ref h_t_roughs, .int f_t_latest])), (h_t_best, .inl (cA, 4096, .inl f_t_best_1)), (h_t_next, .inl (cA, 4096, .inl f_t_next_1)), (h_t_round, .inl (cA, 2048, .inl z')), (h_t_w, .inl (cA, 190, .inl f_t_w)), (h_t_ways, .inl (cA, 64, .inl f_t_ways_1))]) hx hb hK hP hD hS 3 0 rfl rfl b287 dX11_roundNow_287 (fun _ => rfl) (fun f_t_round_10 ef_t_round_10 H locs hP hD hS => ?_)
                        replace hm := lt_go ef_t_round_10 hm
                        obtain ⟨v7_3, ev7_3⟩ : ∃ z : Int32, z = v7_2 + 1 := ⟨_, rfl⟩
                        replace hm := lt_go ev7_3 hm
                        refine lv_iinc (v := v7_3) (lv' := [(7, .int v7_3), (0, .ref h_t), (1, .int v1_5), (3, .int v3_4), (4, .int v4_2), (5, .int v5_1), (6, .int v6_1)]) hx hb dX11_roundNow_288 hl (k := 6) rfl (by rw [ev7_3]; rfl) (by decide) rfl (fun ls hl => ?_)
                        refine lv_goto (tgt := 165) hx hb dX11_roundNow_291 (by decide) ?_
                        exact ih _ _ _ hm _ _ hP hD hS _ (lv_sub hl [1, 2, 3, 4, 5, 6, 0] rfl) KK
                      clear hm
                      refine lv_if_eq (tgt := 280) hx hb dX11_roundNow_272 (by decide) (fun c272 => ?_) (fun c272 => ?_)
                      · replace hqJ_4 := if_t c272 hqJ_4
                        refine lv_aload_n hx hb dX11_roundNow_280 rfl (lv_at hl 1 rfl) ?_
                        refine va_get (D := (dC, dI)) (ci := 10) (v := .ref h_t_round) (C := RX11) (T := TX11) (N := 17) hx hb hts uX11 hown hK hP 0 rfl rfl 14 (by decide) k2 (fun _ h9 => h9) rfl dX11_roundNow_281 ?_
                        refine lv_iload hx hb dX11_roundNow_284 (lv_at hl 8 rfl) ?_
                        obtain ⟨b286, hqJ_4⟩ := ck_go hqJ_4
                        refine va_iald hx hb hK hP 3 0 rfl rfl b286 dX11_roundNow_286 ?_
                        cases hqJ_4
                        exact J_4 _ _ hP hD hS _ (lv_sub hl [1, 2, 3, 4, 5, 6, 7] rfl)
                      · replace hqJ_4 := if_f c272 hqJ_4
                        refine lv_iload hx hb dX11_roundNow_275 (lv_at hl 9 rfl) ?_
                        refine lv_goto (tgt := 287) hx hb dX11_roundNow_277 (by decide) ?_
                        cases hqJ_4
                        exact J_4 _ _ hP hD hS _ (lv_sub hl [1, 2, 3, 4, 5, 6, 7] rfl)
                    clear hm
                    refine lv_if_eq (tgt := 261) hx hb dX11_roundNow_232 (by decide) (fun c232 => ?_) (fun c232 => ?_)
                    · replace hqJ_3 := if_t c232 hqJ_3
                      refine lv_iconst (v := 0) hx hb dX11_roundNow_261 (by decide) ?_
                      cases hqJ_3
                      exact J_3 _ _ hP hD hS _ (lv_sub hl [2, 3, 4, 5, 6, 7, 8, 1, 0] rfl)
                    · replace hqJ_3 := if_f c232 hqJ_3
                      refine lv_iload hx hb dX11_roundNow_235 (lv_at hl 6 rfl) ?_
                      refine lv_iload hx hb dX11_roundNow_237 (lv_at hl 8 rfl) ?_
                      obtain ⟨r_3, hc239, hqJ_3⟩ := bd1_go hqJ_3
                      refine my_cSi (As := [.int v5_1, .int v7_2]) (rest := []) (WC := []) (WC' := []) (WR := [(h_t, .inr (10, [.ref h_t_w, .int f_t_known, .int f_t_kept, .int f_t_seed, .ref h_t_imageSeed, .ref h_t_bookOf, .ref h_t_bookIs, .int f_t_written, .ref h_t_forms, .int f_t_formRing, .int f_t_formMany, .ref h_t_best, .ref h_t_next, .ref h_t_ways, .ref h_t_round, .ref h_t_roughs, .int f_t_latest])), (h_t_best, .inl (cA, 4096, .inl f_t_best_1)), (h_t_next, .inl (cA, 4096, .inl f_t_next_1)), (h_t_round, .inl (cA, 2048, .inl f_t_round_8)), (h_t_w, .inl (cA, 190, .inl f_t_w)), (h_t_ways, .inl (cA, 64, .inl f_t_ways_1))]) (W' := [(h_t, .inr (10, [.ref h_t_w, .int f_t_known, .int f_t_kept, .int f_t_seed, .ref h_t_imageSeed, .ref h_t_bookOf, .ref h_t_bookIs, .int f_t_written, .ref h_t_forms, .int f_t_formRing, .int f_t_formMany, .ref h_t_best, .ref h_t_next, .ref h_t_ways, .ref h_t_round, .ref h_t_roughs, .int f_t_latest])), (h_t_best, .inl (cA, 4096, .inl f_t_best_1)), (h_t_next, .inl (cA, 4096, .inl f_t_next_1)), (h_t_round, .inl (cA, 2048, .inl f_t_round_8)), (h_t_w, .inl (cA, 190, .inl f_t_w)), (h_t_ways, .inl (cA, 64, .inl f_t_ways_1))]) ⟨hx, hb, hml, hown, hts⟩ hK hP hD hS hA (c_Md_has l dC dI cA v5_1 v7_2 r_3 hc239) (va_cwS 2 hts gX11_roundNow_X11_has rfl rfl rfl (by decide +kernel) ⟨Nat.le_of_ble_eq_true rfl, Nat.le_of_ble_eq_true rfl⟩) [] [0, 1, 2, 3, 4, 5] [0, 1, 2, 3, 4, 5] rfl rfl rfl rfl rfl rfl hl.1 (Nat.le_of_ble_eq_true rfl) dX11_roundNow_239 ⟨Nat.zero_le _, Nat.zero_le _⟩ (fun H locs hP hD hS => ?_)
                      refine lv_if_ne (tgt := 261) hx hb dX11_roundNow_242 (by decide) (fun c242 => ?_) (fun c242 => ?_)
                      · replace hqJ_3 := if_f c242 hqJ_3
                        refine lv_iconst (v := 0) hx hb dX11_roundNow_261 (by decide) ?_
                        cases hqJ_3
                        exact J_3 _ _ hP hD hS _ (lv_sub hl [2, 3, 4, 5, 6, 7, 8, 1, 0] rfl)
                      · replace hqJ_3 := if_t c242 hqJ_3
                        refine lv_iload hx hb dX11_roundNow_245 (lv_at hl 0 rfl) ?_
                        refine lv_aload_n hx hb dX11_roundNow_247 rfl (lv_at hl 2 rfl) ?_
                        refine va_get (D := (dC, dI)) (ci := 10) (v := .ref h_t_round) (C := RX11) (T := TX11) (N := 17) hx hb hts uX11 hown hK hP 0 rfl rfl 14 (by decide) k2 (fun _ h9 => h9) rfl dX11_roundNow_248 ?_
                        refine lv_iload hx hb dX11_roundNow_251 (lv_at hl 1 rfl) ?_
                        obtain ⟨b253, hqJ_3⟩ := ck_go hqJ_3
                        refine va_iald hx hb hK hP 3 0 rfl rfl b253 dX11_roundNow_253 ?_
                        refine lv_icmp_ge (tgt := 261) hx hb dX11_roundNow_254 (by decide) (fun c254 => ?_) (fun c254 => ?_)
                        · replace hqJ_3 := if_t c254 hqJ_3
                          refine lv_iconst (v := 0) hx hb dX11_roundNow_261 (by decide) ?_
                          cases hqJ_3
                          exact J_3 _ _ hP hD hS _ (lv_sub hl [2, 3, 4, 5, 6, 7, 8, 1, 0] rfl)
                        · replace hqJ_3 := if_f c254 hqJ_3
                          refine lv_iconst (v := 1) hx hb dX11_roundNow_257 (by decide) ?_
                          refine lv_goto (tgt := 262) hx hb dX11_roundNow_258 (by decide) ?_
                          cases hqJ_3
                          exact J_3 _ _ hP hD hS _ (lv_sub hl [2, 3, 4, 5, 6, 7, 8, 1, 0] rfl)
            obtain ⟨f_t_round_11, hl165, hm⟩ := bd1_go hm
            refine L165 _ _ _ _ hl165 _ _ hP hD hS _ (lv_sub hl [2, 3, 1, 4, 5, 6, 0] rfl) (fun H locs hP hD hS ls hl => ?_)
            obtain ⟨v4_3, ev4_3⟩ : ∃ z : Int32, z = v4_2 + 1 := ⟨_, rfl⟩
            replace hm := lt_go ev4_3 hm
            refine lv_iinc (v := v4_3) (lv' := [(4, .int v4_3), (0, .ref h_t), (1, .int v1_5), (3, .int v3_4)]) hx hb dX11_roundNow_294 hl (k := 3) rfl (by rw [ev4_3]; rfl) (by decide) rfl (fun ls hl => ?_)
            refine lv_goto (tgt := 111) hx hb dX11_roundNow_297 (by decide) ?_
            exact ih _ _ _ _ _ hm _ _ hP hD hS _ (lv_sub hl [1, 2, 3, 0] rfl) KK
          clear hm
          refine lv_icmp_ne (tgt := 160) hx hb dX11_roundNow_136 (by decide) (fun c136 => ?_) (fun c136 => ?_)
          · replace hqJ_2 := if_f c136 hqJ_2
            refine lv_iload_n hx hb dX11_roundNow_160 rfl (lv_at hl 4 rfl) ?_
            cases hqJ_2
            exact J_2 _ _ hP hD hS _ (lv_sub hl [2, 3, 5, 1, 0] rfl)
          · replace hqJ_2 := if_t c136 hqJ_2
            refine lv_aload_n hx hb dX11_roundNow_139 rfl (lv_at hl 2 rfl) ?_
            refine va_get (D := (dC, dI)) (ci := 10) (v := .ref h_t_round) (C := RX11) (T := TX11) (N := 17) hx hb hts uX11 hown hK hP 0 rfl rfl 14 (by decide) k2 (fun _ h9 => h9) rfl dX11_roundNow_140 ?_
            refine lv_iload hx hb dX11_roundNow_143 (lv_at hl 5 rfl) ?_
            obtain ⟨b145, hqJ_2⟩ := ck_go hqJ_2
            refine va_iald hx hb hK hP 3 0 rfl rfl b145 dX11_roundNow_145 ?_
            refine lv_iload_n hx hb dX11_roundNow_146 rfl (lv_at hl 4 rfl) ?_
            refine lv_icmp_ge (tgt := 160) hx hb dX11_roundNow_147 (by decide) (fun c147 => ?_) (fun c147 => ?_)
            · replace hqJ_2 := if_t c147 hqJ_2
              refine lv_iload_n hx hb dX11_roundNow_160 rfl (lv_at hl 4 rfl) ?_
              cases hqJ_2
              exact J_2 _ _ hP hD hS _ (lv_sub hl [2, 3, 5, 1, 0] rfl)
            · replace hqJ_2 := if_f c147 hqJ_2
              refine lv_aload_n hx hb dX11_roundNow_150 rfl (lv_at hl 2 rfl) ?_
              refine va_get (D := (dC, dI)) (ci := 10) (v := .ref h_t_round) (C := RX11) (T := TX11) (N := 17) hx hb hts uX11 hown hK hP 0 rfl rfl 14 (by decide) k2 (fun _ h9 => h9) rfl dX11_roundNow_151 ?_
              refine lv_iload hx hb dX11_roundNow_154 (lv_at hl 5 rfl) ?_
              obtain ⟨b156, hqJ_2⟩ := ck_go hqJ_2
              refine va_iald hx hb hK hP 3 0 rfl rfl b156 dX11_roundNow_156 ?_
              refine lv_goto (tgt := 161) hx hb dX11_roundNow_157 (by decide) ?_
              cases hqJ_2
              exact J_2 _ _ hP hD hS _ (lv_sub hl [2, 3, 5, 1, 0] rfl)
    obtain ⟨v3_5, f_t_round_12, hl111, hm⟩ := bd2_go hm
    refine L111 _ _ _ _ _ _ hl111 _ _ hP hD hS _ (lv_sub hl [2, 3, 1, 0] rfl) (fun H locs hP hD hS ls hl => ?_)
    refine lv_iload_n hx hb dX11_roundNow_300 rfl (lv_at hl 0 rfl) ?_
    cases hm
    exact W_mono hQ (W.iret hx hb hr (fun t ht hW => ⟨⟨_, (), rfl, rfl, by rw [ht]; exact hP, va_K.moved hW.alike hK, hD⟩, hS.F ht⟩) hS.2.2 dX11_roundNow_301)
  · replace hm := if_t c43 hm
    refine lv_iconst (v := 0) hx hb dX11_roundNow_46 (by decide) ?_
    cases hm
    exact W_mono hQ (W.iret hx hb hr (fun t ht hW => ⟨⟨_, (), rfl, rfl, by rw [ht]; exact hP, va_K.moved hW.alike hK, hD⟩, hS.F ht⟩) hS.2.2 dX11_roundNow_47)
