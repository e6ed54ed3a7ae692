abbrev rmX11_share : Room := { frames := 1, cells := 0, slots := 0, locals := 20 }
set_option maxHeartbeats 40000000 in
set_option maxRecDepth 100000 in
theorem c_Md_share (l : Launch) (dC : Nat → ClassId) (dI : Nat → Nat → Nat) (cA : ClassId) (fu : Nat) (h_t h_t_w h_t_imageSeed h_t_bookOf h_t_bookIs h_t_forms h_t_best h_t_next h_t_ways h_t_round h_t_roughs : Nat) (f_t_known : Int32) (f_t_kept : Int32) (f_t_seed : Int32) (f_t_written : Int32) (f_t_formRing : Int32) (f_t_formMany : Int32) (f_t_latest : Int32) (f_t_w : Nat → Int32) (a1 : Int32) (r0 : Int32) (hm : m_Md_share fu f_t_w a1 = some r0) (sz : Nat) : Met l yX11_share wsX11_share rmX11_share (mPre (dC, dI) cA [.ref h_t, .int a1] sz [(h_t, .inr (10, [.ref h_t_w, .int f_t_known, .int f_t_kept, .int f_t_seed, .ref h_t_imageSeed, .ref h_t_bookOf, .ref h_t_bookIs, .int f_t_written, .ref h_t_forms, .int f_t_formRing, .int f_t_formMany, .ref h_t_best, .ref h_t_next, .ref h_t_ways, .ref h_t_round, .ref h_t_roughs, .int f_t_latest])), (h_t_w, .inl (cA, 190, .inl f_t_w))]) (mPosI (dC, dI) cA r0 (va_A [(h_t, .inr (10, [.ref h_t_w, .int f_t_known, .int f_t_kept, .int f_t_seed, .ref h_t_imageSeed, .ref h_t_bookOf, .ref h_t_bookIs, .int f_t_written, .ref h_t_forms, .int f_t_formRing, .int f_t_formMany, .ref h_t_best, .ref h_t_next, .ref h_t_ways, .ref h_t_round, .ref h_t_roughs, .int f_t_latest])), (h_t_w, .inl (cA, 190, .inl f_t_w))] sz) [(h_t, .inr (10, [.ref h_t_w, .int f_t_known, .int f_t_kept, .int f_t_seed, .ref h_t_imageSeed, .ref h_t_bookOf, .ref h_t_bookIs, .int f_t_written, .ref h_t_forms, .int f_t_formRing, .int f_t_formMany, .ref h_t_best, .ref h_t_next, .ref h_t_ways, .ref h_t_round, .ref h_t_roughs, .int f_t_latest])), (h_t_w, .inl (cA, 190, .inl f_t_w))]) 0 0 (va_A [(h_t, .inr (10, [.ref h_t_w, .int f_t_known, .int f_t_kept, .int f_t_seed, .ref h_t_imageSeed, .ref h_t_bookOf, .ref h_t_bookIs, .int f_t_written, .ref h_t_forms, .int f_t_formRing, .int f_t_formMany, .ref h_t_best, .ref h_t_next, .ref h_t_ways, .ref h_t_round, .ref h_t_roughs, .int f_t_latest])), (h_t_w, .inl (cA, 190, .inl f_t_w))] sz) := by
  refine Met.ofW (cc := cX11_share) (maxL := 4) (ret := (some .boolean)) (by decide) rfl ?_
  intro p e s m args below meth c s₁ B hml hv
  obtain ⟨rfl, hsz, hP, hK, hD0⟩ := hv
  refine W_gen (fun Q hQ => ?_)
  have hx := B.exec
  have hb := B.bytes
  have hr := B.returns
  have hts := atoms_spec (ws := wsX11_share) B.pre
  have hown : s.vm.findClass RX11 = some m.cls := findClass_of_methodNamed B.named
  have hlocks := B.notSynchronized
  subst hsz
  have hD := hD0.self (sz := s.heap.size)
  clear hD0
  generalize hAe : va_A [(h_t, .inr (10, [.ref h_t_w, .int f_t_known, .int f_t_kept, .int f_t_seed, .ref h_t_imageSeed, .ref h_t_bookOf, .ref h_t_bookIs, .int f_t_written, .ref h_t_forms, .int f_t_formRing, .int f_t_formMany, .ref h_t_best, .ref h_t_next, .ref h_t_ways, .ref h_t_round, .ref h_t_roughs, .int f_t_latest])), (h_t_w, .inl (cA, 190, .inl f_t_w))] s.heap.size = A at hD hQ
  have hA : ∀ q : Nat, s.heap.size ≤ q → A q := fun q h => by rw [← hAe]; exact Or.inr h
  clear hAe
  have hS : va_S A s.heap s.heap [] := va_S.rf
  have hl := lv_entry ([.ref h_t, .int a1]) (n := 4) (Nat.le_of_ble_eq_true rfl)
  rw [lg_entry_eq]
  generalize (lg_sl ([.ref h_t, .int a1]) ++ List.replicate (4 - (lg_sl ([.ref h_t, .int a1])).length) Slot.unset).toArray = ls at hl ⊢
  have hl : lv_has ls 4 [(0, .ref h_t), (1, .int a1)] := hl
  unfold m_Md_share at hm
  refine lv_iconst (v := 0) hx hb dX11_share_0 (by decide) ?_
  refine lv_topi (fun v2_1 ev2_1 => ?_)
  replace hm := lt_go ev2_1 hm
  refine lv_istore_n (lv' := [(2, .int v2_1), (0, .ref h_t), (1, .int a1)]) hx hb dX11_share_1 rfl hl (by decide) rfl (fun ls hl => ?_)
  refine lv_iconst (v := 2) hx hb dX11_share_2 (by decide) ?_
  refine lv_topi (fun v3_1 ev3_1 => ?_)
  replace hm := lt_go ev3_1 hm
  refine lv_istore_n (lv' := [(3, .int v3_1), (2, .int v2_1), (0, .ref h_t), (1, .int a1)]) hx hb dX11_share_3 rfl hl (by decide) rfl (fun ls hl => ?_)
  have L4 : ∀ (n : Nat) (v2_2 : Int32) (v3_2 : Int32) (v2_3 : Int32), m_Md_share_L4 a1 f_t_w n v2_2 v3_2 = some v2_3 → ∀ (H : Heap) (locs : List Loc), va_P (dC, dI) vwCl [(h_t, .inr (10, [.ref h_t_w, .int f_t_known, .int f_t_kept, .int f_t_seed, .ref h_t_imageSeed, .ref h_t_bookOf, .ref h_t_bookIs, .int f_t_written, .ref h_t_forms, .int f_t_formRing, .int f_t_formMany, .ref h_t_best, .ref h_t_next, .ref h_t_ways, .ref h_t_round, .ref h_t_roughs, .int f_t_latest])), (h_t_w, .inl (cA, 190, .inl f_t_w))] H → va_D A [(h_t, .inr (10, [.ref h_t_w, .int f_t_known, .int f_t_kept, .int f_t_seed, .ref h_t_imageSeed, .ref h_t_bookOf, .ref h_t_bookIs, .int f_t_written, .ref h_t_forms, .int f_t_formRing, .int f_t_formMany, .ref h_t_best, .ref h_t_next, .ref h_t_ways, .ref h_t_round, .ref h_t_roughs, .int f_t_latest])), (h_t_w, .inl (cA, 190, .inl f_t_w))] → va_S A s.heap H locs → ∀ ls : Array Slot, lv_has ls 4 [(0, .ref h_t), (1, .int a1), (2, .int v2_2), (3, .int v3_2)] → (∀ (H : Heap) (locs : List Loc), va_P (dC, dI) vwCl [(h_t, .inr (10, [.ref h_t_w, .int f_t_known, .int f_t_kept, .int f_t_seed, .ref h_t_imageSeed, .ref h_t_bookOf, .ref h_t_bookIs, .int f_t_written, .ref h_t_forms, .int f_t_formRing, .int f_t_formMany, .ref h_t_best, .ref h_t_next, .ref h_t_ways, .ref h_t_round, .ref h_t_roughs, .int f_t_latest])), (h_t_w, .inl (cA, 190, .inl f_t_w))] H → va_D A [(h_t, .inr (10, [.ref h_t_w, .int f_t_known, .int f_t_kept, .int f_t_seed, .ref h_t_imageSeed, .ref h_t_bookOf, .ref h_t_bookIs, .int f_t_written, .ref h_t_forms, .int f_t_formRing, .int f_t_formMany, .ref h_t_best, .ref h_t_next, .ref h_t_ways, .ref h_t_round, .ref h_t_roughs, .int f_t_latest])), (h_t_w, .inl (cA, 190, .inl f_t_w))] → va_S A s.heap H locs → ∀ ls : Array Slot, lv_has ls 4 [(2, .int v2_3)] → W p l e (headSpec wsX11_share rmX11_share).room s m (([.ref h_t, .int a1] : List Value).toArray) below meth c H locs 0 0 Q (F0 m 40 ls [])) → W p l e (headSpec wsX11_share rmX11_share).room s m (([.ref h_t, .int a1] : List Value).toArray) below meth c H locs 0 0 Q (F0 m 4 ls []) := by
    clear hm hP hD hS hl
    intro n
    induction n with
    | zero => intro _ _ _ hm; exact nomatch (show none = some _ from hm)
    | succ n ih =>
      intro v2_2 v3_2 v2_3 hm H locs hP hD hS ls hl KK
      unfold m_Md_share_L4 at hm
      refine lv_iload_n hx hb dX11_share_4 rfl (lv_at hl 3 rfl) ?_
      refine lv_iload_n hx hb dX11_share_5 rfl (lv_at hl 1 rfl) ?_
      refine lv_icmp_gt (tgt := 40) hx hb dX11_share_6 (by decide) (fun c6 => ?_) (fun c6 => ?_)
      · replace hm := if_t c6 hm
        cases hm
        exact KK _ _ hP hD hS _ (lv_sub hl [2] rfl)
      · replace hm := if_f c6 hm
        refine lv_iload_n hx hb dX11_share_9 rfl (lv_at hl 2 rfl) ?_
        obtain ⟨q33_1, hqJ_1, hm⟩ := bd1_go hm
        have J_1 : ∀ (H : Heap) (locs : List Loc), va_P (dC, dI) vwCl [(h_t, .inr (10, [.ref h_t_w, .int f_t_known, .int f_t_kept, .int f_t_seed, .ref h_t_imageSeed, .ref h_t_bookOf, .ref h_t_bookIs, .int f_t_written, .ref h_t_forms, .int f_t_formRing, .int f_t_formMany, .ref h_t_best, .ref h_t_next, .ref h_t_ways, .ref h_t_round, .ref h_t_roughs, .int f_t_latest])), (h_t_w, .inl (cA, 190, .inl f_t_w))] H → va_D A [(h_t, .inr (10, [.ref h_t_w, .int f_t_known, .int f_t_kept, .int f_t_seed, .ref h_t_imageSeed, .ref h_t_bookOf, .ref h_t_bookIs, .int f_t_written, .ref h_t_forms, .int f_t_formRing, .int f_t_formMany, .ref h_t_best, .ref h_t_next, .ref h_t_ways, .ref h_t_round, .ref h_t_roughs, .int f_t_latest])), (h_t_w, .inl (cA, 190, .inl f_t_w))] → va_S A s.heap H locs → ∀ ls : Array Slot, lv_has ls 4 [(0, .ref h_t), (1, .int a1), (3, .int v3_2)] → W p l e (headSpec wsX11_share rmX11_share).room s m (([.ref h_t, .int a1] : List Value).toArray) below meth c H locs 0 0 Q (F0 m 33 ls [.int q33_1]) := by
          intro H locs hP hD hS ls hl
          clear hqJ_1
          refine lv_topi (fun v2_4 ev2_4 => ?_)
          replace hm := lt_go ev2_4 hm
          refine lv_istore_n (lv' := [(2, .int v2_4), (0, .ref h_t), (1, .int a1), (3, .int v3_2)]) hx hb dX11_share_33 rfl hl (by decide) rfl (fun ls hl => ?_)
          obtain ⟨v3_3, ev3_3⟩ : ∃ z : Int32, z = v3_2 + 1 := ⟨_, rfl⟩
          replace hm := lt_go ev3_3 hm
          refine lv_iinc (v := v3_3) (lv' := [(3, .int v3_3), (2, .int v2_4), (0, .ref h_t), (1, .int a1)]) hx hb dX11_share_34 hl (k := 3) rfl (by rw [ev3_3]; rfl) (by decide) rfl (fun ls hl => ?_)
          refine lv_goto (tgt := 4) hx hb dX11_share_37 (by decide) ?_
          exact ih _ _ _ hm _ _ hP hD hS _ (lv_sub hl [2, 3, 1, 0] rfl) KK
        clear hm
        refine lv_if_ne (tgt := 28) hx hb dX11_share_10 (by decide) (fun c10 => ?_) (fun c10 => ?_)
        · replace hqJ_1 := if_f c10 hqJ_1
          refine lv_iconst (v := 1) hx hb dX11_share_28 (by decide) ?_
          refine lv_goto (tgt := 33) hx hb dX11_share_29 (by decide) ?_
          cases hqJ_1
          exact J_1 _ _ hP hD hS _ (lv_sub hl [0, 1, 3] rfl)
        · replace hqJ_1 := if_t c10 hqJ_1
          refine lv_iload_n hx hb dX11_share_13 rfl (lv_at hl 1 rfl) ?_
          refine lv_iload_n hx hb dX11_share_14 rfl (lv_at hl 3 rfl) ?_
          obtain ⟨d15, hqJ_1⟩ := dv_go hqJ_1
          refine lv_irem hx hb dX11_share_15 d15 ?_
          refine lv_if_ne (tgt := 32) hx hb dX11_share_16 (by decide) (fun c16 => ?_) (fun c16 => ?_)
          · replace hqJ_1 := if_f c16 hqJ_1
            refine lv_iconst (v := 0) hx hb dX11_share_32 (by decide) ?_
            cases hqJ_1
            exact J_1 _ _ hP hD hS _ (lv_sub hl [0, 1, 3] rfl)
          · replace hqJ_1 := if_t c16 hqJ_1
            refine lv_aload_n hx hb dX11_share_19 rfl (lv_at hl 0 rfl) ?_
            obtain ⟨r_1, hc20, hqJ_1⟩ := bd1_go hqJ_1
            refine my_cVi (As := []) (rest := []) (WC := [(h_t, .inr (10, [.ref h_t_w, .int f_t_known, .int f_t_kept, .int f_t_seed, .ref h_t_imageSeed, .ref h_t_bookOf, .ref h_t_bookIs, .int f_t_written, .ref h_t_forms, .int f_t_formRing, .int f_t_formMany, .ref h_t_best, .ref h_t_next, .ref h_t_ways, .ref h_t_round, .ref h_t_roughs, .int f_t_latest])), (h_t_w, .inl (cA, 190, .inl f_t_w))]) (WC' := [(h_t, .inr (10, [.ref h_t_w, .int f_t_known, .int f_t_kept, .int f_t_seed, .ref h_t_imageSeed, .ref h_t_bookOf, .ref h_t_bookIs, .int f_t_written, .ref h_t_forms, .int f_t_formRing, .int f_t_formMany, .ref h_t_best, .ref h_t_next, .ref h_t_ways, .ref h_t_round, .ref h_t_roughs, .int f_t_latest])), (h_t_w, .inl (cA, 190, .inl f_t_w))]) (WR := []) (W' := [(h_t, .inr (10, [.ref h_t_w, .int f_t_known, .int f_t_kept, .int f_t_seed, .ref h_t_imageSeed, .ref h_t_bookOf, .ref h_t_bookIs, .int f_t_written, .ref h_t_forms, .int f_t_formRing, .int f_t_formMany, .ref h_t_best, .ref h_t_next, .ref h_t_ways, .ref h_t_round, .ref h_t_roughs, .int f_t_latest])), (h_t_w, .inl (cA, 190, .inl f_t_w))]) ⟨hx, hb, hml, hown, hts⟩ hK hP hD hS hA (c_Md_m l dC dI cA h_t h_t_w h_t_imageSeed h_t_bookOf h_t_bookIs h_t_forms h_t_best h_t_next h_t_ways h_t_round h_t_roughs f_t_known f_t_kept f_t_seed f_t_written f_t_formRing f_t_formMany f_t_latest f_t_w r_1 hc20) (cwV 0 hts gX11_share_X11_m rfl rfl rfl (by decide +kernel) ⟨Nat.le_of_ble_eq_true rfl, Nat.le_of_ble_eq_true rfl⟩) [0, 1] [] [0, 1] rfl rfl rfl rfl (ci := 10) (q0 := 0) rfl rfl rfl rfl hl.1 (Nat.le_of_ble_eq_true rfl) dX11_share_20 ⟨Nat.zero_le _, Nat.zero_le _⟩ (fun H locs hP hD hS => ?_)
            refine lv_iload_n hx hb dX11_share_23 rfl (lv_at hl 3 rfl) ?_
            obtain ⟨d24, hqJ_1⟩ := dv_go hqJ_1
            refine lv_irem hx hb dX11_share_24 d24 ?_
            refine lv_if_ne (tgt := 32) hx hb dX11_share_25 (by decide) (fun c25 => ?_) (fun c25 => ?_)
            · replace hqJ_1 := if_f c25 hqJ_1
              refine lv_iconst (v := 0) hx hb dX11_share_32 (by decide) ?_
              cases hqJ_1
              exact J_1 _ _ hP hD hS _ (lv_sub hl [0, 1, 3] rfl)
            · replace hqJ_1 := if_t c25 hqJ_1
              refine lv_iconst (v := 1) hx hb dX11_share_28 (by decide) ?_
              refine lv_goto (tgt := 33) hx hb dX11_share_29 (by decide) ?_
              cases hqJ_1
              exact J_1 _ _ hP hD hS _ (lv_sub hl [0, 1, 3] rfl)
  obtain ⟨v2_5, hl4, hm⟩ := bd1_go hm
  refine L4 _ _ _ _ hl4 _ _ hP hD hS _ (lv_sub hl [2, 3, 1, 0] rfl) (fun H locs hP hD hS ls hl => ?_)
  refine lv_iload_n hx hb dX11_share_40 rfl (lv_at hl 0 rfl) ?_
  obtain ⟨hz, hm⟩ := bz_go hm
  have hz := nar_b hz
  cases hm
  exact W_mono hQ (W.zret hx hb hr hz (fun t ht hW => ⟨⟨_, (), rfl, rfl, by rw [ht]; exact hP, va_K.moved hW.alike hK, hD⟩, hS.F ht⟩) hS.2.2 dX11_share_41)
abbrev rmX11_changed : Room := { frames := 4, cells := 0, slots := 0, locals := 92 }
set_option maxHeartbeats 40000000 in
set_option maxRecDepth 100000 in
theorem c_Md_changed (l : Launch) (dC : Nat → ClassId) (dI : Nat → Nat → Nat) (cA : ClassId) (fu : Nat) (h_t h_t_w h_t_imageSeed h_t_bookOf h_t_bookIs h_t_forms h_t_best h_t_next h_t_ways h_t_round h_t_roughs : Nat) (f_t_known : Int32) (f_t_kept : Int32) (f_t_seed : Int32) (f_t_written : Int32) (f_t_formRing : Int32) (f_t_formMany : Int32) (f_t_latest : Int32) (f_t_w : Nat → Int32) (a1 : Int32) (a2 : Int32) (a3 : Int32) (r0 : Int32) (hm : m_Md_changed fu f_t_w a1 a2 a3 = some r0) (sz : Nat) : Met l yX11_changed wsX11_changed rmX11_changed (mPre (dC, dI) cA [.ref h_t, .int a1, .int a2, .int a3] sz [(h_t, .inr (10, [.ref h_t_w, .int f_t_known, .int f_t_kept, .int f_t_seed, .ref h_t_imageSeed, .ref h_t_bookOf, .ref h_t_bookIs, .int f_t_written, .ref h_t_forms, .int f_t_formRing, .int f_t_formMany, .ref h_t_best, .ref h_t_next, .ref h_t_ways, .ref h_t_round, .ref h_t_roughs, .int f_t_latest])), (h_t_w, .inl (cA, 190, .inl f_t_w))]) (mPosI (dC, dI) cA r0 (va_A [(h_t, .inr (10, [.ref h_t_w, .int f_t_known, .int f_t_kept, .int f_t_seed, .ref h_t_imageSeed, .ref h_t_bookOf, .ref h_t_bookIs, .int f_t_written, .ref h_t_forms, .int f_t_formRing, .int f_t_formMany, .ref h_t_best, .ref h_t_next, .ref h_t_ways, .ref h_t_round, .ref h_t_roughs, .int f_t_latest])), (h_t_w, .inl (cA, 190, .inl f_t_w))] sz) [(h_t, .inr (10, [.ref h_t_w, .int f_t_known, .int f_t_kept, .int f_t_seed, .ref h_t_imageSeed, .ref h_t_bookOf, .ref h_t_bookIs, .int f_t_written, .ref h_t_forms, .int f_t_formRing, .int f_t_formMany, .ref h_t_best, .ref h_t_next, .ref h_t_ways, .ref h_t_round, .ref h_t_roughs, .int f_t_latest])), (h_t_w, .inl (cA, 190, .inl f_t_w))]) 0 0 (va_A [(h_t, .inr (10, [.ref h_t_w, .int f_t_known, .int f_t_kept, .int f_t_seed, .ref h_t_imageSeed, .ref h_t_bookOf, .ref h_t_bookIs, .int f_t_written, .ref h_t_forms, .int f_t_formRing, .int f_t_formMany, .ref h_t_best, .ref h_t_next, .ref h_t_ways, .ref h_t_round, .ref h_t_roughs, .int f_t_latest])), (h_t_w, .inl (cA, 190, .inl f_t_w))] sz) := by
  refine Met.ofW (cc := cX11_changed) (maxL := 4) (ret := (some .int)) (by decide) rfl ?_
  intro p e s m args below meth c s₁ B hml hv
  obtain ⟨rfl, hsz, hP, hK, hD0⟩ := hv
  refine W_gen (fun Q hQ => ?_)
  have hx := B.exec
  have hb := B.bytes
  have hr := B.returns
  have hts := atoms_spec (ws := wsX11_changed) B.pre
  have hown : s.vm.findClass RX11 = some m.cls := findClass_of_methodNamed B.named
  have hlocks := B.notSynchronized
  subst hsz
  have hD := hD0.self (sz := s.heap.size)
  clear hD0
  generalize hAe : va_A [(h_t, .inr (10, [.ref h_t_w, .int f_t_known, .int f_t_kept, .int f_t_seed, .ref h_t_imageSeed, .ref h_t_bookOf, .ref h_t_bookIs, .int f_t_written, .ref h_t_forms, .int f_t_formRing, .int f_t_formMany, .ref h_t_best, .ref h_t_next, .ref h_t_ways, .ref h_t_round, .ref h_t_roughs, .int f_t_latest])), (h_t_w, .inl (cA, 190, .inl f_t_w))] s.heap.size = A at hD hQ
  have hA : ∀ q : Nat, s.heap.size ≤ q → A q := fun q h => by rw [← hAe]; exact Or.inr h
  clear hAe
  have hS : va_S A s.heap s.heap [] := va_S.rf
  have hl := lv_entry ([.ref h_t, .int a1, .int a2, .int a3]) (n := 4) (Nat.le_of_ble_eq_true rfl)
  rw [lg_entry_eq]
  generalize (lg_sl ([.ref h_t, .int a1, .int a2, .int a3]) ++ List.replicate (4 - (lg_sl ([.ref h_t, .int a1, .int a2, .int a3])).length) Slot.unset).toArray = ls at hl ⊢
  have hl : lv_has ls 4 [(0, .ref h_t), (1, .int a1), (2, .int a2), (3, .int a3)] := hl
  unfold m_Md_changed at hm
  refine lv_iload_n hx hb dX11_changed_0 rfl (lv_at hl 2 rfl) ?_
  by_cases s1_0 : a2 = 0
  · replace hm := if_t s1_0 hm
    refine lv_tableIn (tgt := 36) hx hb dX11_changed_1 (by rw [s1_0]; decide) (by rw [s1_0]; decide) (by rw [s1_0]; rfl) (by decide) ?_
    refine lv_aload_n hx hb dX11_changed_36 rfl (lv_at hl 0 rfl) ?_
    refine lv_iload_n hx hb dX11_changed_37 rfl (lv_at hl 1 rfl) ?_
    refine lv_iconst (v := 1) hx hb dX11_changed_38 (by decide) ?_
    refine lv_iload_n hx hb dX11_changed_39 rfl (lv_at hl 3 rfl) ?_
    obtain ⟨r_1, hc40, hm⟩ := bd1_go hm
    refine my_cVi (As := [.int a1, .int 1, .int a3]) (rest := []) (WC := [(h_t, .inr (10, [.ref h_t_w, .int f_t_known, .int f_t_kept, .int f_t_seed, .ref h_t_imageSeed, .ref h_t_bookOf, .ref h_t_bookIs, .int f_t_written, .ref h_t_forms, .int f_t_formRing, .int f_t_formMany, .ref h_t_best, .ref h_t_next, .ref h_t_ways, .ref h_t_round, .ref h_t_roughs, .int f_t_latest])), (h_t_w, .inl (cA, 190, .inl f_t_w))]) (WC' := [(h_t, .inr (10, [.ref h_t_w, .int f_t_known, .int f_t_kept, .int f_t_seed, .ref h_t_imageSeed, .ref h_t_bookOf, .ref h_t_bookIs, .int f_t_written, .ref h_t_forms, .int f_t_formRing, .int f_t_formMany, .ref h_t_best, .ref h_t_next, .ref h_t_ways, .ref h_t_round, .ref h_t_roughs, .int f_t_latest])), (h_t_w, .inl (cA, 190, .inl f_t_w))]) (WR := []) (W' := [(h_t, .inr (10, [.ref h_t_w, .int f_t_known, .int f_t_kept, .int f_t_seed, .ref h_t_imageSeed, .ref h_t_bookOf, .ref h_t_bookIs, .int f_t_written, .ref h_t_forms, .int f_t_formRing, .int f_t_formMany, .ref h_t_best, .ref h_t_next, .ref h_t_ways, .ref h_t_round, .ref h_t_roughs, .int f_t_latest])), (h_t_w, .inl (cA, 190, .inl f_t_w))]) ⟨hx, hb, hml, hown, hts⟩ hK hP hD hS hA (c_Md_moved l dC dI cA fu h_t h_t_w h_t_imageSeed h_t_bookOf h_t_bookIs h_t_forms h_t_best h_t_next h_t_ways h_t_round h_t_roughs f_t_known f_t_kept f_t_seed f_t_written f_t_formRing f_t_formMany f_t_latest f_t_w a1 1 a3 r_1 hc40) (cwV 3 hts gX11_changed_X11_moved rfl rfl rfl (by decide +kernel) ⟨Nat.le_of_ble_eq_true rfl, Nat.le_of_ble_eq_true rfl⟩) [0, 1] [] [0, 1] rfl rfl rfl rfl (ci := 10) (q0 := 0) rfl rfl rfl rfl hl.1 (Nat.le_of_ble_eq_true rfl) dX11_changed_40 ⟨Nat.zero_le _, Nat.zero_le _⟩ (fun H locs hP hD hS => ?_)
    cases hm
    exact W_mono hQ (W.iret hx hb hr (fun t ht hW => ⟨⟨_, (), rfl, rfl, by rw [ht]; exact hP, va_K.moved hW.alike hK, hD⟩, hS.F ht⟩) hS.2.2 dX11_changed_43)
  replace hm := if_f s1_0 hm
  by_cases s1_1 : a2 = 1
  · replace hm := if_t s1_1 hm
    refine lv_tableIn (tgt := 44) hx hb dX11_changed_1 (by rw [s1_1]; decide) (by rw [s1_1]; decide) (by rw [s1_1]; rfl) (by decide) ?_
    refine lv_aload_n hx hb dX11_changed_44 rfl (lv_at hl 0 rfl) ?_
    refine lv_iload_n hx hb dX11_changed_45 rfl (lv_at hl 1 rfl) ?_
    refine lv_iconst (v := (-1)) hx hb dX11_changed_46 (by decide) ?_
    refine lv_iconst (v := 0) hx hb dX11_changed_47 (by decide) ?_
    obtain ⟨r_2, hc48, hm⟩ := bd1_go hm
    refine my_cVi (As := [.int a1, .int (-1), .int 0]) (rest := []) (WC := [(h_t, .inr (10, [.ref h_t_w, .int f_t_known, .int f_t_kept, .int f_t_seed, .ref h_t_imageSeed, .ref h_t_bookOf, .ref h_t_bookIs, .int f_t_written, .ref h_t_forms, .int f_t_formRing, .int f_t_formMany, .ref h_t_best, .ref h_t_next, .ref h_t_ways, .ref h_t_round, .ref h_t_roughs, .int f_t_latest])), (h_t_w, .inl (cA, 190, .inl f_t_w))]) (WC' := [(h_t, .inr (10, [.ref h_t_w, .int f_t_known, .int f_t_kept, .int f_t_seed, .ref h_t_imageSeed, .ref h_t_bookOf, .ref h_t_bookIs, .int f_t_written, .ref h_t_forms, .int f_t_formRing, .int f_t_formMany, .ref h_t_best, .ref h_t_next, .ref h_t_ways, .ref h_t_round, .ref h_t_roughs, .int f_t_latest])), (h_t_w, .inl (cA, 190, .inl f_t_w))]) (WR := []) (W' := [(h_t, .inr (10, [.ref h_t_w, .int f_t_known, .int f_t_kept, .int f_t_seed, .ref h_t_imageSeed, .ref h_t_bookOf, .ref h_t_bookIs, .int f_t_written, .ref h_t_forms, .int f_t_formRing, .int f_t_formMany, .ref h_t_best, .ref h_t_next, .ref h_t_ways, .ref h_t_round, .ref h_t_roughs, .int f_t_latest])), (h_t_w, .inl (cA, 190, .inl f_t_w))]) ⟨hx, hb, hml, hown, hts⟩ hK hP hD hS hA (c_Md_moved l dC dI cA fu h_t h_t_w h_t_imageSeed h_t_bookOf h_t_bookIs h_t_forms h_t_best h_t_next h_t_ways h_t_round h_t_roughs f_t_known f_t_kept f_t_seed f_t_written f_t_formRing f_t_formMany f_t_latest f_t_w a1 (-1) 0 r_2 hc48) (cwV 3 hts gX11_changed_X11_moved rfl rfl rfl (by decide +kernel) ⟨Nat.le_of_ble_eq_true rfl, Nat.le_of_ble_eq_true rfl⟩) [0, 1] [] [0, 1] rfl rfl rfl rfl (ci := 10) (q0 := 0) rfl rfl rfl rfl hl.1 (Nat.le_of_ble_eq_true rfl) dX11_changed_48 ⟨Nat.zero_le _, Nat.zero_le _⟩ (fun H locs hP hD hS => ?_)
    cases hm
    exact W_mono hQ (W.iret hx hb hr (fun t ht hW => ⟨⟨_, (), rfl, rfl, by rw [ht]; exact hP, va_K.moved hW.alike hK, hD⟩, hS.F ht⟩) hS.2.2 dX11_changed_51)
  replace hm := if_f s1_1 hm
  by_cases s1_2 : a2 = 2
  · replace hm := if_t s1_2 hm
    refine lv_tableIn (tgt := 52) hx hb dX11_changed_1 (by rw [s1_2]; decide) (by rw [s1_2]; decide) (by rw [s1_2]; rfl) (by decide) ?_
    refine lv_aload_n hx hb dX11_changed_52 rfl (lv_at hl 0 rfl) ?_
    refine lv_iload_n hx hb dX11_changed_53 rfl (lv_at hl 1 rfl) ?_
    refine lv_iload_n hx hb dX11_changed_54 rfl (lv_at hl 3 rfl) ?_
    refine lv_iconst (v := 0) hx hb dX11_changed_55 (by decide) ?_
    obtain ⟨r_3, hc56, hm⟩ := bd1_go hm
    refine my_cVi (As := [.int a1, .int a3, .int 0]) (rest := []) (WC := [(h_t, .inr (10, [.ref h_t_w, .int f_t_known, .int f_t_kept, .int f_t_seed, .ref h_t_imageSeed, .ref h_t_bookOf, .ref h_t_bookIs, .int f_t_written, .ref h_t_forms, .int f_t_formRing, .int f_t_formMany, .ref h_t_best, .ref h_t_next, .ref h_t_ways, .ref h_t_round, .ref h_t_roughs, .int f_t_latest])), (h_t_w, .inl (cA, 190, .inl f_t_w))]) (WC' := [(h_t, .inr (10, [.ref h_t_w, .int f_t_known, .int f_t_kept, .int f_t_seed, .ref h_t_imageSeed, .ref h_t_bookOf, .ref h_t_bookIs, .int f_t_written, .ref h_t_forms, .int f_t_formRing, .int f_t_formMany, .ref h_t_best, .ref h_t_next, .ref h_t_ways, .ref h_t_round, .ref h_t_roughs, .int f_t_latest])), (h_t_w, .inl (cA, 190, .inl f_t_w))]) (WR := []) (W' := [(h_t, .inr (10, [.ref h_t_w, .int f_t_known, .int f_t_kept, .int f_t_seed, .ref h_t_imageSeed, .ref h_t_bookOf, .ref h_t_bookIs, .int f_t_written, .ref h_t_forms, .int f_t_formRing, .int f_t_formMany, .ref h_t_best, .ref h_t_next, .ref h_t_ways, .ref h_t_round, .ref h_t_roughs, .int f_t_latest])), (h_t_w, .inl (cA, 190, .inl f_t_w))]) ⟨hx, hb, hml, hown, hts⟩ hK hP hD hS hA (c_Md_moved l dC dI cA fu h_t h_t_w h_t_imageSeed h_t_bookOf h_t_bookIs h_t_forms h_t_best h_t_next h_t_ways h_t_round h_t_roughs f_t_known f_t_kept f_t_seed f_t_written f_t_formRing f_t_formMany f_t_latest f_t_w a1 a3 0 r_3 hc56) (cwV 3 hts gX11_changed_X11_moved rfl rfl rfl (by decide +kernel) ⟨Nat.le_of_ble_eq_true rfl, Nat.le_of_ble_eq_true rfl⟩) [0, 1] [] [0, 1] rfl rfl rfl rfl (ci := 10) (q0 := 0) rfl rfl rfl rfl hl.1 (Nat.le_of_ble_eq_true rfl) dX11_changed_56 ⟨Nat.zero_le _, Nat.zero_le _⟩ (fun H locs hP hD hS => ?_)
    cases hm
    exact W_mono hQ (W.iret hx hb hr (fun t ht hW => ⟨⟨_, (), rfl, rfl, by rw [ht]; exact hP, va_K.moved hW.alike hK, hD⟩, hS.F ht⟩) hS.2.2 dX11_changed_59)
  replace hm := if_f s1_2 hm
  by_cases s1_3 : a2 = 3
  · replace hm := if_t s1_3 hm
    refine lv_tableIn (tgt := 60) hx hb dX11_changed_1 (by rw [s1_3]; decide) (by rw [s1_3]; decide) (by rw [s1_3]; rfl) (by decide) ?_
    refine lv_iconst (v := 1) hx hb dX11_changed_60 (by decide) ?_
    refine lv_aload_n hx hb dX11_changed_61 rfl (lv_at hl 0 rfl) ?_
    obtain ⟨r_4, hc62, hm⟩ := bd1_go hm
    refine my_cVi (As := []) (rest := [.int 1]) (WC := [(h_t, .inr (10, [.ref h_t_w, .int f_t_known, .int f_t_kept, .int f_t_seed, .ref h_t_imageSeed, .ref h_t_bookOf, .ref h_t_bookIs, .int f_t_written, .ref h_t_forms, .int f_t_formRing, .int f_t_formMany, .ref h_t_best, .ref h_t_next, .ref h_t_ways, .ref h_t_round, .ref h_t_roughs, .int f_t_latest])), (h_t_w, .inl (cA, 190, .inl f_t_w))]) (WC' := [(h_t, .inr (10, [.ref h_t_w, .int f_t_known, .int f_t_kept, .int f_t_seed, .ref h_t_imageSeed, .ref h_t_bookOf, .ref h_t_bookIs, .int f_t_written, .ref h_t_forms, .int f_t_formRing, .int f_t_formMany, .ref h_t_best, .ref h_t_next, .ref h_t_ways, .ref h_t_round, .ref h_t_roughs, .int f_t_latest])), (h_t_w, .inl (cA, 190, .inl f_t_w))]) (WR := []) (W' := [(h_t, .inr (10, [.ref h_t_w, .int f_t_known, .int f_t_kept, .int f_t_seed, .ref h_t_imageSeed, .ref h_t_bookOf, .ref h_t_bookIs, .int f_t_written, .ref h_t_forms, .int f_t_formRing, .int f_t_formMany, .ref h_t_best, .ref h_t_next, .ref h_t_ways, .ref h_t_round, .ref h_t_roughs, .int f_t_latest])), (h_t_w, .inl (cA, 190, .inl f_t_w))]) ⟨hx, hb, hml, hown, hts⟩ hK hP hD hS hA (c_Md_m l dC dI cA h_t h_t_w h_t_imageSeed h_t_bookOf h_t_bookIs h_t_forms h_t_best h_t_next h_t_ways h_t_round h_t_roughs f_t_known f_t_kept f_t_seed f_t_written f_t_formRing f_t_formMany f_t_latest f_t_w r_4 hc62) (cwV 0 hts gX11_changed_X11_m rfl rfl rfl (by decide +kernel) ⟨Nat.le_of_ble_eq_true rfl, Nat.le_of_ble_eq_true rfl⟩) [0, 1] [] [0, 1] rfl rfl rfl rfl (ci := 10) (q0 := 0) rfl rfl rfl rfl hl.1 (Nat.le_of_ble_eq_true rfl) dX11_changed_62 ⟨Nat.zero_le _, Nat.zero_le _⟩ (fun H locs hP hD hS => ?_)
    refine lv_ishl hx hb dX11_changed_65 ?_
    refine lv_iconst (v := 1) hx hb dX11_changed_66 (by decide) ?_
    refine lv_isub hx hb dX11_changed_67 ?_
    refine lv_iload_n hx hb dX11_changed_68 rfl (lv_at hl 1 rfl) ?_
    refine lv_isub hx hb dX11_changed_69 ?_
    cases hm
    exact W_mono hQ (W.iret hx hb hr (fun t ht hW => ⟨⟨_, (), rfl, rfl, by rw [ht]; exact hP, va_K.moved hW.alike hK, hD⟩, hS.F ht⟩) hS.2.2 dX11_changed_70)
  replace hm := if_f s1_3 hm
  by_cases s1_4 : a2 = 4
  · replace hm := if_t s1_4 hm
    refine lv_tableIn (tgt := 71) hx hb dX11_changed_1 (by rw [s1_4]; decide) (by rw [s1_4]; decide) (by rw [s1_4]; rfl) (by decide) ?_
    refine lv_iload_n hx hb dX11_changed_71 rfl (lv_at hl 1 rfl) ?_
    refine lv_iconst (v := 1) hx hb dX11_changed_72 (by decide) ?_
    refine lv_iload_n hx hb dX11_changed_73 rfl (lv_at hl 3 rfl) ?_
    refine lv_ishl hx hb dX11_changed_74 ?_
    refine lv_ixor hx hb dX11_changed_75 ?_
    cases hm
    exact W_mono hQ (W.iret hx hb hr (fun t ht hW => ⟨⟨_, (), rfl, rfl, by rw [ht]; exact hP, va_K.moved hW.alike hK, hD⟩, hS.F ht⟩) hS.2.2 dX11_changed_76)
  replace hm := if_f s1_4 hm
  refine lv_tableOut (tgt := 77) hx hb dX11_changed_1 (sw_5 s1_0 s1_1 s1_2 s1_3 s1_4) (by decide) ?_
  refine lv_aload_n hx hb dX11_changed_77 rfl (lv_at hl 0 rfl) ?_
  refine lv_iload_n hx hb dX11_changed_78 rfl (lv_at hl 1 rfl) ?_
  obtain ⟨r_5, hc79, hm⟩ := bd1_go hm
  refine my_cVi (As := [.int a1]) (rest := []) (WC := [(h_t, .inr (10, [.ref h_t_w, .int f_t_known, .int f_t_kept, .int f_t_seed, .ref h_t_imageSeed, .ref h_t_bookOf, .ref h_t_bookIs, .int f_t_written, .ref h_t_forms, .int f_t_formRing, .int f_t_formMany, .ref h_t_best, .ref h_t_next, .ref h_t_ways, .ref h_t_round, .ref h_t_roughs, .int f_t_latest])), (h_t_w, .inl (cA, 190, .inl f_t_w))]) (WC' := [(h_t, .inr (10, [.ref h_t_w, .int f_t_known, .int f_t_kept, .int f_t_seed, .ref h_t_imageSeed, .ref h_t_bookOf, .ref h_t_bookIs, .int f_t_written, .ref h_t_forms, .int f_t_formRing, .int f_t_formMany, .ref h_t_best, .ref h_t_next, .ref h_t_ways, .ref h_t_round, .ref h_t_roughs, .int f_t_latest])), (h_t_w, .inl (cA, 190, .inl f_t_w))]) (WR := []) (W' := [(h_t, .inr (10, [.ref h_t_w, .int f_t_known, .int f_t_kept, .int f_t_seed, .ref h_t_imageSeed, .ref h_t_bookOf, .ref h_t_bookIs, .int f_t_written, .ref h_t_forms, .int f_t_formRing, .int f_t_formMany, .ref h_t_best, .ref h_t_next, .ref h_t_ways, .ref h_t_round, .ref h_t_roughs, .int f_t_latest])), (h_t_w, .inl (cA, 190, .inl f_t_w))]) ⟨hx, hb, hml, hown, hts⟩ hK hP hD hS hA (c_Md_formOf l dC dI cA fu h_t h_t_w h_t_imageSeed h_t_bookOf h_t_bookIs h_t_forms h_t_best h_t_next h_t_ways h_t_round h_t_roughs f_t_known f_t_kept f_t_seed f_t_written f_t_formRing f_t_formMany f_t_latest f_t_w a1 r_5 hc79) (cwV 1 hts gX11_changed_X11_formOf rfl rfl rfl (by decide +kernel) ⟨Nat.le_of_ble_eq_true rfl, Nat.le_of_ble_eq_true rfl⟩) [0, 1] [] [0, 1] rfl rfl rfl rfl (ci := 10) (q0 := 0) rfl rfl rfl rfl hl.1 (Nat.le_of_ble_eq_true rfl) dX11_changed_79 ⟨Nat.zero_le _, Nat.zero_le _⟩ (fun H locs hP hD hS => ?_)
  cases hm
  exact W_mono hQ (W.iret hx hb hr (fun t ht hW => ⟨⟨_, (), rfl, rfl, by rw [ht]; exact hP, va_K.moved hW.alike hK, hD⟩, hS.F ht⟩) hS.2.2 dX11_changed_82)
abbrev rmX11_change : Room := { frames := 5, cells := 0, slots := 0, locals := 115 }
theorem uX11_X11_change : ∀ w ∈ wsX110, w ∈ wsX11_change := fun _ h => List.mem_cons_of_mem _ (List.mem_append_right _ (h))
set_option maxHeartbeats 40000000 in
set_option maxRecDepth 100000 in
theorem c_Md_change (l : Launch) (dC : Nat → ClassId) (dI : Nat → Nat → Nat) (cA : ClassId) (fu : Nat) (h_t h_t_w h_t_imageSeed h_t_bookOf h_t_bookIs h_t_forms h_t_best h_t_next h_t_ways h_t_round h_t_roughs : Nat) (f_t_known : Int32) (f_t_kept : Int32) (f_t_seed : Int32) (f_t_written : Int32) (f_t_formRing : Int32) (f_t_formMany : Int32) (f_t_latest : Int32) (f_t_w : Nat → Int32) (a1 : Int32) (a2 : Int32) (a3 : Int32) (r0 : Int32) (f_t_known_z : Int32) (f_t_w_z : Nat → Int32) (hm : m_Md_change fu f_t_known f_t_w a1 a2 a3 = some (r0, f_t_known_z, f_t_w_z)) (sz : Nat) : Met l yX11_change wsX11_change rmX11_change (mPre (dC, dI) cA [.ref h_t, .int a1, .int a2, .int a3] sz [(h_t, .inr (10, [.ref h_t_w, .int f_t_known, .int f_t_kept, .int f_t_seed, .ref h_t_imageSeed, .ref h_t_bookOf, .ref h_t_bookIs, .int f_t_written, .ref h_t_forms, .int f_t_formRing, .int f_t_formMany, .ref h_t_best, .ref h_t_next, .ref h_t_ways, .ref h_t_round, .ref h_t_roughs, .int f_t_latest])), (h_t_w, .inl (cA, 190, .inl f_t_w))]) (mPosI (dC, dI) cA r0 (va_A [(h_t, .inr (10, [.ref h_t_w, .int f_t_known, .int f_t_kept, .int f_t_seed, .ref h_t_imageSeed, .ref h_t_bookOf, .ref h_t_bookIs, .int f_t_written, .ref h_t_forms, .int f_t_formRing, .int f_t_formMany, .ref h_t_best, .ref h_t_next, .ref h_t_ways, .ref h_t_round, .ref h_t_roughs, .int f_t_latest])), (h_t_w, .inl (cA, 190, .inl f_t_w))] sz) [(h_t, .inr (10, [.ref h_t_w, .int f_t_known_z, .int f_t_kept, .int f_t_seed, .ref h_t_imageSeed, .ref h_t_bookOf, .ref h_t_bookIs, .int f_t_written, .ref h_t_forms, .int f_t_formRing, .int f_t_formMany, .ref h_t_best, .ref h_t_next, .ref h_t_ways, .ref h_t_round, .ref h_t_roughs, .int f_t_latest])), (h_t_w, .inl (cA, 190, .inl f_t_w_z))]) 0 0 (va_A [(h_t, .inr (10, [.ref h_t_w, .int f_t_known, .int f_t_kept, .int f_t_seed, .ref h_t_imageSeed, .ref h_t_bookOf, .ref h_t_bookIs, .int f_t_written, .ref h_t_forms, .int f_t_formRing, .int f_t_formMany, .ref h_t_best, .ref h_t_next, .ref h_t_ways, .ref h_t_round, .ref h_t_roughs, .int f_t_latest])), (h_t_w, .inl (cA, 190, .inl f_t_w))] sz) := by
  refine Met.ofW (cc := cX11_change) (maxL := 4) (ret := (some .int)) (by decide) rfl ?_
  intro p e s m args below meth c s₁ B hml hv
  obtain ⟨rfl, hsz, hP, hK, hD0⟩ := hv
  refine W_gen (fun Q hQ => ?_)
  have hx := B.exec
  have hb := B.bytes
  have hr := B.returns
  have hts := atoms_spec (ws := wsX11_change) B.pre
  have hown : s.vm.findClass RX11 = some m.cls := findClass_of_methodNamed B.named
  have hlocks := B.notSynchronized
  subst hsz
  have hD := hD0.self (sz := s.heap.size)
  clear hD0
  generalize hAe : va_A [(h_t, .inr (10, [.ref h_t_w, .int f_t_known, .int f_t_kept, .int f_t_seed, .ref h_t_imageSeed, .ref h_t_bookOf, .ref h_t_bookIs, .int f_t_written, .ref h_t_forms, .int f_t_formRing, .int f_t_formMany, .ref h_t_best, .ref h_t_next, .ref h_t_ways, .ref h_t_round, .ref h_t_roughs, .int f_t_latest])), (h_t_w, .inl (cA, 190, .inl f_t_w))] s.heap.size = A at hD hQ
  have hA : ∀ q : Nat, s.heap.size ≤ q → A q := fun q h => by rw [← hAe]; exact Or.inr h
  clear hAe
  have hS : va_S A s.heap s.heap [] := va_S.rf
  have hl := lv_entry ([.ref h_t, .int a1, .int a2, .int a3]) (n := 4) (Nat.le_of_ble_eq_true rfl)
  rw [lg_entry_eq]
  generalize (lg_sl ([.ref h_t, .int a1, .int a2, .int a3]) ++ List.replicate (4 - (lg_sl ([.ref h_t, .int a1, .int a2, .int a3])).length) Slot.unset).toArray = ls at hl ⊢
  have hl : lv_has ls 4 [(0, .ref h_t), (1, .int a1), (2, .int a2), (3, .int a3)] := hl
  have k4 := hts (.fieldLink RX11 7 "ToneSetsModel" "w" "[I") (List.mem_of_getElem? (i := 4) rfl)
  have k3 := hts (.constant RX11 160 (-1000000003)) (List.mem_of_getElem? (i := 3) rfl)
  have k2 := hts (.constant RX11 143 (-1000000002)) (List.mem_of_getElem? (i := 2) rfl)
  have k1 := hts (.constant RX11 144 (-1000000001)) (List.mem_of_getElem? (i := 1) rfl)
  have uX11 := uX11_X11_change
  unfold m_Md_change at hm
  refine lv_aload_n hx hb dX11_change_0 rfl (lv_at hl 0 rfl) ?_
  refine lv_iload_n hx hb dX11_change_1 rfl (lv_at hl 1 rfl) ?_
  obtain ⟨r_1, hc2, hm⟩ := bd1_go hm
  refine my_cVi (As := [.int a1]) (rest := []) (WC := [(h_t, .inr (10, [.ref h_t_w, .int f_t_known, .int f_t_kept, .int f_t_seed, .ref h_t_imageSeed, .ref h_t_bookOf, .ref h_t_bookIs, .int f_t_written, .ref h_t_forms, .int f_t_formRing, .int f_t_formMany, .ref h_t_best, .ref h_t_next, .ref h_t_ways, .ref h_t_round, .ref h_t_roughs, .int f_t_latest])), (h_t_w, .inl (cA, 190, .inl f_t_w))]) (WC' := [(h_t, .inr (10, [.ref h_t_w, .int f_t_known, .int f_t_kept, .int f_t_seed, .ref h_t_imageSeed, .ref h_t_bookOf, .ref h_t_bookIs, .int f_t_written, .ref h_t_forms, .int f_t_formRing, .int f_t_formMany, .ref h_t_best, .ref h_t_next, .ref h_t_ways, .ref h_t_round, .ref h_t_roughs, .int f_t_latest])), (h_t_w, .inl (cA, 190, .inl f_t_w))]) (WR := []) (W' := [(h_t, .inr (10, [.ref h_t_w, .int f_t_known, .int f_t_kept, .int f_t_seed, .ref h_t_imageSeed, .ref h_t_bookOf, .ref h_t_bookIs, .int f_t_written, .ref h_t_forms, .int f_t_formRing, .int f_t_formMany, .ref h_t_best, .ref h_t_next, .ref h_t_ways, .ref h_t_round, .ref h_t_roughs, .int f_t_latest])), (h_t_w, .inl (cA, 190, .inl f_t_w))]) ⟨hx, hb, hml, hown, hts⟩ hK hP hD hS hA (c_Md_isPlace l dC dI cA h_t h_t_w h_t_imageSeed h_t_bookOf h_t_bookIs h_t_forms h_t_best h_t_next h_t_ways h_t_round h_t_roughs f_t_known f_t_kept f_t_seed f_t_written f_t_formRing f_t_formMany f_t_latest f_t_w a1 r_1 hc2) (cwV 1 hts gX11_change_X11_isPlace rfl rfl rfl (by decide +kernel) ⟨Nat.le_of_ble_eq_true rfl, Nat.le_of_ble_eq_true rfl⟩) [0, 1] [] [0, 1] rfl rfl rfl rfl (ci := 10) (q0 := 0) rfl rfl rfl rfl hl.1 (Nat.le_of_ble_eq_true rfl) dX11_change_2 ⟨Nat.zero_le _, Nat.zero_le _⟩ (fun H locs hP hD hS => ?_)
  refine lv_if_ne (tgt := 11) hx hb dX11_change_5 (by decide) (fun c5 => ?_) (fun c5 => ?_)
  · replace hm := if_f c5 hm
    refine lv_aload_n hx hb dX11_change_11 rfl (lv_at hl 0 rfl) ?_
    refine lv_iload_n hx hb dX11_change_12 rfl (lv_at hl 2 rfl) ?_
    refine lv_iload_n hx hb dX11_change_13 rfl (lv_at hl 3 rfl) ?_
    obtain ⟨r_2, hc14, hm⟩ := bd1_go hm
    refine my_cVi (As := [.int a2, .int a3]) (rest := []) (WC := [(h_t, .inr (10, [.ref h_t_w, .int f_t_known, .int f_t_kept, .int f_t_seed, .ref h_t_imageSeed, .ref h_t_bookOf, .ref h_t_bookIs, .int f_t_written, .ref h_t_forms, .int f_t_formRing, .int f_t_formMany, .ref h_t_best, .ref h_t_next, .ref h_t_ways, .ref h_t_round, .ref h_t_roughs, .int f_t_latest])), (h_t_w, .inl (cA, 190, .inl f_t_w))]) (WC' := [(h_t, .inr (10, [.ref h_t_w, .int f_t_known, .int f_t_kept, .int f_t_seed, .ref h_t_imageSeed, .ref h_t_bookOf, .ref h_t_bookIs, .int f_t_written, .ref h_t_forms, .int f_t_formRing, .int f_t_formMany, .ref h_t_best, .ref h_t_next, .ref h_t_ways, .ref h_t_round, .ref h_t_roughs, .int f_t_latest])), (h_t_w, .inl (cA, 190, .inl f_t_w))]) (WR := []) (W' := [(h_t, .inr (10, [.ref h_t_w, .int f_t_known, .int f_t_kept, .int f_t_seed, .ref h_t_imageSeed, .ref h_t_bookOf, .ref h_t_bookIs, .int f_t_written, .ref h_t_forms, .int f_t_formRing, .int f_t_formMany, .ref h_t_best, .ref h_t_next, .ref h_t_ways, .ref h_t_round, .ref h_t_roughs, .int f_t_latest])), (h_t_w, .inl (cA, 190, .inl f_t_w))]) ⟨hx, hb, hml, hown, hts⟩ hK hP hD hS hA (c_Md_isKind l dC dI cA h_t h_t_w h_t_imageSeed h_t_bookOf h_t_bookIs h_t_forms h_t_best h_t_next h_t_ways h_t_round h_t_roughs f_t_known f_t_kept f_t_seed f_t_written f_t_formRing f_t_formMany f_t_latest f_t_w a2 a3 r_2 hc14) (cwV 2 hts gX11_change_X11_isKind rfl rfl rfl (by decide +kernel) ⟨Nat.le_of_ble_eq_true rfl, Nat.le_of_ble_eq_true rfl⟩) [0, 1] [] [0, 1] rfl rfl rfl rfl (ci := 10) (q0 := 0) rfl rfl rfl rfl hl.1 (Nat.le_of_ble_eq_true rfl) dX11_change_14 ⟨Nat.zero_le _, Nat.zero_le _⟩ (fun H locs hP hD hS => ?_)
    refine lv_if_ne (tgt := 23) hx hb dX11_change_17 (by decide) (fun c17 => ?_) (fun c17 => ?_)
    · replace hm := if_f c17 hm
      refine lv_iload_n hx hb dX11_change_23 rfl (lv_at hl 2 rfl) ?_
      refine lv_iconst (v := 2) hx hb dX11_change_24 (by decide) ?_
      refine lv_icmp_ne (tgt := 39) hx hb dX11_change_25 (by decide) (fun c25 => ?_) (fun c25 => ?_)
      · replace hm := if_f c25 hm
        refine lv_aload_n hx hb dX11_change_39 rfl (lv_at hl 0 rfl) ?_
        obtain ⟨f_t_known_1, f_t_w_1, hc40, hm⟩ := bd2_go hm
        refine my_cVv (As := []) (rest := []) (WC := [(h_t, .inr (10, [.ref h_t_w, .int f_t_known, .int f_t_kept, .int f_t_seed, .ref h_t_imageSeed, .ref h_t_bookOf, .ref h_t_bookIs, .int f_t_written, .ref h_t_forms, .int f_t_formRing, .int f_t_formMany, .ref h_t_best, .ref h_t_next, .ref h_t_ways, .ref h_t_round, .ref h_t_roughs, .int f_t_latest])), (h_t_w, .inl (cA, 190, .inl f_t_w))]) (WC' := [(h_t, .inr (10, [.ref h_t_w, .int f_t_known_1, .int f_t_kept, .int f_t_seed, .ref h_t_imageSeed, .ref h_t_bookOf, .ref h_t_bookIs, .int f_t_written, .ref h_t_forms, .int f_t_formRing, .int f_t_formMany, .ref h_t_best, .ref h_t_next, .ref h_t_ways, .ref h_t_round, .ref h_t_roughs, .int f_t_latest])), (h_t_w, .inl (cA, 190, .inl f_t_w_1))]) (WR := []) (W' := [(h_t, .inr (10, [.ref h_t_w, .int f_t_known_1, .int f_t_kept, .int f_t_seed, .ref h_t_imageSeed, .ref h_t_bookOf, .ref h_t_bookIs, .int f_t_written, .ref h_t_forms, .int f_t_formRing, .int f_t_formMany, .ref h_t_best, .ref h_t_next, .ref h_t_ways, .ref h_t_round, .ref h_t_roughs, .int f_t_latest])), (h_t_w, .inl (cA, 190, .inl f_t_w_1))]) ⟨hx, hb, hml, hown, hts⟩ hK hP hD hS hA (c_Md_remember l dC dI cA fu h_t h_t_w h_t_imageSeed h_t_bookOf h_t_bookIs h_t_forms h_t_best h_t_next h_t_ways h_t_round h_t_roughs f_t_known f_t_kept f_t_seed f_t_written f_t_formRing f_t_formMany f_t_latest f_t_w f_t_known_1 f_t_w_1 hc40) (cwV 0 hts gX11_change_X11_remember rfl rfl rfl (by decide +kernel) ⟨Nat.le_of_ble_eq_true rfl, Nat.le_of_ble_eq_true rfl⟩) [0, 1] [] [0, 1] rfl rfl rfl rfl (ci := 10) (q0 := 0) rfl rfl rfl rfl hl.1 (Nat.le_of_ble_eq_true rfl) dX11_change_40 ⟨Nat.zero_le _, Nat.zero_le _⟩ (fun H locs hP hD hS => ?_)
        refine lv_aload_n hx hb dX11_change_43 rfl (lv_at hl 0 rfl) ?_
        refine va_get (D := (dC, dI)) (ci := 10) (v := .ref h_t_w) (C := RX11) (T := TX11) (N := 17) hx hb hts uX11 hown hK hP 0 rfl rfl 0 (by decide) k4 (fun _ h9 => h9) rfl dX11_change_44 ?_
        refine lv_iconst (v := 2) hx hb dX11_change_47 (by decide) ?_
        refine lv_iload_n hx hb dX11_change_48 rfl (lv_at hl 1 rfl) ?_
        refine lv_iadd hx hb dX11_change_49 ?_
        refine lv_aload_n hx hb dX11_change_50 rfl (lv_at hl 0 rfl) ?_
        refine lv_aload_n hx hb dX11_change_51 rfl (lv_at hl 0 rfl) ?_
        refine va_get (D := (dC, dI)) (ci := 10) (v := .ref h_t_w) (C := RX11) (T := TX11) (N := 17) hx hb hts uX11 hown hK hP 0 rfl rfl 0 (by decide) k4 (fun _ h9 => h9) rfl dX11_change_52 ?_
        refine lv_iconst (v := 2) hx hb dX11_change_55 (by decide) ?_
        refine lv_iload_n hx hb dX11_change_56 rfl (lv_at hl 1 rfl) ?_
        refine lv_iadd hx hb dX11_change_57 ?_
        obtain ⟨b58, hm⟩ := ck_go hm
        refine va_iald hx hb hK hP 1 0 rfl rfl b58 dX11_change_58 ?_
        refine lv_iload_n hx hb dX11_change_59 rfl (lv_at hl 2 rfl) ?_
        refine lv_iload_n hx hb dX11_change_60 rfl (lv_at hl 3 rfl) ?_
        obtain ⟨r_3, hc61, hm⟩ := bd1_go hm
        refine my_cVi (As := [.int (f_t_w_1 (2 + a1).toNatClampNeg), .int a2, .int a3]) (rest := [.int (2 + a1), .ref h_t_w]) (WC := [(h_t, .inr (10, [.ref h_t_w, .int f_t_known_1, .int f_t_kept, .int f_t_seed, .ref h_t_imageSeed, .ref h_t_bookOf, .ref h_t_bookIs, .int f_t_written, .ref h_t_forms, .int f_t_formRing, .int f_t_formMany, .ref h_t_best, .ref h_t_next, .ref h_t_ways, .ref h_t_round, .ref h_t_roughs, .int f_t_latest])), (h_t_w, .inl (cA, 190, .inl f_t_w_1))]) (WC' := [(h_t, .inr (10, [.ref h_t_w, .int f_t_known_1, .int f_t_kept, .int f_t_seed, .ref h_t_imageSeed, .ref h_t_bookOf, .ref h_t_bookIs, .int f_t_written, .ref h_t_forms, .int f_t_formRing, .int f_t_formMany, .ref h_t_best, .ref h_t_next, .ref h_t_ways, .ref h_t_round, .ref h_t_roughs, .int f_t_latest])), (h_t_w, .inl (cA, 190, .inl f_t_w_1))]) (WR := []) (W' := [(h_t, .inr (10, [.ref h_t_w, .int f_t_known_1, .int f_t_kept, .int f_t_seed, .ref h_t_imageSeed, .ref h_t_bookOf, .ref h_t_bookIs, .int f_t_written, .ref h_t_forms, .int f_t_formRing, .int f_t_formMany, .ref h_t_best, .ref h_t_next, .ref h_t_ways, .ref h_t_round, .ref h_t_roughs, .int f_t_latest])), (h_t_w, .inl (cA, 190, .inl f_t_w_1))]) ⟨hx, hb, hml, hown, hts⟩ hK hP hD hS hA (c_Md_changed l dC dI cA fu h_t h_t_w h_t_imageSeed h_t_bookOf h_t_bookIs h_t_forms h_t_best h_t_next h_t_ways h_t_round h_t_roughs f_t_known_1 f_t_kept f_t_seed f_t_written f_t_formRing f_t_formMany f_t_latest f_t_w_1 (f_t_w_1 (2 + a1).toNatClampNeg) a2 a3 r_3 hc61) (cwV 3 hts gX11_change_X11_changed rfl rfl rfl (by decide +kernel) ⟨Nat.le_of_ble_eq_true rfl, Nat.le_of_ble_eq_true rfl⟩) [0, 1] [] [0, 1] rfl rfl rfl rfl (ci := 10) (q0 := 0) rfl rfl rfl rfl hl.1 (Nat.le_of_ble_eq_true rfl) dX11_change_61 ⟨Nat.zero_le _, Nat.zero_le _⟩ (fun H locs hP hD hS => ?_)
        obtain ⟨b64, hm⟩ := ck_go hm
        refine my_iast (W' := fun z' => [(h_t, .inr (10, [.ref h_t_w, .int f_t_known_1, .int f_t_kept, .int f_t_seed, .ref h_t_imageSeed, .ref h_t_bookOf, .ref h_t_bookIs, .int f_t_written, .ref h_t_forms, .int f_t_formRing, .int f_t_formMany, .ref h_t_best, .ref h_t_next, .ref h_t_ways, .ref h_t_round, .ref h_t_roughs, .int f_t_latest])), (h_t_w, .inl (cA, 190, .inl z'))]) hx hb hK hP hD hS 1 0 rfl rfl b64 dX11_change_64 (fun _ => rfl) (fun f_t_w_2 ef_t_w_2 H locs hP hD hS => ?_)
        replace hm := lt_go ef_t_w_2 hm
        refine lv_aload_n hx hb dX11_change_65 rfl (lv_at hl 0 rfl) ?_
        refine va_get (D := (dC, dI)) (ci := 10) (v := .ref h_t_w) (C := RX11) (T := TX11) (N := 17) hx hb hts uX11 hown hK hP 0 rfl rfl 0 (by decide) k4 (fun _ h9 => h9) rfl dX11_change_66 ?_
        refine lv_iconst (v := 2) hx hb dX11_change_69 (by decide) ?_
        refine lv_iload_n hx hb dX11_change_70 rfl (lv_at hl 1 rfl) ?_
        refine lv_iadd hx hb dX11_change_71 ?_
        obtain ⟨b72, hm⟩ := ck_go hm
        refine va_iald hx hb hK hP 1 0 rfl rfl b72 dX11_change_72 ?_
        cases hm
        exact W_mono hQ (W.iret hx hb hr (fun t ht hW => ⟨⟨_, (), rfl, rfl, by rw [ht]; exact hP, va_K.moved hW.alike hK, hD⟩, hS.F ht⟩) hS.2.2 dX11_change_73)
      · replace hm := if_t c25 hm
        refine lv_aload_n hx hb dX11_change_28 rfl (lv_at hl 0 rfl) ?_
        refine lv_iload_n hx hb dX11_change_29 rfl (lv_at hl 3 rfl) ?_
        obtain ⟨r_4, hc30, hm⟩ := bd1_go hm
        refine my_cVi (As := [.int a3]) (rest := []) (WC := [(h_t, .inr (10, [.ref h_t_w, .int f_t_known, .int f_t_kept, .int f_t_seed, .ref h_t_imageSeed, .ref h_t_bookOf, .ref h_t_bookIs, .int f_t_written, .ref h_t_forms, .int f_t_formRing, .int f_t_formMany, .ref h_t_best, .ref h_t_next, .ref h_t_ways, .ref h_t_round, .ref h_t_roughs, .int f_t_latest])), (h_t_w, .inl (cA, 190, .inl f_t_w))]) (WC' := [(h_t, .inr (10, [.ref h_t_w, .int f_t_known, .int f_t_kept, .int f_t_seed, .ref h_t_imageSeed, .ref h_t_bookOf, .ref h_t_bookIs, .int f_t_written, .ref h_t_forms, .int f_t_formRing, .int f_t_formMany, .ref h_t_best, .ref h_t_next, .ref h_t_ways, .ref h_t_round, .ref h_t_roughs, .int f_t_latest])), (h_t_w, .inl (cA, 190, .inl f_t_w))]) (WR := []) (W' := [(h_t, .inr (10, [.ref h_t_w, .int f_t_known, .int f_t_kept, .int f_t_seed, .ref h_t_imageSeed, .ref h_t_bookOf, .ref h_t_bookIs, .int f_t_written, .ref h_t_forms, .int f_t_formRing, .int f_t_formMany, .ref h_t_best, .ref h_t_next, .ref h_t_ways, .ref h_t_round, .ref h_t_roughs, .int f_t_latest])), (h_t_w, .inl (cA, 190, .inl f_t_w))]) ⟨hx, hb, hml, hown, hts⟩ hK hP hD hS hA (c_Md_share l dC dI cA fu h_t h_t_w h_t_imageSeed h_t_bookOf h_t_bookIs h_t_forms h_t_best h_t_next h_t_ways h_t_round h_t_roughs f_t_known f_t_kept f_t_seed f_t_written f_t_formRing f_t_formMany f_t_latest f_t_w a3 r_4 hc30) (cwV 1 hts gX11_change_X11_share rfl rfl rfl (by decide +kernel) ⟨Nat.le_of_ble_eq_true rfl, Nat.le_of_ble_eq_true rfl⟩) [0, 1] [] [0, 1] rfl rfl rfl rfl (ci := 10) (q0 := 0) rfl rfl rfl rfl hl.1 (Nat.le_of_ble_eq_true rfl) dX11_change_30 ⟨Nat.zero_le _, Nat.zero_le _⟩ (fun H locs hP hD hS => ?_)
        refine lv_if_eq (tgt := 39) hx hb dX11_change_33 (by decide) (fun c33 => ?_) (fun c33 => ?_)
        · replace hm := if_t c33 hm
          refine lv_aload_n hx hb dX11_change_39 rfl (lv_at hl 0 rfl) ?_
          obtain ⟨f_t_known_2, f_t_w_3, hc40, hm⟩ := bd2_go hm
          refine my_cVv (As := []) (rest := []) (WC := [(h_t, .inr (10, [.ref h_t_w, .int f_t_known, .int f_t_kept, .int f_t_seed, .ref h_t_imageSeed, .ref h_t_bookOf, .ref h_t_bookIs, .int f_t_written, .ref h_t_forms, .int f_t_formRing, .int f_t_formMany, .ref h_t_best, .ref h_t_next, .ref h_t_ways, .ref h_t_round, .ref h_t_roughs, .int f_t_latest])), (h_t_w, .inl (cA, 190, .inl f_t_w))]) (WC' := [(h_t, .inr (10, [.ref h_t_w, .int f_t_known_2, .int f_t_kept, .int f_t_seed, .ref h_t_imageSeed, .ref h_t_bookOf, .ref h_t_bookIs, .int f_t_written, .ref h_t_forms, .int f_t_formRing, .int f_t_formMany, .ref h_t_best, .ref h_t_next, .ref h_t_ways, .ref h_t_round, .ref h_t_roughs, .int f_t_latest])), (h_t_w, .inl (cA, 190, .inl f_t_w_3))]) (WR := []) (W' := [(h_t, .inr (10, [.ref h_t_w, .int f_t_known_2, .int f_t_kept, .int f_t_seed, .ref h_t_imageSeed, .ref h_t_bookOf, .ref h_t_bookIs, .int f_t_written, .ref h_t_forms, .int f_t_formRing, .int f_t_formMany, .ref h_t_best, .ref h_t_next, .ref h_t_ways, .ref h_t_round, .ref h_t_roughs, .int f_t_latest])), (h_t_w, .inl (cA, 190, .inl f_t_w_3))]) ⟨hx, hb, hml, hown, hts⟩ hK hP hD hS hA (c_Md_remember l dC dI cA fu h_t h_t_w h_t_imageSeed h_t_bookOf h_t_bookIs h_t_forms h_t_best h_t_next h_t_ways h_t_round h_t_roughs f_t_known f_t_kept f_t_seed f_t_written f_t_formRing f_t_formMany f_t_latest f_t_w f_t_known_2 f_t_w_3 hc40) (cwV 0 hts gX11_change_X11_remember rfl rfl rfl (by decide +kernel) ⟨Nat.le_of_ble_eq_true rfl, Nat.le_of_ble_eq_true rfl⟩) [0, 1] [] [0, 1] rfl rfl rfl rfl (ci := 10) (q0 := 0) rfl rfl rfl rfl hl.1 (Nat.le_of_ble_eq_true rfl) dX11_change_40 ⟨Nat.zero_le _, Nat.zero_le _⟩ (fun H locs hP hD hS => ?_)
          refine lv_aload_n hx hb dX11_change_43 rfl (lv_at hl 0 rfl) ?_
          refine va_get (D := (dC, dI)) (ci := 10) (v := .ref h_t_w) (C := RX11) (T := TX11) (N := 17) hx hb hts uX11 hown hK hP 0 rfl rfl 0 (by decide) k4 (fun _ h9 => h9) rfl dX11_change_44 ?_
          refine lv_iconst (v := 2) hx hb dX11_change_47 (by decide) ?_
          refine lv_iload_n hx hb dX11_change_48 rfl (lv_at hl 1 rfl) ?_
          refine lv_iadd hx hb dX11_change_49 ?_
          refine lv_aload_n hx hb dX11_change_50 rfl (lv_at hl 0 rfl) ?_
          refine lv_aload_n hx hb dX11_change_51 rfl (lv_at hl 0 rfl) ?_
          refine va_get (D := (dC, dI)) (ci := 10) (v := .ref h_t_w) (C := RX11) (T := TX11) (N := 17) hx hb hts uX11 hown hK hP 0 rfl rfl 0 (by decide) k4 (fun _ h9 => h9) rfl dX11_change_52 ?_
          refine lv_iconst (v := 2) hx hb dX11_change_55 (by decide) ?_
          refine lv_iload_n hx hb dX11_change_56 rfl (lv_at hl 1 rfl) ?_
          refine lv_iadd hx hb dX11_change_57 ?_
          obtain ⟨b58, hm⟩ := ck_go hm
          refine va_iald hx hb hK hP 1 0 rfl rfl b58 dX11_change_58 ?_
          refine lv_iload_n hx hb dX11_change_59 rfl (lv_at hl 2 rfl) ?_
          refine lv_iload_n hx hb dX11_change_60 rfl (lv_at hl 3 rfl) ?_
          obtain ⟨r_5, hc61, hm⟩ := bd1_go hm
          refine my_cVi (As := [.int (f_t_w_3 (2 + a1).toNatClampNeg), .int a2, .int a3]) (rest := [.int (2 + a1), .ref h_t_w]) (WC := [(h_t, .inr (10, [.ref h_t_w, .int f_t_known_2, .int f_t_kept, .int f_t_seed, .ref h_t_imageSeed, .ref h_t_bookOf, .ref h_t_bookIs, .int f_t_written, .ref h_t_forms, .int f_t_formRing, .int f_t_formMany, .ref h_t_best, .ref h_t_next, .ref h_t_ways, .ref h_t_round, .ref h_t_roughs, .int f_t_latest])), (h_t_w, .inl (cA, 190, .inl f_t_w_3))]) (WC' := [(h_t, .inr (10, [.ref h_t_w, .int f_t_known_2, .int f_t_kept, .int f_t_seed, .ref h_t_imageSeed, .ref h_t_bookOf, .ref h_t_bookIs, .int f_t_written, .ref h_t_forms, .int f_t_formRing, .int f_t_formMany, .ref h_t_best, .ref h_t_next, .ref h_t_ways, .ref h_t_round, .ref h_t_roughs, .int f_t_latest])), (h_t_w, .inl (cA, 190, .inl f_t_w_3))]) (WR := []) (W' := [(h_t, .inr (10, [.ref h_t_w, .int f_t_known_2, .int f_t_kept, .int f_t_seed, .ref h_t_imageSeed, .ref h_t_bookOf, .ref h_t_bookIs, .int f_t_written, .ref h_t_forms, .int f_t_formRing, .int f_t_formMany, .ref h_t_best, .ref h_t_next, .ref h_t_ways, .ref h_t_round, .ref h_t_roughs, .int f_t_latest])), (h_t_w, .inl (cA, 190, .inl f_t_w_3))]) ⟨hx, hb, hml, hown, hts⟩ hK hP hD hS hA (c_Md_changed l dC dI cA fu h_t h_t_w h_t_imageSeed h_t_bookOf h_t_bookIs h_t_forms h_t_best h_t_next h_t_ways h_t_round h_t_roughs f_t_known_2 f_t_kept f_t_seed f_t_written f_t_formRing f_t_formMany f_t_latest f_t_w_3 (f_t_w_3 (2 + a1).toNatClampNeg) a2 a3 r_5 hc61) (cwV 3 hts gX11_change_X11_changed rfl rfl rfl (by decide +kernel) ⟨Nat.le_of_ble_eq_true rfl, Nat.le_of_ble_eq_true rfl⟩) [0, 1] [] [0, 1] rfl rfl rfl rfl (ci := 10) (q0 := 0) rfl rfl rfl rfl hl.1 (Nat.le_of_ble_eq_true rfl) dX11_change_61 ⟨Nat.zero_le _, Nat.zero_le _⟩ (fun H locs hP hD hS => ?_)
          obtain ⟨b64, hm⟩ := ck_go hm
          refine my_iast (W' := fun z' => [(h_t, .inr (10, [.ref h_t_w, .int f_t_known_2, .int f_t_kept, .int f_t_seed, .ref h_t_imageSeed, .ref h_t_bookOf, .ref h_t_bookIs, .int f_t_written, .ref h_t_forms, .int f_t_formRing, .int f_t_formMany, .ref h_t_best, .ref h_t_next, .ref h_t_ways, .ref h_t_round, .ref h_t_roughs, .int f_t_latest])), (h_t_w, .inl (cA, 190, .inl z'))]) hx hb hK hP hD hS 1 0 rfl rfl b64 dX11_change_64 (fun _ => rfl) (fun f_t_w_4 ef_t_w_4 H locs hP hD hS => ?_)
          replace hm := lt_go ef_t_w_4 hm
          refine lv_aload_n hx hb dX11_change_65 rfl (lv_at hl 0 rfl) ?_
          refine va_get (D := (dC, dI)) (ci := 10) (v := .ref h_t_w) (C := RX11) (T := TX11) (N := 17) hx hb hts uX11 hown hK hP 0 rfl rfl 0 (by decide) k4 (fun _ h9 => h9) rfl dX11_change_66 ?_
          refine lv_iconst (v := 2) hx hb dX11_change_69 (by decide) ?_
          refine lv_iload_n hx hb dX11_change_70 rfl (lv_at hl 1 rfl) ?_
          refine lv_iadd hx hb dX11_change_71 ?_
          obtain ⟨b72, hm⟩ := ck_go hm
          refine va_iald hx hb hK hP 1 0 rfl rfl b72 dX11_change_72 ?_
          cases hm
          exact W_mono hQ (W.iret hx hb hr (fun t ht hW => ⟨⟨_, (), rfl, rfl, by rw [ht]; exact hP, va_K.moved hW.alike hK, hD⟩, hS.F ht⟩) hS.2.2 dX11_change_73)
        · replace hm := if_f c33 hm
          refine lv_ldc (v := (-1000000003)) hx hb hown k3 dX11_change_36 ?_
          cases hm
          exact W_mono hQ (W.iret hx hb hr (fun t ht hW => ⟨⟨_, (), rfl, rfl, by rw [ht]; exact hP, va_K.moved hW.alike hK, hD⟩, hS.F ht⟩) hS.2.2 dX11_change_38)
    · replace hm := if_t c17 hm
      refine lv_ldc (v := (-1000000002)) hx hb hown k2 dX11_change_20 ?_
      cases hm
      exact W_mono hQ (W.iret hx hb hr (fun t ht hW => ⟨⟨_, (), rfl, rfl, by rw [ht]; exact hP, va_K.moved hW.alike hK, hD⟩, hS.F ht⟩) hS.2.2 dX11_change_22)
  · replace hm := if_t c5 hm
    refine lv_ldc (v := (-1000000001)) hx hb hown k1 dX11_change_8 ?_
    cases hm
    exact W_mono hQ (W.iret hx hb hr (fun t ht hW => ⟨⟨_, (), rfl, rfl, by rw [ht]; exact hP, va_K.moved hW.alike hK, hD⟩, hS.F ht⟩) hS.2.2 dX11_change_10)
abbrev rmX11_draw : Room := { frames := 0, cells := 0, slots := 0, locals := 0 }
theorem uX11_X11_draw : ∀ w ∈ wsX110, w ∈ wsX11_draw := fun _ h => List.mem_cons_of_mem _ (List.mem_append_right _ (h))
set_option maxHeartbeats 40000000 in
set_option maxRecDepth 100000 in
theorem c_Md_draw (l : Launch) (dC : Nat → ClassId) (dI : Nat → Nat → Nat) (cA : ClassId) (h_t h_t_w h_t_imageSeed h_t_bookOf h_t_bookIs h_t_forms h_t_best h_t_next h_t_ways h_t_round h_t_roughs : Nat) (f_t_known : Int32) (f_t_kept : Int32) (f_t_seed : Int32) (f_t_written : Int32) (f_t_formRing : Int32) (f_t_formMany : Int32) (f_t_latest : Int32) (a1 : Int32) (r0 : Int32) (f_t_seed_z : Int32) (hm : m_Md_draw f_t_seed a1 = some (r0, f_t_seed_z)) (sz : Nat) : Met l yX11_draw wsX11_draw rmX11_draw (mPre (dC, dI) cA [.ref h_t, .int a1] sz [(h_t, .inr (10, [.ref h_t_w, .int f_t_known, .int f_t_kept, .int f_t_seed, .ref h_t_imageSeed, .ref h_t_bookOf, .ref h_t_bookIs, .int f_t_written, .ref h_t_forms, .int f_t_formRing, .int f_t_formMany, .ref h_t_best, .ref h_t_next, .ref h_t_ways, .ref h_t_round, .ref h_t_roughs, .int f_t_latest]))]) (mPosI (dC, dI) cA r0 (va_A [(h_t, .inr (10, [.ref h_t_w, .int f_t_known, .int f_t_kept, .int f_t_seed, .ref h_t_imageSeed, .ref h_t_bookOf, .ref h_t_bookIs, .int f_t_written, .ref h_t_forms, .int f_t_formRing, .int f_t_formMany, .ref h_t_best, .ref h_t_next, .ref h_t_ways, .ref h_t_round, .ref h_t_roughs, .int f_t_latest]))] sz) [(h_t, .inr (10, [.ref h_t_w, .int f_t_known, .int f_t_kept, .int f_t_seed_z, .ref h_t_imageSeed, .ref h_t_bookOf, .ref h_t_bookIs, .int f_t_written, .ref h_t_forms, .int f_t_formRing, .int f_t_formMany, .ref h_t_best, .ref h_t_next, .ref h_t_ways, .ref h_t_round, .ref h_t_roughs, .int f_t_latest]))]) 0 0 (va_A [(h_t, .inr (10, [.ref h_t_w, .int f_t_known, .int f_t_kept, .int f_t_seed, .ref h_t_imageSeed, .ref h_t_bookOf, .ref h_t_bookIs, .int f_t_written, .ref h_t_forms, .int f_t_formRing, .int f_t_formMany, .ref h_t_best, .ref h_t_next, .ref h_t_ways, .ref h_t_round, .ref h_t_roughs, .int f_t_latest]))] sz) := by
  refine Met.ofW (cc := cX11_draw) (maxL := 2) (ret := (some .int)) (by decide) rfl ?_
  intro p e s m args below meth c s₁ B hml hv
  obtain ⟨rfl, hsz, hP, hK, hD0⟩ := hv
  refine W_gen (fun Q hQ => ?_)
  have hx := B.exec
  have hb := B.bytes
  have hr := B.returns
  have hts := atoms_spec (ws := wsX11_draw) B.pre
  have hown : s.vm.findClass RX11 = some m.cls := findClass_of_methodNamed B.named
  have hlocks := B.notSynchronized
  subst hsz
  have hD := hD0.self (sz := s.heap.size)
  clear hD0
  generalize hAe : va_A [(h_t, .inr (10, [.ref h_t_w, .int f_t_known, .int f_t_kept, .int f_t_seed, .ref h_t_imageSeed, .ref h_t_bookOf, .ref h_t_bookIs, .int f_t_written, .ref h_t_forms, .int f_t_formRing, .int f_t_formMany, .ref h_t_best, .ref h_t_next, .ref h_t_ways, .ref h_t_round, .ref h_t_roughs, .int f_t_latest]))] s.heap.size = A at hD hQ
  have hA : ∀ q : Nat, s.heap.size ≤ q → A q := fun q h => by rw [← hAe]; exact Or.inr h
  clear hAe
  have hS : va_S A s.heap s.heap [] := va_S.rf
  have hl := lv_entry ([.ref h_t, .int a1]) (n := 2) (Nat.le_of_ble_eq_true rfl)
  rw [lg_entry_eq]
  generalize (lg_sl ([.ref h_t, .int a1]) ++ List.replicate (2 - (lg_sl ([.ref h_t, .int a1])).length) Slot.unset).toArray = ls at hl ⊢
  have hl : lv_has ls 2 [(0, .ref h_t), (1, .int a1)] := hl
  have k1 := hts (.fieldLink RX11 140 "ToneSetsModel" "seed" "I") (List.mem_of_getElem? (i := 1) rfl)
  have k2 := hts (.constantLong RX11 193 (1103515245)) (List.mem_of_getElem? (i := 2) rfl)
  have k3 := hts (.constantLong RX11 195 (12345)) (List.mem_of_getElem? (i := 3) rfl)
  have k4 := hts (.constantLong RX11 197 (2147483648)) (List.mem_of_getElem? (i := 4) rfl)
  have k5 := hts (.constant RX11 199 (65536)) (List.mem_of_getElem? (i := 5) rfl)
  have uX11 := uX11_X11_draw
  unfold m_Md_draw at hm
  refine lv_aload_n hx hb dX11_draw_0 rfl (lv_at hl 0 rfl) ?_
  refine lv_aload_n hx hb dX11_draw_1 rfl (lv_at hl 0 rfl) ?_
  refine va_get (D := (dC, dI)) (ci := 10) (v := .int f_t_seed) (C := RX11) (T := TX11) (N := 17) hx hb hts uX11 hown hK hP 0 rfl rfl 3 (by decide) k1 (fun _ h9 => h9) rfl dX11_draw_2 ?_
  refine lv_i2l (v := Int32.toInt64 f_t_seed) hx hb dX11_draw_5 rfl ?_
  refine lv_ldc2 (v := 1103515245) hx hb hown k2 dX11_draw_6 ?_
  refine lv_lmul hx hb dX11_draw_9 ?_
  refine lv_ldc2 (v := 12345) hx hb hown k3 dX11_draw_10 ?_
  refine lv_ladd hx hb dX11_draw_13 ?_
  refine lv_ldc2 (v := 2147483648) hx hb hown k4 dX11_draw_14 ?_
  refine lv_lrem hx hb dX11_draw_17 (by decide) ?_
  refine lv_l2i (v := Int64.toInt32 ((((Int32.toInt64 f_t_seed) * 1103515245) + 12345) - (((Int32.toInt64 f_t_seed) * 1103515245) + 12345) / 2147483648 * 2147483648)) hx hb dX11_draw_18 rfl ?_
  refine lv_topi (fun f_t_seed_1 ef_t_seed_1 => ?_)
  replace hm := lt_go ef_t_seed_1 hm
  refine my_put (W' := [(h_t, .inr (10, [.ref h_t_w, .int f_t_known, .int f_t_kept, .int f_t_seed_1, .ref h_t_imageSeed, .ref h_t_bookOf, .ref h_t_bookIs, .int f_t_written, .ref h_t_forms, .int f_t_formRing, .int f_t_formMany, .ref h_t_best, .ref h_t_next, .ref h_t_ways, .ref h_t_round, .ref h_t_roughs, .int f_t_latest]))]) (ci := 10) (v := .int f_t_seed_1) (ty := .int) (C := RX11) (T := TX11) (N := 17) hx hb hts uX11 tyX11 tyX11_ok nmX11 hown hK hP hD hS 0 rfl rfl 3 (by decide) k1 (fun _ h9 => h9) rfl (by decide +kernel) rfl rfl (Nat.le_of_ble_eq_true rfl) dX11_draw_19 rfl (fun H locs hP hD hS => ?_)
  refine lv_aload_n hx hb dX11_draw_22 rfl (lv_at hl 0 rfl) ?_
  refine va_get (D := (dC, dI)) (ci := 10) (v := .int f_t_seed_1) (C := RX11) (T := TX11) (N := 17) hx hb hts uX11 hown hK hP 0 rfl rfl 3 (by decide) k1 (fun _ h9 => h9) rfl dX11_draw_23 ?_
  refine lv_ldc (v := 65536) hx hb hown k5 dX11_draw_26 ?_
  refine lv_idiv hx hb dX11_draw_28 (by decide) ?_
  refine lv_iload_n hx hb dX11_draw_29 rfl (lv_at hl 1 rfl) ?_
  obtain ⟨d30, hm⟩ := dv_go hm
  refine lv_irem hx hb dX11_draw_30 d30 ?_
  cases hm
  exact W_mono hQ (W.iret hx hb hr (fun t ht hW => ⟨⟨_, (), rfl, rfl, by rw [ht]; exact hP, va_K.moved hW.alike hK, hD⟩, hS.F ht⟩) hS.2.2 dX11_draw_31)
abbrev rmX11_drift : Room := { frames := 3, cells := 0, slots := 0, locals := 65 }
theorem uX11_X11_drift : ∀ w ∈ wsX110, w ∈ wsX11_drift := fun _ h => List.mem_cons_of_mem _ (List.mem_append_right _ (h))
set_option maxHeartbeats 40000000 in
set_option maxRecDepth 100000 in
theorem c_Md_drift (l : Launch) (dC : Nat → ClassId) (dI : Nat → Nat → Nat) (cA : ClassId) (fu : Nat) (h_t h_t_w h_t_imageSeed h_t_bookOf h_t_bookIs h_t_forms h_t_best h_t_next h_t_ways h_t_round h_t_roughs : Nat) (f_t_known : Int32) (f_t_kept : Int32) (f_t_seed : Int32) (f_t_written : Int32) (f_t_formRing : Int32) (f_t_formMany : Int32) (f_t_latest : Int32) (f_t_w : Nat → Int32) (a1 : Int32) (r0 : Int32) (f_t_known_z : Int32) (f_t_latest_z : Int32) (f_t_seed_z : Int32) (f_t_w_z : Nat → Int32) (hm : m_Md_drift fu f_t_known f_t_latest f_t_seed f_t_w a1 = some (r0, f_t_known_z, f_t_latest_z, f_t_seed_z, f_t_w_z)) (sz : Nat) : Met l yX11_drift wsX11_drift rmX11_drift (mPre (dC, dI) cA [.ref h_t, .int a1] sz [(h_t, .inr (10, [.ref h_t_w, .int f_t_known, .int f_t_kept, .int f_t_seed, .ref h_t_imageSeed, .ref h_t_bookOf, .ref h_t_bookIs, .int f_t_written, .ref h_t_forms, .int f_t_formRing, .int f_t_formMany, .ref h_t_best, .ref h_t_next, .ref h_t_ways, .ref h_t_round, .ref h_t_roughs, .int f_t_latest])), (h_t_w, .inl (cA, 190, .inl f_t_w))]) (mPosI (dC, dI) cA r0 (va_A [(h_t, .inr (10, [.ref h_t_w, .int f_t_known, .int f_t_kept, .int f_t_seed, .ref h_t_imageSeed, .ref h_t_bookOf, .ref h_t_bookIs, .int f_t_written, .ref h_t_forms, .int f_t_formRing, .int f_t_formMany, .ref h_t_best, .ref h_t_next, .ref h_t_ways, .ref h_t_round, .ref h_t_roughs, .int f_t_latest])), (h_t_w, .inl (cA, 190, .inl f_t_w))] sz) [(h_t, .inr (10, [.ref h_t_w, .int f_t_known_z, .int f_t_kept, .int f_t_seed_z, .ref h_t_imageSeed, .ref h_t_bookOf, .ref h_t_bookIs, .int f_t_written, .ref h_t_forms, .int f_t_formRing, .int f_t_formMany, .ref h_t_best, .ref h_t_next, .ref h_t_ways, .ref h_t_round, .ref h_t_roughs, .int f_t_latest_z])), (h_t_w, .inl (cA, 190, .inl f_t_w_z))]) 0 0 (va_A [(h_t, .inr (10, [.ref h_t_w, .int f_t_known, .int f_t_kept, .int f_t_seed, .ref h_t_imageSeed, .ref h_t_bookOf, .ref h_t_bookIs, .int f_t_written, .ref h_t_forms, .int f_t_formRing, .int f_t_formMany, .ref h_t_best, .ref h_t_next, .ref h_t_ways, .ref h_t_round, .ref h_t_roughs, .int f_t_latest])), (h_t_w, .inl (cA, 190, .inl f_t_w))] sz) := by
  refine Met.ofW (cc := cX11_drift) (maxL := 3) (ret := (some .int)) (by decide) rfl ?_
  intro p e s m args below meth c s₁ B hml hv
  obtain ⟨rfl, hsz, hP, hK, hD0⟩ := hv
  refine W_gen (fun Q hQ => ?_)
  have hx := B.exec
  have hb := B.bytes
  have hr := B.returns
  have hts := atoms_spec (ws := wsX11_drift) B.pre
  have hown : s.vm.findClass RX11 = some m.cls := findClass_of_methodNamed B.named
  have hlocks := B.notSynchronized
  subst hsz
  have hD := hD0.self (sz := s.heap.size)
  clear hD0
  generalize hAe : va_A [(h_t, .inr (10, [.ref h_t_w, .int f_t_known, .int f_t_kept, .int f_t_seed, .ref h_t_imageSeed, .ref h_t_bookOf, .ref h_t_bookIs, .int f_t_written, .ref h_t_forms, .int f_t_formRing, .int f_t_formMany, .ref h_t_best, .ref h_t_next, .ref h_t_ways, .ref h_t_round, .ref h_t_roughs, .int f_t_latest])), (h_t_w, .inl (cA, 190, .inl f_t_w))] s.heap.size = A at hD hQ
  have hA : ∀ q : Nat, s.heap.size ≤ q → A q := fun q h => by rw [← hAe]; exact Or.inr h
  clear hAe
  have hS : va_S A s.heap s.heap [] := va_S.rf
  have hl := lv_entry ([.ref h_t, .int a1]) (n := 3) (Nat.le_of_ble_eq_true rfl)
  rw [lg_entry_eq]
  generalize (lg_sl ([.ref h_t, .int a1]) ++ List.replicate (3 - (lg_sl ([.ref h_t, .int a1])).length) Slot.unset).toArray = ls at hl ⊢
  have hl : lv_has ls 3 [(0, .ref h_t), (1, .int a1)] := hl
  have k1 := hts (.constantLong RX11 200 (8)) (List.mem_of_getElem? (i := 1) rfl)
  have k3 := hts (.fieldLink RX11 7 "ToneSetsModel" "w" "[I") (List.mem_of_getElem? (i := 3) rfl)
  have k4 := hts (.fieldLink RX11 205 "ToneSetsModel" "latest" "I") (List.mem_of_getElem? (i := 4) rfl)
  have k2 := hts (.constant RX11 143 (-1000000002)) (List.mem_of_getElem? (i := 2) rfl)
  have uX11 := uX11_X11_drift
  unfold m_Md_drift at hm
  refine lv_iload_n hx hb dX11_drift_0 rfl (lv_at hl 1 rfl) ?_
  refine lv_i2l (v := Int32.toInt64 a1) hx hb dX11_drift_1 rfl ?_
  refine lv_lconst (v := 1) hx hb dX11_drift_2 (by decide) ?_
  refine lv_ldc2 (v := 8) hx hb hown k1 dX11_drift_3 ?_
  obtain ⟨r_1, hc6, hm⟩ := bd1_go hm
  refine my_cSi (As := [.long (Int32.toInt64 a1), .long 1, .long 8]) (rest := []) (WC := []) (WC' := []) (WR := [(h_t, .inr (10, [.ref h_t_w, .int f_t_known, .int f_t_kept, .int f_t_seed, .ref h_t_imageSeed, .ref h_t_bookOf, .ref h_t_bookIs, .int f_t_written, .ref h_t_forms, .int f_t_formRing, .int f_t_formMany, .ref h_t_best, .ref h_t_next, .ref h_t_ways, .ref h_t_round, .ref h_t_roughs, .int f_t_latest])), (h_t_w, .inl (cA, 190, .inl f_t_w))]) (W' := [(h_t, .inr (10, [.ref h_t_w, .int f_t_known, .int f_t_kept, .int f_t_seed, .ref h_t_imageSeed, .ref h_t_bookOf, .ref h_t_bookIs, .int f_t_written, .ref h_t_forms, .int f_t_formRing, .int f_t_formMany, .ref h_t_best, .ref h_t_next, .ref h_t_ways, .ref h_t_round, .ref h_t_roughs, .int f_t_latest])), (h_t_w, .inl (cA, 190, .inl f_t_w))]) ⟨hx, hb, hml, hown, hts⟩ hK hP hD hS hA (c_Md_in l dC dI cA (Int32.toInt64 a1) 1 8 r_1 hc6) (va_cwS 3 hts gX11_drift_X11_in rfl rfl rfl (by decide +kernel) ⟨Nat.le_of_ble_eq_true rfl, Nat.le_of_ble_eq_true rfl⟩) [] [0, 1] [0, 1] rfl rfl rfl rfl rfl rfl hl.1 (Nat.le_of_ble_eq_true rfl) dX11_drift_6 ⟨Nat.zero_le _, Nat.zero_le _⟩ (fun H locs hP hD hS => ?_)
  refine lv_if_ne (tgt := 15) hx hb dX11_drift_9 (by decide) (fun c9 => ?_) (fun c9 => ?_)
  · replace hm := if_f c9 hm
    refine lv_iconst (v := 0) hx hb dX11_drift_15 (by decide) ?_
    refine lv_topi (fun v2_1 ev2_1 => ?_)
    replace hm := lt_go ev2_1 hm
    refine lv_istore_n (lv' := [(2, .int v2_1), (0, .ref h_t), (1, .int a1)]) hx hb dX11_drift_16 rfl hl (by decide) rfl (fun ls hl => ?_)
    have L17 : ∀ (n : Nat) (v2_2 : Int32) (f_t_known_1 : Int32) (f_t_latest_1 : Int32) (f_t_seed_1 : Int32) (f_t_w_1 : Nat → Int32) (f_t_known_2 : Int32) (f_t_latest_2 : Int32) (f_t_seed_2 : Int32) (f_t_w_2 : Nat → Int32), m_Md_drift_L17 fu a1 n v2_2 f_t_known_1 f_t_latest_1 f_t_seed_1 f_t_w_1 = some (f_t_known_2, f_t_latest_2, f_t_seed_2, f_t_w_2) → ∀ (H : Heap) (locs : List Loc), va_P (dC, dI) vwCl [(h_t, .inr (10, [.ref h_t_w, .int f_t_known_1, .int f_t_kept, .int f_t_seed_1, .ref h_t_imageSeed, .ref h_t_bookOf, .ref h_t_bookIs, .int f_t_written, .ref h_t_forms, .int f_t_formRing, .int f_t_formMany, .ref h_t_best, .ref h_t_next, .ref h_t_ways, .ref h_t_round, .ref h_t_roughs, .int f_t_latest_1])), (h_t_w, .inl (cA, 190, .inl f_t_w_1))] H → va_D A [(h_t, .inr (10, [.ref h_t_w, .int f_t_known_1, .int f_t_kept, .int f_t_seed_1, .ref h_t_imageSeed, .ref h_t_bookOf, .ref h_t_bookIs, .int f_t_written, .ref h_t_forms, .int f_t_formRing, .int f_t_formMany, .ref h_t_best, .ref h_t_next, .ref h_t_ways, .ref h_t_round, .ref h_t_roughs, .int f_t_latest_1])), (h_t_w, .inl (cA, 190, .inl f_t_w_1))] → va_S A s.heap H locs → ∀ ls : Array Slot, lv_has ls 3 [(0, .ref h_t), (1, .int a1), (2, .int v2_2)] → (∀ (H : Heap) (locs : List Loc), va_P (dC, dI) vwCl [(h_t, .inr (10, [.ref h_t_w, .int f_t_known_2, .int f_t_kept, .int f_t_seed_2, .ref h_t_imageSeed, .ref h_t_bookOf, .ref h_t_bookIs, .int f_t_written, .ref h_t_forms, .int f_t_formRing, .int f_t_formMany, .ref h_t_best, .ref h_t_next, .ref h_t_ways, .ref h_t_round, .ref h_t_roughs, .int f_t_latest_2])), (h_t_w, .inl (cA, 190, .inl f_t_w_2))] H → va_D A [(h_t, .inr (10, [.ref h_t_w, .int f_t_known_2, .int f_t_kept, .int f_t_seed_2, .ref h_t_imageSeed, .ref h_t_bookOf, .ref h_t_bookIs, .int f_t_written, .ref h_t_forms, .int f_t_formRing, .int f_t_formMany, .ref h_t_best, .ref h_t_next, .ref h_t_ways, .ref h_t_round, .ref h_t_roughs, .int f_t_latest_2])), (h_t_w, .inl (cA, 190, .inl f_t_w_2))] → va_S A s.heap H locs → ∀ ls : Array Slot, lv_has ls 3 [(0, .ref h_t)] → W p l e (headSpec wsX11_drift rmX11_drift).room s m (([.ref h_t, .int a1] : List Value).toArray) below meth c H locs 0 0 Q (F0 m 57 ls [])) → W p l e (headSpec wsX11_drift rmX11_drift).room s m (([.ref h_t, .int a1] : List Value).toArray) below meth c H locs 0 0 Q (F0 m 17 ls []) := by
      clear hm hP hD hS hl
      intro n
      induction n with
      | zero => intro _ _ _ _ _ _ _ _ _ hm; exact nomatch (show none = some _ from hm)
      | succ n ih =>
        intro v2_2 f_t_known_1 f_t_latest_1 f_t_seed_1 f_t_w_1 f_t_known_2 f_t_latest_2 f_t_seed_2 f_t_w_2 hm H locs hP hD hS ls hl KK
        unfold m_Md_drift_L17 at hm
        refine lv_iload_n hx hb dX11_drift_17 rfl (lv_at hl 2 rfl) ?_
        refine lv_iload_n hx hb dX11_drift_18 rfl (lv_at hl 1 rfl) ?_
        refine lv_icmp_ge (tgt := 57) hx hb dX11_drift_19 (by decide) (fun c19 => ?_) (fun c19 => ?_)
        · replace hm := if_t c19 hm
          cases hm
          exact KK _ _ hP hD hS _ (lv_sub hl [0] rfl)
        · replace hm := if_f c19 hm
          refine lv_aload_n hx hb dX11_drift_22 rfl (lv_at hl 0 rfl) ?_
          refine va_get (D := (dC, dI)) (ci := 10) (v := .ref h_t_w) (C := RX11) (T := TX11) (N := 17) hx hb hts uX11 hown hK hP 0 rfl rfl 0 (by decide) k3 (fun _ h9 => h9) rfl dX11_drift_23 ?_
          refine lv_iconst (v := 1) hx hb dX11_drift_26 (by decide) ?_
          obtain ⟨b27, hm⟩ := ck_go hm
          refine va_iald hx hb hK hP 1 0 rfl rfl b27 dX11_drift_27 ?_
          refine lv_bipush (v := 8) hx hb dX11_drift_28 (by decide) ?_
          refine lv_icmp_ge (tgt := 57) hx hb dX11_drift_30 (by decide) (fun c30 => ?_) (fun c30 => ?_)
          · replace hm := if_t c30 hm
            cases hm
            exact KK _ _ hP hD hS _ (lv_sub hl [0] rfl)
          · replace hm := if_f c30 hm
            refine lv_aload_n hx hb dX11_drift_33 rfl (lv_at hl 0 rfl) ?_
            refine lv_aload_n hx hb dX11_drift_34 rfl (lv_at hl 0 rfl) ?_
            refine lv_aload_n hx hb dX11_drift_35 rfl (lv_at hl 0 rfl) ?_
            refine lv_iconst (v := 1) hx hb dX11_drift_36 (by decide) ?_
            refine lv_aload_n hx hb dX11_drift_37 rfl (lv_at hl 0 rfl) ?_
            obtain ⟨r_2, hc38, hm⟩ := bd1_go hm
            refine my_cVi (As := []) (rest := [.int 1, .ref h_t, .ref h_t, .ref h_t]) (WC := [(h_t, .inr (10, [.ref h_t_w, .int f_t_known_1, .int f_t_kept, .int f_t_seed_1, .ref h_t_imageSeed, .ref h_t_bookOf, .ref h_t_bookIs, .int f_t_written, .ref h_t_forms, .int f_t_formRing, .int f_t_formMany, .ref h_t_best, .ref h_t_next, .ref h_t_ways, .ref h_t_round, .ref h_t_roughs, .int f_t_latest_1])), (h_t_w, .inl (cA, 190, .inl f_t_w_1))]) (WC' := [(h_t, .inr (10, [.ref h_t_w, .int f_t_known_1, .int f_t_kept, .int f_t_seed_1, .ref h_t_imageSeed, .ref h_t_bookOf, .ref h_t_bookIs, .int f_t_written, .ref h_t_forms, .int f_t_formRing, .int f_t_formMany, .ref h_t_best, .ref h_t_next, .ref h_t_ways, .ref h_t_round, .ref h_t_roughs, .int f_t_latest_1])), (h_t_w, .inl (cA, 190, .inl f_t_w_1))]) (WR := []) (W' := [(h_t, .inr (10, [.ref h_t_w, .int f_t_known_1, .int f_t_kept, .int f_t_seed_1, .ref h_t_imageSeed, .ref h_t_bookOf, .ref h_t_bookIs, .int f_t_written, .ref h_t_forms, .int f_t_formRing, .int f_t_formMany, .ref h_t_best, .ref h_t_next, .ref h_t_ways, .ref h_t_round, .ref h_t_roughs, .int f_t_latest_1])), (h_t_w, .inl (cA, 190, .inl f_t_w_1))]) ⟨hx, hb, hml, hown, hts⟩ hK hP hD hS hA (c_Md_m l dC dI cA h_t h_t_w h_t_imageSeed h_t_bookOf h_t_bookIs h_t_forms h_t_best h_t_next h_t_ways h_t_round h_t_roughs f_t_known_1 f_t_kept f_t_seed_1 f_t_written f_t_formRing f_t_formMany f_t_latest_1 f_t_w_1 r_2 hc38) (cwV 0 hts gX11_drift_X11_m rfl rfl rfl (by decide +kernel) ⟨Nat.le_of_ble_eq_true rfl, Nat.le_of_ble_eq_true rfl⟩) [0, 1] [] [0, 1] rfl rfl rfl rfl (ci := 10) (q0 := 0) rfl rfl rfl rfl hl.1 (Nat.le_of_ble_eq_true rfl) dX11_drift_38 ⟨Nat.zero_le _, Nat.zero_le _⟩ (fun H locs hP hD hS => ?_)
            refine lv_ishl hx hb dX11_drift_41 ?_
            obtain ⟨r_3, f_t_seed_3, hc42, hm⟩ := bd2_go hm
            refine my_cVi (As := [.int ((1 : Int32) <<< (r_2 &&& 31))]) (rest := [.ref h_t, .ref h_t]) (WC := [(h_t, .inr (10, [.ref h_t_w, .int f_t_known_1, .int f_t_kept, .int f_t_seed_1, .ref h_t_imageSeed, .ref h_t_bookOf, .ref h_t_bookIs, .int f_t_written, .ref h_t_forms, .int f_t_formRing, .int f_t_formMany, .ref h_t_best, .ref h_t_next, .ref h_t_ways, .ref h_t_round, .ref h_t_roughs, .int f_t_latest_1]))]) (WC' := [(h_t, .inr (10, [.ref h_t_w, .int f_t_known_1, .int f_t_kept, .int f_t_seed_3, .ref h_t_imageSeed, .ref h_t_bookOf, .ref h_t_bookIs, .int f_t_written, .ref h_t_forms, .int f_t_formRing, .int f_t_formMany, .ref h_t_best, .ref h_t_next, .ref h_t_ways, .ref h_t_round, .ref h_t_roughs, .int f_t_latest_1]))]) (WR := [(h_t_w, .inl (cA, 190, .inl f_t_w_1))]) (W' := [(h_t, .inr (10, [.ref h_t_w, .int f_t_known_1, .int f_t_kept, .int f_t_seed_3, .ref h_t_imageSeed, .ref h_t_bookOf, .ref h_t_bookIs, .int f_t_written, .ref h_t_forms, .int f_t_formRing, .int f_t_formMany, .ref h_t_best, .ref h_t_next, .ref h_t_ways, .ref h_t_round, .ref h_t_roughs, .int f_t_latest_1])), (h_t_w, .inl (cA, 190, .inl f_t_w_1))]) ⟨hx, hb, hml, hown, hts⟩ hK hP hD hS hA (c_Md_draw l dC dI cA h_t h_t_w h_t_imageSeed h_t_bookOf h_t_bookIs h_t_forms h_t_best h_t_next h_t_ways h_t_round h_t_roughs f_t_known_1 f_t_kept f_t_seed_1 f_t_written f_t_formRing f_t_formMany f_t_latest_1 ((1 : Int32) <<< (r_2 &&& 31)) r_3 f_t_seed_3 hc42) (cwV 1 hts gX11_drift_X11_draw rfl rfl rfl (by decide +kernel) ⟨Nat.le_of_ble_eq_true rfl, Nat.le_of_ble_eq_true rfl⟩) [0] [1] [1, 0] rfl rfl rfl rfl (ci := 10) (q0 := 0) rfl rfl rfl rfl hl.1 (Nat.le_of_ble_eq_true rfl) dX11_drift_42 ⟨Nat.zero_le _, Nat.zero_le _⟩ (fun H locs hP hD hS => ?_)
            obtain ⟨r_4, f_t_known_3, f_t_w_3, hc45, hm⟩ := bd3_go hm
            refine my_cVi (As := [.int r_3]) (rest := [.ref h_t]) (WC := [(h_t, .inr (10, [.ref h_t_w, .int f_t_known_1, .int f_t_kept, .int f_t_seed_3, .ref h_t_imageSeed, .ref h_t_bookOf, .ref h_t_bookIs, .int f_t_written, .ref h_t_forms, .int f_t_formRing, .int f_t_formMany, .ref h_t_best, .ref h_t_next, .ref h_t_ways, .ref h_t_round, .ref h_t_roughs, .int f_t_latest_1])), (h_t_w, .inl (cA, 190, .inl f_t_w_1))]) (WC' := [(h_t, .inr (10, [.ref h_t_w, .int f_t_known_3, .int f_t_kept, .int f_t_seed_3, .ref h_t_imageSeed, .ref h_t_bookOf, .ref h_t_bookIs, .int f_t_written, .ref h_t_forms, .int f_t_formRing, .int f_t_formMany, .ref h_t_best, .ref h_t_next, .ref h_t_ways, .ref h_t_round, .ref h_t_roughs, .int f_t_latest_1])), (h_t_w, .inl (cA, 190, .inl f_t_w_3))]) (WR := []) (W' := [(h_t, .inr (10, [.ref h_t_w, .int f_t_known_3, .int f_t_kept, .int f_t_seed_3, .ref h_t_imageSeed, .ref h_t_bookOf, .ref h_t_bookIs, .int f_t_written, .ref h_t_forms, .int f_t_formRing, .int f_t_formMany, .ref h_t_best, .ref h_t_next, .ref h_t_ways, .ref h_t_round, .ref h_t_roughs, .int f_t_latest_1])), (h_t_w, .inl (cA, 190, .inl f_t_w_3))]) ⟨hx, hb, hml, hown, hts⟩ hK hP hD hS hA (c_Md_add l dC dI cA fu h_t h_t_w h_t_imageSeed h_t_bookOf h_t_bookIs h_t_forms h_t_best h_t_next h_t_ways h_t_round h_t_roughs f_t_known_1 f_t_kept f_t_seed_3 f_t_written f_t_formRing f_t_formMany f_t_latest_1 f_t_w_1 r_3 r_4 f_t_known_3 f_t_w_3 hc45) (cwV 1 hts gX11_drift_X11_add rfl rfl rfl (by decide +kernel) ⟨Nat.le_of_ble_eq_true rfl, Nat.le_of_ble_eq_true rfl⟩) [0, 1] [] [0, 1] rfl rfl rfl rfl (ci := 10) (q0 := 0) rfl rfl rfl rfl hl.1 (Nat.le_of_ble_eq_true rfl) dX11_drift_45 ⟨Nat.zero_le _, Nat.zero_le _⟩ (fun H locs hP hD hS => ?_)
            refine lv_topi (fun f_t_latest_3 ef_t_latest_3 => ?_)
            replace hm := lt_go ef_t_latest_3 hm
            refine my_put (W' := [(h_t, .inr (10, [.ref h_t_w, .int f_t_known_3, .int f_t_kept, .int f_t_seed_3, .ref h_t_imageSeed, .ref h_t_bookOf, .ref h_t_bookIs, .int f_t_written, .ref h_t_forms, .int f_t_formRing, .int f_t_formMany, .ref h_t_best, .ref h_t_next, .ref h_t_ways, .ref h_t_round, .ref h_t_roughs, .int f_t_latest_3])), (h_t_w, .inl (cA, 190, .inl f_t_w_3))]) (ci := 10) (v := .int f_t_latest_3) (ty := .int) (C := RX11) (T := TX11) (N := 17) hx hb hts uX11 tyX11 tyX11_ok nmX11 hown hK hP hD hS 0 rfl rfl 16 (by decide) k4 (fun _ h9 => h9) rfl (by decide +kernel) rfl rfl (Nat.le_of_ble_eq_true rfl) dX11_drift_48 rfl (fun H locs hP hD hS => ?_)
            obtain ⟨v2_3, ev2_3⟩ : ∃ z : Int32, z = v2_2 + 1 := ⟨_, rfl⟩
            replace hm := lt_go ev2_3 hm
            refine lv_iinc (v := v2_3) (lv' := [(2, .int v2_3), (0, .ref h_t), (1, .int a1)]) hx hb dX11_drift_51 hl (k := 2) rfl (by rw [ev2_3]; rfl) (by decide) rfl (fun ls hl => ?_)
            refine lv_goto (tgt := 17) hx hb dX11_drift_54 (by decide) ?_
            exact ih _ _ _ _ _ _ _ _ _ hm _ _ hP hD hS _ (lv_sub hl [1, 2, 0] rfl) KK
    obtain ⟨f_t_known_4, f_t_latest_4, f_t_seed_4, f_t_w_4, hl17, hm⟩ := bd4_go hm
    refine L17 _ _ _ _ _ _ _ _ _ _ hl17 _ _ hP hD hS _ (lv_sub hl [1, 2, 0] rfl) (fun H locs hP hD hS ls hl => ?_)
    refine lv_aload_n hx hb dX11_drift_57 rfl (lv_at hl 0 rfl) ?_
    refine va_get (D := (dC, dI)) (ci := 10) (v := .ref h_t_w) (C := RX11) (T := TX11) (N := 17) hx hb hts uX11 hown hK hP 0 rfl rfl 0 (by decide) k3 (fun _ h9 => h9) rfl dX11_drift_58 ?_
    refine lv_iconst (v := 1) hx hb dX11_drift_61 (by decide) ?_
    obtain ⟨b62, hm⟩ := ck_go hm
    refine va_iald hx hb hK hP 1 0 rfl rfl b62 dX11_drift_62 ?_
    cases hm
    exact W_mono hQ (W.iret hx hb hr (fun t ht hW => ⟨⟨_, (), rfl, rfl, by rw [ht]; exact hP, va_K.moved hW.alike hK, hD⟩, hS.F ht⟩) hS.2.2 dX11_drift_63)
  · replace hm := if_t c9 hm
    refine lv_ldc (v := (-1000000002)) hx hb hown k2 dX11_drift_12 ?_
    cases hm
    exact W_mono hQ (W.iret hx hb hr (fun t ht hW => ⟨⟨_, (), rfl, rfl, by rw [ht]; exact hP, va_K.moved hW.alike hK, hD⟩, hS.F ht⟩) hS.2.2 dX11_drift_14)
abbrev rmX11_rough : Room := { frames := 3, cells := 0, slots := 0, locals := 68 }
set_option maxHeartbeats 40000000 in
set_option maxRecDepth 100000 in
theorem c_Md_rough (l : Launch) (dC : Nat → ClassId) (dI : Nat → Nat → Nat) (cA : ClassId) (fu : Nat) (h_t h_t_w h_t_imageSeed h_t_bookOf h_t_bookIs h_t_forms h_t_best h_t_next h_t_ways h_t_round h_t_roughs : Nat) (f_t_known : Int32) (f_t_kept : Int32) (f_t_seed : Int32) (f_t_written : Int32) (f_t_formRing : Int32) (f_t_formMany : Int32) (f_t_latest : Int32) (f_t_w : Nat → Int32) (a1 : Int32) (r0 : Int32) (hm : m_Md_rough fu f_t_w a1 = some r0) (sz : Nat) : Met l yX11_rough wsX11_rough rmX11_rough (mPre (dC, dI) cA [.ref h_t, .int a1] sz [(h_t, .inr (10, [.ref h_t_w, .int f_t_known, .int f_t_kept, .int f_t_seed, .ref h_t_imageSeed, .ref h_t_bookOf, .ref h_t_bookIs, .int f_t_written, .ref h_t_forms, .int f_t_formRing, .int f_t_formMany, .ref h_t_best, .ref h_t_next, .ref h_t_ways, .ref h_t_round, .ref h_t_roughs, .int f_t_latest])), (h_t_w, .inl (cA, 190, .inl f_t_w))]) (mPosI (dC, dI) cA r0 (va_A [(h_t, .inr (10, [.ref h_t_w, .int f_t_known, .int f_t_kept, .int f_t_seed, .ref h_t_imageSeed, .ref h_t_bookOf, .ref h_t_bookIs, .int f_t_written, .ref h_t_forms, .int f_t_formRing, .int f_t_formMany, .ref h_t_best, .ref h_t_next, .ref h_t_ways, .ref h_t_round, .ref h_t_roughs, .int f_t_latest])), (h_t_w, .inl (cA, 190, .inl f_t_w))] sz) [(h_t, .inr (10, [.ref h_t_w, .int f_t_known, .int f_t_kept, .int f_t_seed, .ref h_t_imageSeed, .ref h_t_bookOf, .ref h_t_bookIs, .int f_t_written, .ref h_t_forms, .int f_t_formRing, .int f_t_formMany, .ref h_t_best, .ref h_t_next, .ref h_t_ways, .ref h_t_round, .ref h_t_roughs, .int f_t_latest])), (h_t_w, .inl (cA, 190, .inl f_t_w))]) 0 0 (va_A [(h_t, .inr (10, [.ref h_t_w, .int f_t_known, .int f_t_kept, .int f_t_seed, .ref h_t_imageSeed, .ref h_t_bookOf, .ref h_t_bookIs, .int f_t_written, .ref h_t_forms, .int f_t_formRing, .int f_t_formMany, .ref h_t_best, .ref h_t_next, .ref h_t_ways, .ref h_t_round, .ref h_t_roughs, .int f_t_latest])), (h_t_w, .inl (cA, 190, .inl f_t_w))] sz) := by
  refine Met.ofW (cc := cX11_rough) (maxL := 2) (ret := (some .int)) (by decide) rfl ?_
  intro p e s m args below meth c s₁ B hml hv
  obtain ⟨rfl, hsz, hP, hK, hD0⟩ := hv
  refine W_gen (fun Q hQ => ?_)
  have hx := B.exec
  have hb := B.bytes
  have hr := B.returns
  have hts := atoms_spec (ws := wsX11_rough) B.pre
  have hown : s.vm.findClass RX11 = some m.cls := findClass_of_methodNamed B.named
  have hlocks := B.notSynchronized
  subst hsz
  have hD := hD0.self (sz := s.heap.size)
  clear hD0
  generalize hAe : va_A [(h_t, .inr (10, [.ref h_t_w, .int f_t_known, .int f_t_kept, .int f_t_seed, .ref h_t_imageSeed, .ref h_t_bookOf, .ref h_t_bookIs, .int f_t_written, .ref h_t_forms, .int f_t_formRing, .int f_t_formMany, .ref h_t_best, .ref h_t_next, .ref h_t_ways, .ref h_t_round, .ref h_t_roughs, .int f_t_latest])), (h_t_w, .inl (cA, 190, .inl f_t_w))] s.heap.size = A at hD hQ
  have hA : ∀ q : Nat, s.heap.size ≤ q → A q := fun q h => by rw [← hAe]; exact Or.inr h
  clear hAe
  have hS : va_S A s.heap s.heap [] := va_S.rf
  have hl := lv_entry ([.ref h_t, .int a1]) (n := 2) (Nat.le_of_ble_eq_true rfl)
  rw [lg_entry_eq]
  generalize (lg_sl ([.ref h_t, .int a1]) ++ List.replicate (2 - (lg_sl ([.ref h_t, .int a1])).length) Slot.unset).toArray = ls at hl ⊢
  have hl : lv_has ls 2 [(0, .ref h_t), (1, .int a1)] := hl
  unfold m_Md_rough at hm
  refine lv_iconst (v := 1) hx hb dX11_rough_0 (by decide) ?_
  refine lv_aload_n hx hb dX11_rough_1 rfl (lv_at hl 0 rfl) ?_
  refine lv_iload_n hx hb dX11_rough_2 rfl (lv_at hl 1 rfl) ?_
  refine lv_iconst (v := 1) hx hb dX11_rough_3 (by decide) ?_
  obtain ⟨r_1, hc4, hm⟩ := bd1_go hm
  refine my_cVi (As := [.int a1, .int 1]) (rest := [.int 1]) (WC := [(h_t, .inr (10, [.ref h_t_w, .int f_t_known, .int f_t_kept, .int f_t_seed, .ref h_t_imageSeed, .ref h_t_bookOf, .ref h_t_bookIs, .int f_t_written, .ref h_t_forms, .int f_t_formRing, .int f_t_formMany, .ref h_t_best, .ref h_t_next, .ref h_t_ways, .ref h_t_round, .ref h_t_roughs, .int f_t_latest])), (h_t_w, .inl (cA, 190, .inl f_t_w))]) (WC' := [(h_t, .inr (10, [.ref h_t_w, .int f_t_known, .int f_t_kept, .int f_t_seed, .ref h_t_imageSeed, .ref h_t_bookOf, .ref h_t_bookIs, .int f_t_written, .ref h_t_forms, .int f_t_formRing, .int f_t_formMany, .ref h_t_best, .ref h_t_next, .ref h_t_ways, .ref h_t_round, .ref h_t_roughs, .int f_t_latest])), (h_t_w, .inl (cA, 190, .inl f_t_w))]) (WR := []) (W' := [(h_t, .inr (10, [.ref h_t_w, .int f_t_known, .int f_t_kept, .int f_t_seed, .ref h_t_imageSeed, .ref h_t_bookOf, .ref h_t_bookIs, .int f_t_written, .ref h_t_forms, .int f_t_formRing, .int f_t_formMany, .ref h_t_best, .ref h_t_next, .ref h_t_ways, .ref h_t_round, .ref h_t_roughs, .int f_t_latest])), (h_t_w, .inl (cA, 190, .inl f_t_w))]) ⟨hx, hb, hml, hown, hts⟩ hK hP hD hS hA (c_Md_pairsApart l dC dI cA fu h_t h_t_w h_t_imageSeed h_t_bookOf h_t_bookIs h_t_forms h_t_best h_t_next h_t_ways h_t_round h_t_roughs f_t_known f_t_kept f_t_seed f_t_written f_t_formRing f_t_formMany f_t_latest f_t_w a1 1 r_1 hc4) (cwV 2 hts gX11_rough_X11_pairsApart rfl rfl rfl (by decide +kernel) ⟨Nat.le_of_ble_eq_true rfl, Nat.le_of_ble_eq_true rfl⟩) [0, 1] [] [0, 1] rfl rfl rfl rfl (ci := 10) (q0 := 0) rfl rfl rfl rfl hl.1 (Nat.le_of_ble_eq_true rfl) dX11_rough_4 ⟨Nat.zero_le _, Nat.zero_le _⟩ (fun H locs hP hD hS => ?_)
  refine lv_iadd hx hb dX11_rough_7 ?_
  cases hm
  exact W_mono hQ (W.iret hx hb hr (fun t ht hW => ⟨⟨_, (), rfl, rfl, by rw [ht]; exact hP, va_K.moved hW.alike hK, hD⟩, hS.F ht⟩) hS.2.2 dX11_rough_8)
abbrev rmX11_moveOf : Room := { frames := 1, cells := 0, slots := 0, locals := 21 }
set_option maxHeartbeats 40000000 in
set_option maxRecDepth 100000 in
theorem c_Md_moveOf (l : Launch) (dC : Nat → ClassId) (dI : Nat → Nat → Nat) (cA : ClassId) (h_t h_t_w h_t_imageSeed h_t_bookOf h_t_bookIs h_t_forms h_t_best h_t_next h_t_ways h_t_round h_t_roughs : Nat) (f_t_known : Int32) (f_t_kept : Int32) (f_t_seed : Int32) (f_t_written : Int32) (f_t_formRing : Int32) (f_t_formMany : Int32) (f_t_latest : Int32) (f_t_w : Nat → Int32) (a1 : Int32) (a2 : Int32) (r0 : Int32) (hm : m_Md_moveOf f_t_w a1 a2 = some r0) (sz : Nat) : Met l yX11_moveOf wsX11_moveOf rmX11_moveOf (mPre (dC, dI) cA [.ref h_t, .int a1, .int a2] sz [(h_t, .inr (10, [.ref h_t_w, .int f_t_known, .int f_t_kept, .int f_t_seed, .ref h_t_imageSeed, .ref h_t_bookOf, .ref h_t_bookIs, .int f_t_written, .ref h_t_forms, .int f_t_formRing, .int f_t_formMany, .ref h_t_best, .ref h_t_next, .ref h_t_ways, .ref h_t_round, .ref h_t_roughs, .int f_t_latest])), (h_t_w, .inl (cA, 190, .inl f_t_w))]) (mPosI (dC, dI) cA r0 (va_A [(h_t, .inr (10, [.ref h_t_w, .int f_t_known, .int f_t_kept, .int f_t_seed, .ref h_t_imageSeed, .ref h_t_bookOf, .ref h_t_bookIs, .int f_t_written, .ref h_t_forms, .int f_t_formRing, .int f_t_formMany, .ref h_t_best, .ref h_t_next, .ref h_t_ways, .ref h_t_round, .ref h_t_roughs, .int f_t_latest])), (h_t_w, .inl (cA, 190, .inl f_t_w))] sz) [(h_t, .inr (10, [.ref h_t_w, .int f_t_known, .int f_t_kept, .int f_t_seed, .ref h_t_imageSeed, .ref h_t_bookOf, .ref h_t_bookIs, .int f_t_written, .ref h_t_forms, .int f_t_formRing, .int f_t_formMany, .ref h_t_best, .ref h_t_next, .ref h_t_ways, .ref h_t_round, .ref h_t_roughs, .int f_t_latest])), (h_t_w, .inl (cA, 190, .inl f_t_w))]) 0 0 (va_A [(h_t, .inr (10, [.ref h_t_w, .int f_t_known, .int f_t_kept, .int f_t_seed, .ref h_t_imageSeed, .ref h_t_bookOf, .ref h_t_bookIs, .int f_t_written, .ref h_t_forms, .int f_t_formRing, .int f_t_formMany, .ref h_t_best, .ref h_t_next, .ref h_t_ways, .ref h_t_round, .ref h_t_roughs, .int f_t_latest])), (h_t_w, .inl (cA, 190, .inl f_t_w))] sz) := by
  refine Met.ofW (cc := cX11_moveOf) (maxL := 5) (ret := (some .int)) (by decide) rfl ?_
  intro p e s m args below meth c s₁ B hml hv
  obtain ⟨rfl, hsz, hP, hK, hD0⟩ := hv
  refine W_gen (fun Q hQ => ?_)
  have hx := B.exec
  have hb := B.bytes
  have hr := B.returns
  have hts := atoms_spec (ws := wsX11_moveOf) B.pre
  have hown : s.vm.findClass RX11 = some m.cls := findClass_of_methodNamed B.named
  have hlocks := B.notSynchronized
  subst hsz
  have hD := hD0.self (sz := s.heap.size)
  clear hD0
  generalize hAe : va_A [(h_t, .inr (10, [.ref h_t_w, .int f_t_known, .int f_t_kept, .int f_t_seed, .ref h_t_imageSeed, .ref h_t_bookOf, .ref h_t_bookIs, .int f_t_written, .ref h_t_forms, .int f_t_formRing, .int f_t_formMany, .ref h_t_best, .ref h_t_next, .ref h_t_ways, .ref h_t_round, .ref h_t_roughs, .int f_t_latest])), (h_t_w, .inl (cA, 190, .inl f_t_w))] s.heap.size = A at hD hQ
  have hA : ∀ q : Nat, s.heap.size ≤ q → A q := fun q h => by rw [← hAe]; exact Or.inr h
  clear hAe
  have hS : va_S A s.heap s.heap [] := va_S.rf
  have hl := lv_entry ([.ref h_t, .int a1, .int a2]) (n := 5) (Nat.le_of_ble_eq_true rfl)
  rw [lg_entry_eq]
  generalize (lg_sl ([.ref h_t, .int a1, .int a2]) ++ List.replicate (5 - (lg_sl ([.ref h_t, .int a1, .int a2])).length) Slot.unset).toArray = ls at hl ⊢
  have hl : lv_has ls 5 [(0, .ref h_t), (1, .int a1), (2, .int a2)] := hl
  unfold m_Md_moveOf at hm
  refine lv_iload_n hx hb dX11_moveOf_0 rfl (lv_at hl 2 rfl) ?_
  refine lv_iconst (v := 2) hx hb dX11_moveOf_1 (by decide) ?_
  refine lv_idiv hx hb dX11_moveOf_2 (by decide) ?_
  refine lv_topi (fun v3_1 ev3_1 => ?_)
  replace hm := lt_go ev3_1 hm
  refine lv_istore_n (lv' := [(3, .int v3_1), (0, .ref h_t), (1, .int a1), (2, .int a2)]) hx hb dX11_moveOf_3 rfl hl (by decide) rfl (fun ls hl => ?_)
  refine lv_iload_n hx hb dX11_moveOf_4 rfl (lv_at hl 0 rfl) ?_
  refine lv_iload_n hx hb dX11_moveOf_5 rfl (lv_at hl 3 rfl) ?_
  refine lv_iconst (v := 2) hx hb dX11_moveOf_6 (by decide) ?_
  refine lv_irem hx hb dX11_moveOf_7 (by decide) ?_
  obtain ⟨q21_1, hqJ_1, hm⟩ := bd1_go hm
  have J_1 : ∀ (H : Heap) (locs : List Loc), va_P (dC, dI) vwCl [(h_t, .inr (10, [.ref h_t_w, .int f_t_known, .int f_t_kept, .int f_t_seed, .ref h_t_imageSeed, .ref h_t_bookOf, .ref h_t_bookIs, .int f_t_written, .ref h_t_forms, .int f_t_formRing, .int f_t_formMany, .ref h_t_best, .ref h_t_next, .ref h_t_ways, .ref h_t_round, .ref h_t_roughs, .int f_t_latest])), (h_t_w, .inl (cA, 190, .inl f_t_w))] H → va_D A [(h_t, .inr (10, [.ref h_t_w, .int f_t_known, .int f_t_kept, .int f_t_seed, .ref h_t_imageSeed, .ref h_t_bookOf, .ref h_t_bookIs, .int f_t_written, .ref h_t_forms, .int f_t_formRing, .int f_t_formMany, .ref h_t_best, .ref h_t_next, .ref h_t_ways, .ref h_t_round, .ref h_t_roughs, .int f_t_latest])), (h_t_w, .inl (cA, 190, .inl f_t_w))] → va_S A s.heap H locs → ∀ ls : Array Slot, lv_has ls 5 [(0, .ref h_t), (1, .int a1), (3, .int v3_1)] → W p l e (headSpec wsX11_moveOf rmX11_moveOf).room s m (([.ref h_t, .int a1, .int a2] : List Value).toArray) below meth c H locs 0 0 Q (F0 m 21 ls [.int q21_1, .int v3_1]) := by
    intro H locs hP hD hS ls hl
    clear hqJ_1
    refine lv_iadd hx hb dX11_moveOf_21 ?_
    refine lv_aload_n hx hb dX11_moveOf_22 rfl (lv_at hl 0 rfl) ?_
    obtain ⟨r_2, hc23, hm⟩ := bd1_go hm
    refine my_cVi (As := []) (rest := [.int (v3_1 + q21_1)]) (WC := [(h_t, .inr (10, [.ref h_t_w, .int f_t_known, .int f_t_kept, .int f_t_seed, .ref h_t_imageSeed, .ref h_t_bookOf, .ref h_t_bookIs, .int f_t_written, .ref h_t_forms, .int f_t_formRing, .int f_t_formMany, .ref h_t_best, .ref h_t_next, .ref h_t_ways, .ref h_t_round, .ref h_t_roughs, .int f_t_latest])), (h_t_w, .inl (cA, 190, .inl f_t_w))]) (WC' := [(h_t, .inr (10, [.ref h_t_w, .int f_t_known, .int f_t_kept, .int f_t_seed, .ref h_t_imageSeed, .ref h_t_bookOf, .ref h_t_bookIs, .int f_t_written, .ref h_t_forms, .int f_t_formRing, .int f_t_formMany, .ref h_t_best, .ref h_t_next, .ref h_t_ways, .ref h_t_round, .ref h_t_roughs, .int f_t_latest])), (h_t_w, .inl (cA, 190, .inl f_t_w))]) (WR := []) (W' := [(h_t, .inr (10, [.ref h_t_w, .int f_t_known, .int f_t_kept, .int f_t_seed, .ref h_t_imageSeed, .ref h_t_bookOf, .ref h_t_bookIs, .int f_t_written, .ref h_t_forms, .int f_t_formRing, .int f_t_formMany, .ref h_t_best, .ref h_t_next, .ref h_t_ways, .ref h_t_round, .ref h_t_roughs, .int f_t_latest])), (h_t_w, .inl (cA, 190, .inl f_t_w))]) ⟨hx, hb, hml, hown, hts⟩ hK hP hD hS hA (c_Md_m l dC dI cA h_t h_t_w h_t_imageSeed h_t_bookOf h_t_bookIs h_t_forms h_t_best h_t_next h_t_ways h_t_round h_t_roughs f_t_known f_t_kept f_t_seed f_t_written f_t_formRing f_t_formMany f_t_latest f_t_w r_2 hc23) (cwV 0 hts gX11_moveOf_X11_m rfl rfl rfl (by decide +kernel) ⟨Nat.le_of_ble_eq_true rfl, Nat.le_of_ble_eq_true rfl⟩) [0, 1] [] [0, 1] rfl rfl rfl rfl (ci := 10) (q0 := 0) rfl rfl rfl rfl hl.1 (Nat.le_of_ble_eq_true rfl) dX11_moveOf_23 ⟨Nat.zero_le _, Nat.zero_le _⟩ (fun H locs hP hD hS => ?_)
    obtain ⟨d26, hm⟩ := dv_go hm
    refine lv_irem hx hb dX11_moveOf_26 d26 ?_
    refine lv_topi (fun v4_1 ev4_1 => ?_)
    replace hm := lt_go ev4_1 hm
    refine lv_istore (lv' := [(4, .int v4_1), (0, .ref h_t), (1, .int a1), (3, .int v3_1)]) hx hb dX11_moveOf_27 hl (by decide) rfl (fun ls hl => ?_)
    refine lv_iload_n hx hb dX11_moveOf_29 rfl (lv_at hl 2 rfl) ?_
    refine lv_iload_n hx hb dX11_moveOf_30 rfl (lv_at hl 3 rfl) ?_
    obtain ⟨r_3, hc31, hm⟩ := bd1_go hm
    refine my_cSi (As := [.int a1, .int v3_1]) (rest := []) (WC := []) (WC' := []) (WR := [(h_t, .inr (10, [.ref h_t_w, .int f_t_known, .int f_t_kept, .int f_t_seed, .ref h_t_imageSeed, .ref h_t_bookOf, .ref h_t_bookIs, .int f_t_written, .ref h_t_forms, .int f_t_formRing, .int f_t_formMany, .ref h_t_best, .ref h_t_next, .ref h_t_ways, .ref h_t_round, .ref h_t_roughs, .int f_t_latest])), (h_t_w, .inl (cA, 190, .inl f_t_w))]) (W' := [(h_t, .inr (10, [.ref h_t_w, .int f_t_known, .int f_t_kept, .int f_t_seed, .ref h_t_imageSeed, .ref h_t_bookOf, .ref h_t_bookIs, .int f_t_written, .ref h_t_forms, .int f_t_formRing, .int f_t_formMany, .ref h_t_best, .ref h_t_next, .ref h_t_ways, .ref h_t_round, .ref h_t_roughs, .int f_t_latest])), (h_t_w, .inl (cA, 190, .inl f_t_w))]) ⟨hx, hb, hml, hown, hts⟩ hK hP hD hS hA (c_Md_has l dC dI cA a1 v3_1 r_3 hc31) (va_cwS 2 hts gX11_moveOf_X11_has rfl rfl rfl (by decide +kernel) ⟨Nat.le_of_ble_eq_true rfl, Nat.le_of_ble_eq_true rfl⟩) [] [0, 1] [0, 1] rfl rfl rfl rfl rfl rfl hl.1 (Nat.le_of_ble_eq_true rfl) dX11_moveOf_31 ⟨Nat.zero_le _, Nat.zero_le _⟩ (fun H locs hP hD hS => ?_)
    refine lv_if_eq (tgt := 61) hx hb dX11_moveOf_34 (by decide) (fun c34 => ?_) (fun c34 => ?_)
    · replace hm := if_t c34 hm
      refine lv_iconst (v := 0) hx hb dX11_moveOf_61 (by decide) ?_
      cases hm
      exact W_mono hQ (W.iret hx hb hr (fun t ht hW => ⟨⟨_, (), rfl, rfl, by rw [ht]; exact hP, va_K.moved hW.alike hK, hD⟩, hS.F ht⟩) hS.2.2 dX11_moveOf_62)
    · replace hm := if_f c34 hm
      refine lv_iload_n hx hb dX11_moveOf_37 rfl (lv_at hl 2 rfl) ?_
      refine lv_iload hx hb dX11_moveOf_38 (lv_at hl 0 rfl) ?_
      obtain ⟨r_4, hc40, hm⟩ := bd1_go hm
      refine my_cSi (As := [.int a1, .int v4_1]) (rest := []) (WC := []) (WC' := []) (WR := [(h_t, .inr (10, [.ref h_t_w, .int f_t_known, .int f_t_kept, .int f_t_seed, .ref h_t_imageSeed, .ref h_t_bookOf, .ref h_t_bookIs, .int f_t_written, .ref h_t_forms, .int f_t_formRing, .int f_t_formMany, .ref h_t_best, .ref h_t_next, .ref h_t_ways, .ref h_t_round, .ref h_t_roughs, .int f_t_latest])), (h_t_w, .inl (cA, 190, .inl f_t_w))]) (W' := [(h_t, .inr (10, [.ref h_t_w, .int f_t_known, .int f_t_kept, .int f_t_seed, .ref h_t_imageSeed, .ref h_t_bookOf, .ref h_t_bookIs, .int f_t_written, .ref h_t_forms, .int f_t_formRing, .int f_t_formMany, .ref h_t_best, .ref h_t_next, .ref h_t_ways, .ref h_t_round, .ref h_t_roughs, .int f_t_latest])), (h_t_w, .inl (cA, 190, .inl f_t_w))]) ⟨hx, hb, hml, hown, hts⟩ hK hP hD hS hA (c_Md_has l dC dI cA a1 v4_1 r_4 hc40) (va_cwS 2 hts gX11_moveOf_X11_has rfl rfl rfl (by decide +kernel) ⟨Nat.le_of_ble_eq_true rfl, Nat.le_of_ble_eq_true rfl⟩) [] [0, 1] [0, 1] rfl rfl rfl rfl rfl rfl hl.1 (Nat.le_of_ble_eq_true rfl) dX11_moveOf_40 ⟨Nat.zero_le _, Nat.zero_le _⟩ (fun H locs hP hD hS => ?_)
      refine lv_if_ne (tgt := 61) hx hb dX11_moveOf_43 (by decide) (fun c43 => ?_) (fun c43 => ?_)
      · replace hm := if_f c43 hm
        refine lv_iconst (v := 0) hx hb dX11_moveOf_61 (by decide) ?_
        cases hm
        exact W_mono hQ (W.iret hx hb hr (fun t ht hW => ⟨⟨_, (), rfl, rfl, by rw [ht]; exact hP, va_K.moved hW.alike hK, hD⟩, hS.F ht⟩) hS.2.2 dX11_moveOf_62)
      · replace hm := if_t c43 hm
        refine lv_iload_n hx hb dX11_moveOf_46 rfl (lv_at hl 2 rfl) ?_
        refine lv_iconst (v := 1) hx hb dX11_moveOf_47 (by decide) ?_
        refine lv_iload_n hx hb dX11_moveOf_48 rfl (lv_at hl 3 rfl) ?_
        refine lv_ishl hx hb dX11_moveOf_49 ?_
        refine lv_iconst (v := (-1)) hx hb dX11_moveOf_50 (by decide) ?_
        refine lv_ixor hx hb dX11_moveOf_51 ?_
        refine lv_iand hx hb dX11_moveOf_52 ?_
        refine lv_iconst (v := 1) hx hb dX11_moveOf_53 (by decide) ?_
        refine lv_iload hx hb dX11_moveOf_54 (lv_at hl 0 rfl) ?_
        refine lv_ishl hx hb dX11_moveOf_56 ?_
        refine lv_ior hx hb dX11_moveOf_57 ?_
        refine lv_goto (tgt := 62) hx hb dX11_moveOf_58 (by decide) ?_
        cases hm
        exact W_mono hQ (W.iret hx hb hr (fun t ht hW => ⟨⟨_, (), rfl, rfl, by rw [ht]; exact hP, va_K.moved hW.alike hK, hD⟩, hS.F ht⟩) hS.2.2 dX11_moveOf_62)
  clear hm
  refine lv_if_ne (tgt := 15) hx hb dX11_moveOf_8 (by decide) (fun c8 => ?_) (fun c8 => ?_)
  · replace hqJ_1 := if_f c8 hqJ_1
    refine lv_aload_n hx hb dX11_moveOf_15 rfl (lv_at hl 1 rfl) ?_
    obtain ⟨r_1, hc16, hqJ_1⟩ := bd1_go hqJ_1
    refine my_cVi (As := []) (rest := [.int v3_1]) (WC := [(h_t, .inr (10, [.ref h_t_w, .int f_t_known, .int f_t_kept, .int f_t_seed, .ref h_t_imageSeed, .ref h_t_bookOf, .ref h_t_bookIs, .int f_t_written, .ref h_t_forms, .int f_t_formRing, .int f_t_formMany, .ref h_t_best, .ref h_t_next, .ref h_t_ways, .ref h_t_round, .ref h_t_roughs, .int f_t_latest])), (h_t_w, .inl (cA, 190, .inl f_t_w))]) (WC' := [(h_t, .inr (10, [.ref h_t_w, .int f_t_known, .int f_t_kept, .int f_t_seed, .ref h_t_imageSeed, .ref h_t_bookOf, .ref h_t_bookIs, .int f_t_written, .ref h_t_forms, .int f_t_formRing, .int f_t_formMany, .ref h_t_best, .ref h_t_next, .ref h_t_ways, .ref h_t_round, .ref h_t_roughs, .int f_t_latest])), (h_t_w, .inl (cA, 190, .inl f_t_w))]) (WR := []) (W' := [(h_t, .inr (10, [.ref h_t_w, .int f_t_known, .int f_t_kept, .int f_t_seed, .ref h_t_imageSeed, .ref h_t_bookOf, .ref h_t_bookIs, .int f_t_written, .ref h_t_forms, .int f_t_formRing, .int f_t_formMany, .ref h_t_best, .ref h_t_next, .ref h_t_ways, .ref h_t_round, .ref h_t_roughs, .int f_t_latest])), (h_t_w, .inl (cA, 190, .inl f_t_w))]) ⟨hx, hb, hml, hown, hts⟩ hK hP hD hS hA (c_Md_m l dC dI cA h_t h_t_w h_t_imageSeed h_t_bookOf h_t_bookIs h_t_forms h_t_best h_t_next h_t_ways h_t_round h_t_roughs f_t_known f_t_kept f_t_seed f_t_written f_t_formRing f_t_formMany f_t_latest f_t_w r_1 hc16) (cwV 0 hts gX11_moveOf_X11_m rfl rfl rfl (by decide +kernel) ⟨Nat.le_of_ble_eq_true rfl, Nat.le_of_ble_eq_true rfl⟩) [0, 1] [] [0, 1] rfl rfl rfl rfl (ci := 10) (q0 := 0) rfl rfl rfl rfl hl.1 (Nat.le_of_ble_eq_true rfl) dX11_moveOf_16 ⟨Nat.zero_le _, Nat.zero_le _⟩ (fun H locs hP hD hS => ?_)
    refine lv_iconst (v := 1) hx hb dX11_moveOf_19 (by decide) ?_
    refine lv_isub hx hb dX11_moveOf_20 ?_
    cases hqJ_1
    exact J_1 _ _ hP hD hS _ (lv_sub hl [1, 2, 0] rfl)
  · replace hqJ_1 := if_t c8 hqJ_1
    refine lv_iconst (v := 1) hx hb dX11_moveOf_11 (by decide) ?_
    refine lv_goto (tgt := 21) hx hb dX11_moveOf_12 (by decide) ?_
    cases hqJ_1
    exact J_1 _ _ hP hD hS _ (lv_sub hl [1, 2, 0] rfl)
abbrev rmX11_layEasy : Room := { frames := 4, cells := 0, slots := 0, locals := 89 }
theorem uX11_X11_layEasy : ∀ w ∈ wsX110, w ∈ wsX11_layEasy := fun _ h => List.mem_cons_of_mem _ (List.mem_append_right _ (h))
set_option maxHeartbeats 40000000 in
set_option maxRecDepth 100000 in
theorem c_Md_layEasy (l : Launch) (dC : Nat → ClassId) (dI : Nat → Nat → Nat) (cA : ClassId) (fu : Nat) (h_t h_t_w h_t_imageSeed h_t_bookOf h_t_bookIs h_t_forms h_t_best h_t_next h_t_ways h_t_round h_t_roughs : Nat) (f_t_known : Int32) (f_t_kept : Int32) (f_t_seed : Int32) (f_t_written : Int32) (f_t_formRing : Int32) (f_t_formMany : Int32) (f_t_latest : Int32) (f_t_best : Nat → Int32) (f_t_roughs : Nat → Int32) (f_t_w : Nat → Int32) (a1 : Int32) (f_t_best_z : Nat → Int32) (f_t_roughs_z : Nat → Int32) (hm : m_Md_layEasy fu f_t_best f_t_roughs f_t_w a1 = some (f_t_best_z, f_t_roughs_z)) (sz : Nat) : Met l yX11_layEasy wsX11_layEasy rmX11_layEasy (mPre (dC, dI) cA [.ref h_t, .int a1] sz [(h_t, .inr (10, [.ref h_t_w, .int f_t_known, .int f_t_kept, .int f_t_seed, .ref h_t_imageSeed, .ref h_t_bookOf, .ref h_t_bookIs, .int f_t_written, .ref h_t_forms, .int f_t_formRing, .int f_t_formMany, .ref h_t_best, .ref h_t_next, .ref h_t_ways, .ref h_t_round, .ref h_t_roughs, .int f_t_latest])), (h_t_best, .inl (cA, 4096, .inl f_t_best)), (h_t_roughs, .inl (cA, 4096, .inl f_t_roughs)), (h_t_w, .inl (cA, 190, .inl f_t_w))]) (mPosV (dC, dI) cA (va_A [(h_t, .inr (10, [.ref h_t_w, .int f_t_known, .int f_t_kept, .int f_t_seed, .ref h_t_imageSeed, .ref h_t_bookOf, .ref h_t_bookIs, .int f_t_written, .ref h_t_forms, .int f_t_formRing, .int f_t_formMany, .ref h_t_best, .ref h_t_next, .ref h_t_ways, .ref h_t_round, .ref h_t_roughs, .int f_t_latest])), (h_t_best, .inl (cA, 4096, .inl f_t_best)), (h_t_roughs, .inl (cA, 4096, .inl f_t_roughs)), (h_t_w, .inl (cA, 190, .inl f_t_w))] sz) [(h_t, .inr (10, [.ref h_t_w, .int f_t_known, .int f_t_kept, .int f_t_seed, .ref h_t_imageSeed, .ref h_t_bookOf, .ref h_t_bookIs, .int f_t_written, .ref h_t_forms, .int f_t_formRing, .int f_t_formMany, .ref h_t_best, .ref h_t_next, .ref h_t_ways, .ref h_t_round, .ref h_t_roughs, .int f_t_latest])), (h_t_best, .inl (cA, 4096, .inl f_t_best_z)), (h_t_roughs, .inl (cA, 4096, .inl f_t_roughs_z)), (h_t_w, .inl (cA, 190, .inl f_t_w))]) 0 0 (va_A [(h_t, .inr (10, [.ref h_t_w, .int f_t_known, .int f_t_kept, .int f_t_seed, .ref h_t_imageSeed, .ref h_t_bookOf, .ref h_t_bookIs, .int f_t_written, .ref h_t_forms, .int f_t_formRing, .int f_t_formMany, .ref h_t_best, .ref h_t_next, .ref h_t_ways, .ref h_t_round, .ref h_t_roughs, .int f_t_latest])), (h_t_best, .inl (cA, 4096, .inl f_t_best)), (h_t_roughs, .inl (cA, 4096, .inl f_t_roughs)), (h_t_w, .inl (cA, 190, .inl f_t_w))] sz) := by
  refine Met.ofW (cc := cX11_layEasy) (maxL := 7) (ret := none) (by decide) rfl ?_
  intro p e s m args below meth c s₁ B hml hv
  obtain ⟨rfl, hsz, hP, hK, hD0⟩ := hv
  refine W_gen (fun Q hQ => ?_)
  have hx := B.exec
  have hb := B.bytes
  have hr := B.returns
  have hts := atoms_spec (ws := wsX11_layEasy) B.pre
  have hown : s.vm.findClass RX11 = some m.cls := findClass_of_methodNamed B.named
  have hlocks := B.notSynchronized
  subst hsz
  have hD := hD0.self (sz := s.heap.size)
  clear hD0
  generalize hAe : va_A [(h_t, .inr (10, [.ref h_t_w, .int f_t_known, .int f_t_kept, .int f_t_seed, .ref h_t_imageSeed, .ref h_t_bookOf, .ref h_t_bookIs, .int f_t_written, .ref h_t_forms, .int f_t_formRing, .int f_t_formMany, .ref h_t_best, .ref h_t_next, .ref h_t_ways, .ref h_t_round, .ref h_t_roughs, .int f_t_latest])), (h_t_best, .inl (cA, 4096, .inl f_t_best)), (h_t_roughs, .inl (cA, 4096, .inl f_t_roughs)), (h_t_w, .inl (cA, 190, .inl f_t_w))] s.heap.size = A at hD hQ
  have hA : ∀ q : Nat, s.heap.size ≤ q → A q := fun q h => by rw [← hAe]; exact Or.inr h
  clear hAe
  have hS : va_S A s.heap s.heap [] := va_S.rf
  have hl := lv_entry ([.ref h_t, .int a1]) (n := 7) (Nat.le_of_ble_eq_true rfl)
  rw [lg_entry_eq]
  generalize (lg_sl ([.ref h_t, .int a1]) ++ List.replicate (7 - (lg_sl ([.ref h_t, .int a1])).length) Slot.unset).toArray = ls at hl ⊢
  have hl : lv_has ls 7 [(0, .ref h_t), (1, .int a1)] := hl
  have k1 := hts (.fieldLink RX11 25 "ToneSetsModel" "best" "[I") (List.mem_of_getElem? (i := 1) rfl)
  have k2 := hts (.constant RX11 96 (1000000)) (List.mem_of_getElem? (i := 2) rfl)
  have k3 := hts (.fieldLink RX11 37 "ToneSetsModel" "roughs" "[I") (List.mem_of_getElem? (i := 3) rfl)
  have uX11 := uX11_X11_layEasy
  unfold m_Md_layEasy at hm
  refine lv_iload_n hx hb dX11_layEasy_0 rfl (lv_at hl 1 rfl) ?_
  obtain ⟨r_1, hc1, hm⟩ := bd1_go hm
  refine my_cSi (As := [.int a1]) (rest := []) (WC := []) (WC' := []) (WR := [(h_t, .inr (10, [.ref h_t_w, .int f_t_known, .int f_t_kept, .int f_t_seed, .ref h_t_imageSeed, .ref h_t_bookOf, .ref h_t_bookIs, .int f_t_written, .ref h_t_forms, .int f_t_formRing, .int f_t_formMany, .ref h_t_best, .ref h_t_next, .ref h_t_ways, .ref h_t_round, .ref h_t_roughs, .int f_t_latest])), (h_t_best, .inl (cA, 4096, .inl f_t_best)), (h_t_roughs, .inl (cA, 4096, .inl f_t_roughs)), (h_t_w, .inl (cA, 190, .inl f_t_w))]) (W' := [(h_t, .inr (10, [.ref h_t_w, .int f_t_known, .int f_t_kept, .int f_t_seed, .ref h_t_imageSeed, .ref h_t_bookOf, .ref h_t_bookIs, .int f_t_written, .ref h_t_forms, .int f_t_formRing, .int f_t_formMany, .ref h_t_best, .ref h_t_next, .ref h_t_ways, .ref h_t_round, .ref h_t_roughs, .int f_t_latest])), (h_t_best, .inl (cA, 4096, .inl f_t_best)), (h_t_roughs, .inl (cA, 4096, .inl f_t_roughs)), (h_t_w, .inl (cA, 190, .inl f_t_w))]) ⟨hx, hb, hml, hown, hts⟩ hK hP hD hS hA (c_Md_ones l dC dI cA fu a1 r_1 hc1) (va_cwS 1 hts gX11_layEasy_X11_ones rfl rfl rfl (by decide +kernel) ⟨Nat.le_of_ble_eq_true rfl, Nat.le_of_ble_eq_true rfl⟩) [] [0, 1, 2, 3] [0, 1, 2, 3] rfl rfl rfl rfl rfl rfl hl.1 (Nat.le_of_ble_eq_true rfl) dX11_layEasy_1 ⟨Nat.zero_le _, Nat.zero_le _⟩ (fun H locs hP hD hS => ?_)
  refine lv_topi (fun v2_1 ev2_1 => ?_)
  replace hm := lt_go ev2_1 hm
  refine lv_istore_n (lv' := [(2, .int v2_1), (0, .ref h_t), (1, .int a1)]) hx hb dX11_layEasy_4 rfl hl (by decide) rfl (fun ls hl => ?_)
  refine lv_iconst (v := 0) hx hb dX11_layEasy_5 (by decide) ?_
  refine lv_topi (fun v3_1 ev3_1 => ?_)
  replace hm := lt_go ev3_1 hm
  refine lv_istore_n (lv' := [(3, .int v3_1), (2, .int v2_1), (0, .ref h_t), (1, .int a1)]) hx hb dX11_layEasy_6 rfl hl (by decide) rfl (fun ls hl => ?_)
  have L7 : ∀ (n : Nat) (v3_2 : Int32) (f_t_best_1 : Nat → Int32) (f_t_roughs_1 : Nat → Int32) (f_t_best_2 : Nat → Int32) (f_t_roughs_2 : Nat → Int32), m_Md_layEasy_L7 fu f_t_w a1 v2_1 n v3_2 f_t_best_1 f_t_roughs_1 = some (f_t_best_2, f_t_roughs_2) → ∀ (H : Heap) (locs : List Loc), va_P (dC, dI) vwCl [(h_t, .inr (10, [.ref h_t_w, .int f_t_known, .int f_t_kept, .int f_t_seed, .ref h_t_imageSeed, .ref h_t_bookOf, .ref h_t_bookIs, .int f_t_written, .ref h_t_forms, .int f_t_formRing, .int f_t_formMany, .ref h_t_best, .ref h_t_next, .ref h_t_ways, .ref h_t_round, .ref h_t_roughs, .int f_t_latest])), (h_t_best, .inl (cA, 4096, .inl f_t_best_1)), (h_t_roughs, .inl (cA, 4096, .inl f_t_roughs_1)), (h_t_w, .inl (cA, 190, .inl f_t_w))] H → va_D A [(h_t, .inr (10, [.ref h_t_w, .int f_t_known, .int f_t_kept, .int f_t_seed, .ref h_t_imageSeed, .ref h_t_bookOf, .ref h_t_bookIs, .int f_t_written, .ref h_t_forms, .int f_t_formRing, .int f_t_formMany, .ref h_t_best, .ref h_t_next, .ref h_t_ways, .ref h_t_round, .ref h_t_roughs, .int f_t_latest])), (h_t_best, .inl (cA, 4096, .inl f_t_best_1)), (h_t_roughs, .inl (cA, 4096, .inl f_t_roughs_1)), (h_t_w, .inl (cA, 190, .inl f_t_w))] → va_S A s.heap H locs → ∀ ls : Array Slot, lv_has ls 7 [(0, .ref h_t), (1, .int a1), (2, .int v2_1), (3, .int v3_2)] → (∀ (H : Heap) (locs : List Loc), va_P (dC, dI) vwCl [(h_t, .inr (10, [.ref h_t_w, .int f_t_known, .int f_t_kept, .int f_t_seed, .ref h_t_imageSeed, .ref h_t_bookOf, .ref h_t_bookIs, .int f_t_written, .ref h_t_forms, .int f_t_formRing, .int f_t_formMany, .ref h_t_best, .ref h_t_next, .ref h_t_ways, .ref h_t_round, .ref h_t_roughs, .int f_t_latest])), (h_t_best, .inl (cA, 4096, .inl f_t_best_2)), (h_t_roughs, .inl (cA, 4096, .inl f_t_roughs_2)), (h_t_w, .inl (cA, 190, .inl f_t_w))] H → va_D A [(h_t, .inr (10, [.ref h_t_w, .int f_t_known, .int f_t_kept, .int f_t_seed, .ref h_t_imageSeed, .ref h_t_bookOf, .ref h_t_bookIs, .int f_t_written, .ref h_t_forms, .int f_t_formRing, .int f_t_formMany, .ref h_t_best, .ref h_t_next, .ref h_t_ways, .ref h_t_round, .ref h_t_roughs, .int f_t_latest])), (h_t_best, .inl (cA, 4096, .inl f_t_best_2)), (h_t_roughs, .inl (cA, 4096, .inl f_t_roughs_2)), (h_t_w, .inl (cA, 190, .inl f_t_w))] → va_S A s.heap H locs → ∀ ls : Array Slot, lv_has ls 7 [(0, .ref h_t)] → W p l e (headSpec wsX11_layEasy rmX11_layEasy).room s m (([.ref h_t, .int a1] : List Value).toArray) below meth c H locs 0 0 Q (F0 m 63 ls [])) → W p l e (headSpec wsX11_layEasy rmX11_layEasy).room s m (([.ref h_t, .int a1] : List Value).toArray) below meth c H locs 0 0 Q (F0 m 7 ls []) := by
    clear hm hP hD hS hl
    intro n
    induction n with
    | zero => intro _ _ _ _ _ hm; exact nomatch (show none = some _ from hm)
    | succ n ih =>
      intro v3_2 f_t_best_1 f_t_roughs_1 f_t_best_2 f_t_roughs_2 hm H locs hP hD hS ls hl KK
      unfold m_Md_layEasy_L7 at hm
      refine lv_iload_n hx hb dX11_layEasy_7 rfl (lv_at hl 3 rfl) ?_
      refine lv_iconst (v := 1) hx hb dX11_layEasy_8 (by decide) ?_
      refine lv_aload_n hx hb dX11_layEasy_9 rfl (lv_at hl 0 rfl) ?_
      obtain ⟨r_2, hc10, hm⟩ := bd1_go hm
      refine my_cVi (As := []) (rest := [.int 1, .int v3_2]) (WC := [(h_t, .inr (10, [.ref h_t_w, .int f_t_known, .int f_t_kept, .int f_t_seed, .ref h_t_imageSeed, .ref h_t_bookOf, .ref h_t_bookIs, .int f_t_written, .ref h_t_forms, .int f_t_formRing, .int f_t_formMany, .ref h_t_best, .ref h_t_next, .ref h_t_ways, .ref h_t_round, .ref h_t_roughs, .int f_t_latest])), (h_t_w, .inl (cA, 190, .inl f_t_w))]) (WC' := [(h_t, .inr (10, [.ref h_t_w, .int f_t_known, .int f_t_kept, .int f_t_seed, .ref h_t_imageSeed, .ref h_t_bookOf, .ref h_t_bookIs, .int f_t_written, .ref h_t_forms, .int f_t_formRing, .int f_t_formMany, .ref h_t_best, .ref h_t_next, .ref h_t_ways, .ref h_t_round, .ref h_t_roughs, .int f_t_latest])), (h_t_w, .inl (cA, 190, .inl f_t_w))]) (WR := [(h_t_best, .inl (cA, 4096, .inl f_t_best_1)), (h_t_roughs, .inl (cA, 4096, .inl f_t_roughs_1))]) (W' := [(h_t, .inr (10, [.ref h_t_w, .int f_t_known, .int f_t_kept, .int f_t_seed, .ref h_t_imageSeed, .ref h_t_bookOf, .ref h_t_bookIs, .int f_t_written, .ref h_t_forms, .int f_t_formRing, .int f_t_formMany, .ref h_t_best, .ref h_t_next, .ref h_t_ways, .ref h_t_round, .ref h_t_roughs, .int f_t_latest])), (h_t_best, .inl (cA, 4096, .inl f_t_best_1)), (h_t_roughs, .inl (cA, 4096, .inl f_t_roughs_1)), (h_t_w, .inl (cA, 190, .inl f_t_w))]) ⟨hx, hb, hml, hown, hts⟩ hK hP hD hS hA (c_Md_m l dC dI cA h_t h_t_w h_t_imageSeed h_t_bookOf h_t_bookIs h_t_forms h_t_best h_t_next h_t_ways h_t_round h_t_roughs f_t_known f_t_kept f_t_seed f_t_written f_t_formRing f_t_formMany f_t_latest f_t_w r_2 hc10) (cwV 0 hts gX11_layEasy_X11_m rfl rfl rfl (by decide +kernel) ⟨Nat.le_of_ble_eq_true rfl, Nat.le_of_ble_eq_true rfl⟩) [0, 3] [1, 2] [2, 0, 1, 3] rfl rfl rfl rfl (ci := 10) (q0 := 0) rfl rfl rfl rfl hl.1 (Nat.le_of_ble_eq_true rfl) dX11_layEasy_10 ⟨Nat.zero_le _, Nat.zero_le _⟩ (fun H locs hP hD hS => ?_)
      refine lv_ishl hx hb dX11_layEasy_13 ?_
      refine lv_icmp_ge (tgt := 63) hx hb dX11_layEasy_14 (by decide) (fun c14 => ?_) (fun c14 => ?_)
      · replace hm := if_t c14 hm
        cases hm
        exact KK _ _ hP hD hS _ (lv_sub hl [0] rfl)
      · replace hm := if_f c14 hm
        refine lv_aload_n hx hb dX11_layEasy_17 rfl (lv_at hl 0 rfl) ?_
        refine va_get (D := (dC, dI)) (ci := 10) (v := .ref h_t_best) (C := RX11) (T := TX11) (N := 17) hx hb hts uX11 hown hK hP 0 rfl rfl 11 (by decide) k1 (fun _ h9 => h9) rfl dX11_layEasy_18 ?_
        refine lv_iload_n hx hb dX11_layEasy_21 rfl (lv_at hl 3 rfl) ?_
        refine lv_iload_n hx hb dX11_layEasy_22 rfl (lv_at hl 3 rfl) ?_
        refine lv_iload_n hx hb dX11_layEasy_23 rfl (lv_at hl 1 rfl) ?_
        obtain ⟨q33_1, hqJ_1, hm⟩ := bd1_go hm
        have J_1 : ∀ (H : Heap) (locs : List Loc), va_P (dC, dI) vwCl [(h_t, .inr (10, [.ref h_t_w, .int f_t_known, .int f_t_kept, .int f_t_seed, .ref h_t_imageSeed, .ref h_t_bookOf, .ref h_t_bookIs, .int f_t_written, .ref h_t_forms, .int f_t_formRing, .int f_t_formMany, .ref h_t_best, .ref h_t_next, .ref h_t_ways, .ref h_t_round, .ref h_t_roughs, .int f_t_latest])), (h_t_best, .inl (cA, 4096, .inl f_t_best_1)), (h_t_roughs, .inl (cA, 4096, .inl f_t_roughs_1)), (h_t_w, .inl (cA, 190, .inl f_t_w))] H → va_D A [(h_t, .inr (10, [.ref h_t_w, .int f_t_known, .int f_t_kept, .int f_t_seed, .ref h_t_imageSeed, .ref h_t_bookOf, .ref h_t_bookIs, .int f_t_written, .ref h_t_forms, .int f_t_formRing, .int f_t_formMany, .ref h_t_best, .ref h_t_next, .ref h_t_ways, .ref h_t_round, .ref h_t_roughs, .int f_t_latest])), (h_t_best, .inl (cA, 4096, .inl f_t_best_1)), (h_t_roughs, .inl (cA, 4096, .inl f_t_roughs_1)), (h_t_w, .inl (cA, 190, .inl f_t_w))] → va_S A s.heap H locs → ∀ ls : Array Slot, lv_has ls 7 [(0, .ref h_t), (1, .int a1), (2, .int v2_1), (3, .int v3_2)] → W p l e (headSpec wsX11_layEasy rmX11_layEasy).room s m (([.ref h_t, .int a1] : List Value).toArray) below meth c H locs 0 0 Q (F0 m 33 ls [.int q33_1, .int v3_2, .ref h_t_best]) := by
          intro H locs hP hD hS ls hl
          clear hqJ_1
          obtain ⟨b33, hm⟩ := ck_go hm
          refine my_iast (W' := fun z' => [(h_t, .inr (10, [.ref h_t_w, .int f_t_known, .int f_t_kept, .int f_t_seed, .ref h_t_imageSeed, .ref h_t_bookOf, .ref h_t_bookIs, .int f_t_written, .ref h_t_forms, .int f_t_formRing, .int f_t_formMany, .ref h_t_best, .ref h_t_next, .ref h_t_ways, .ref h_t_round, .ref h_t_roughs, .int f_t_latest])), (h_t_best, .inl (cA, 4096, .inl z')), (h_t_roughs, .inl (cA, 4096, .inl f_t_roughs_1)), (h_t_w, .inl (cA, 190, .inl f_t_w))]) hx hb hK hP hD hS 1 0 rfl rfl b33 dX11_layEasy_33 (fun _ => rfl) (fun f_t_best_3 ef_t_best_3 H locs hP hD hS => ?_)
          replace hm := lt_go ef_t_best_3 hm
          refine lv_aload_n hx hb dX11_layEasy_34 rfl (lv_at hl 0 rfl) ?_
          refine va_get (D := (dC, dI)) (ci := 10) (v := .ref h_t_roughs) (C := RX11) (T := TX11) (N := 17) hx hb hts uX11 hown hK hP 0 rfl rfl 15 (by decide) k3 (fun _ h9 => h9) rfl dX11_layEasy_35 ?_
          refine lv_iload_n hx hb dX11_layEasy_38 rfl (lv_at hl 3 rfl) ?_
          refine lv_iload_n hx hb dX11_layEasy_39 rfl (lv_at hl 3 rfl) ?_
          obtain ⟨r_3, hc40, hm⟩ := bd1_go hm
          refine my_cSi (As := [.int v3_2]) (rest := [.int v3_2, .ref h_t_roughs]) (WC := []) (WC' := []) (WR := [(h_t, .inr (10, [.ref h_t_w, .int f_t_known, .int f_t_kept, .int f_t_seed, .ref h_t_imageSeed, .ref h_t_bookOf, .ref h_t_bookIs, .int f_t_written, .ref h_t_forms, .int f_t_formRing, .int f_t_formMany, .ref h_t_best, .ref h_t_next, .ref h_t_ways, .ref h_t_round, .ref h_t_roughs, .int f_t_latest])), (h_t_best, .inl (cA, 4096, .inl f_t_best_3)), (h_t_roughs, .inl (cA, 4096, .inl f_t_roughs_1)), (h_t_w, .inl (cA, 190, .inl f_t_w))]) (W' := [(h_t, .inr (10, [.ref h_t_w, .int f_t_known, .int f_t_kept, .int f_t_seed, .ref h_t_imageSeed, .ref h_t_bookOf, .ref h_t_bookIs, .int f_t_written, .ref h_t_forms, .int f_t_formRing, .int f_t_formMany, .ref h_t_best, .ref h_t_next, .ref h_t_ways, .ref h_t_round, .ref h_t_roughs, .int f_t_latest])), (h_t_best, .inl (cA, 4096, .inl f_t_best_3)), (h_t_roughs, .inl (cA, 4096, .inl f_t_roughs_1)), (h_t_w, .inl (cA, 190, .inl f_t_w))]) ⟨hx, hb, hml, hown, hts⟩ hK hP hD hS hA (c_Md_ones l dC dI cA fu v3_2 r_3 hc40) (va_cwS 1 hts gX11_layEasy_X11_ones rfl rfl rfl (by decide +kernel) ⟨Nat.le_of_ble_eq_true rfl, Nat.le_of_ble_eq_true rfl⟩) [] [0, 1, 2, 3] [0, 1, 2, 3] rfl rfl rfl rfl rfl rfl hl.1 (Nat.le_of_ble_eq_true rfl) dX11_layEasy_40 ⟨Nat.zero_le _, Nat.zero_le _⟩ (fun H locs hP hD hS => ?_)
          refine lv_iload_n hx hb dX11_layEasy_43 rfl (lv_at hl 2 rfl) ?_
          obtain ⟨q56_1, hqJ_2, hm⟩ := bd1_go hm
          have J_2 : ∀ (H : Heap) (locs : List Loc), va_P (dC, dI) vwCl [(h_t, .inr (10, [.ref h_t_w, .int f_t_known, .int f_t_kept, .int f_t_seed, .ref h_t_imageSeed, .ref h_t_bookOf, .ref h_t_bookIs, .int f_t_written, .ref h_t_forms, .int f_t_formRing, .int f_t_formMany, .ref h_t_best, .ref h_t_next, .ref h_t_ways, .ref h_t_round, .ref h_t_roughs, .int f_t_latest])), (h_t_best, .inl (cA, 4096, .inl f_t_best_3)), (h_t_roughs, .inl (cA, 4096, .inl f_t_roughs_1)), (h_t_w, .inl (cA, 190, .inl f_t_w))] H → va_D A [(h_t, .inr (10, [.ref h_t_w, .int f_t_known, .int f_t_kept, .int f_t_seed, .ref h_t_imageSeed, .ref h_t_bookOf, .ref h_t_bookIs, .int f_t_written, .ref h_t_forms, .int f_t_formRing, .int f_t_formMany, .ref h_t_best, .ref h_t_next, .ref h_t_ways, .ref h_t_round, .ref h_t_roughs, .int f_t_latest])), (h_t_best, .inl (cA, 4096, .inl f_t_best_3)), (h_t_roughs, .inl (cA, 4096, .inl f_t_roughs_1)), (h_t_w, .inl (cA, 190, .inl f_t_w))] → va_S A s.heap H locs → ∀ ls : Array Slot, lv_has ls 7 [(0, .ref h_t), (1, .int a1), (2, .int v2_1), (3, .int v3_2)] → W p l e (headSpec wsX11_layEasy rmX11_layEasy).room s m (([.ref h_t, .int a1] : List Value).toArray) below meth c H locs 0 0 Q (F0 m 56 ls [.int q56_1, .int v3_2, .ref h_t_roughs]) := by
            intro H locs hP hD hS ls hl
            clear hqJ_2
            obtain ⟨b56, hm⟩ := ck_go hm
            refine my_iast (W' := fun z' => [(h_t, .inr (10, [.ref h_t_w, .int f_t_known, .int f_t_kept, .int f_t_seed, .ref h_t_imageSeed, .ref h_t_bookOf, .ref h_t_bookIs, .int f_t_written, .ref h_t_forms, .int f_t_formRing, .int f_t_formMany, .ref h_t_best, .ref h_t_next, .ref h_t_ways, .ref h_t_round, .ref h_t_roughs, .int f_t_latest])), (h_t_best, .inl (cA, 4096, .inl f_t_best_3)), (h_t_roughs, .inl (cA, 4096, .inl z')), (h_t_w, .inl (cA, 190, .inl f_t_w))]) hx hb hK hP hD hS 2 0 rfl rfl b56 dX11_layEasy_56 (fun _ => rfl) (fun f_t_roughs_3 ef_t_roughs_3 H locs hP hD hS => ?_)
            replace hm := lt_go ef_t_roughs_3 hm
            obtain ⟨v3_3, ev3_3⟩ : ∃ z : Int32, z = v3_2 + 1 := ⟨_, rfl⟩
            replace hm := lt_go ev3_3 hm
            refine lv_iinc (v := v3_3) (lv' := [(3, .int v3_3), (0, .ref h_t), (1, .int a1), (2, .int v2_1)]) hx hb dX11_layEasy_57 hl (k := 3) rfl (by rw [ev3_3]; rfl) (by decide) rfl (fun ls hl => ?_)
            refine lv_goto (tgt := 7) hx hb dX11_layEasy_60 (by decide) ?_
            exact ih _ _ _ _ _ hm _ _ hP hD hS _ (lv_sub hl [1, 2, 3, 0] rfl) KK
          clear hm
          refine lv_icmp_ne (tgt := 55) hx hb dX11_layEasy_44 (by decide) (fun c44 => ?_) (fun c44 => ?_)
          · replace hqJ_2 := if_f c44 hqJ_2
            refine lv_iconst (v := 0) hx hb dX11_layEasy_55 (by decide) ?_
            cases hqJ_2
            exact J_2 _ _ hP hD hS _ (lv_sub hl [0, 1, 2, 3] rfl)
          · replace hqJ_2 := if_t c44 hqJ_2
            refine lv_aload_n hx hb dX11_layEasy_47 rfl (lv_at hl 0 rfl) ?_
            refine lv_iload_n hx hb dX11_layEasy_48 rfl (lv_at hl 3 rfl) ?_
            obtain ⟨r_4, hc49, hqJ_2⟩ := bd1_go hqJ_2
            refine my_cVi (As := [.int v3_2]) (rest := [.int v3_2, .ref h_t_roughs]) (WC := [(h_t, .inr (10, [.ref h_t_w, .int f_t_known, .int f_t_kept, .int f_t_seed, .ref h_t_imageSeed, .ref h_t_bookOf, .ref h_t_bookIs, .int f_t_written, .ref h_t_forms, .int f_t_formRing, .int f_t_formMany, .ref h_t_best, .ref h_t_next, .ref h_t_ways, .ref h_t_round, .ref h_t_roughs, .int f_t_latest])), (h_t_w, .inl (cA, 190, .inl f_t_w))]) (WC' := [(h_t, .inr (10, [.ref h_t_w, .int f_t_known, .int f_t_kept, .int f_t_seed, .ref h_t_imageSeed, .ref h_t_bookOf, .ref h_t_bookIs, .int f_t_written, .ref h_t_forms, .int f_t_formRing, .int f_t_formMany, .ref h_t_best, .ref h_t_next, .ref h_t_ways, .ref h_t_round, .ref h_t_roughs, .int f_t_latest])), (h_t_w, .inl (cA, 190, .inl f_t_w))]) (WR := [(h_t_best, .inl (cA, 4096, .inl f_t_best_3)), (h_t_roughs, .inl (cA, 4096, .inl f_t_roughs_1))]) (W' := [(h_t, .inr (10, [.ref h_t_w, .int f_t_known, .int f_t_kept, .int f_t_seed, .ref h_t_imageSeed, .ref h_t_bookOf, .ref h_t_bookIs, .int f_t_written, .ref h_t_forms, .int f_t_formRing, .int f_t_formMany, .ref h_t_best, .ref h_t_next, .ref h_t_ways, .ref h_t_round, .ref h_t_roughs, .int f_t_latest])), (h_t_best, .inl (cA, 4096, .inl f_t_best_3)), (h_t_roughs, .inl (cA, 4096, .inl f_t_roughs_1)), (h_t_w, .inl (cA, 190, .inl f_t_w))]) ⟨hx, hb, hml, hown, hts⟩ hK hP hD hS hA (c_Md_rough l dC dI cA fu h_t h_t_w h_t_imageSeed h_t_bookOf h_t_bookIs h_t_forms h_t_best h_t_next h_t_ways h_t_round h_t_roughs f_t_known f_t_kept f_t_seed f_t_written f_t_formRing f_t_formMany f_t_latest f_t_w v3_2 r_4 hc49) (cwV 1 hts gX11_layEasy_X11_rough rfl rfl rfl (by decide +kernel) ⟨Nat.le_of_ble_eq_true rfl, Nat.le_of_ble_eq_true rfl⟩) [0, 3] [1, 2] [2, 0, 1, 3] rfl rfl rfl rfl (ci := 10) (q0 := 0) rfl rfl rfl rfl hl.1 (Nat.le_of_ble_eq_true rfl) dX11_layEasy_49 ⟨Nat.zero_le _, Nat.zero_le _⟩ (fun H locs hP hD hS => ?_)
            refine lv_goto (tgt := 56) hx hb dX11_layEasy_52 (by decide) ?_
            cases hqJ_2
            exact J_2 _ _ hP hD hS _ (lv_sub hl [0, 1, 2, 3] rfl)
        clear hm
        refine lv_icmp_ne (tgt := 31) hx hb dX11_layEasy_24 (by decide) (fun c24 => ?_) (fun c24 => ?_)
        · replace hqJ_1 := if_f c24 hqJ_1
          refine lv_ldc (v := 1000000) hx hb hown k2 dX11_layEasy_31 ?_
          cases hqJ_1
          exact J_1 _ _ hP hD hS _ (lv_sub hl [0, 1, 2, 3] rfl)
        · replace hqJ_1 := if_t c24 hqJ_1
          refine lv_iconst (v := 0) hx hb dX11_layEasy_27 (by decide) ?_
          refine lv_goto (tgt := 33) hx hb dX11_layEasy_28 (by decide) ?_
          cases hqJ_1
          exact J_1 _ _ hP hD hS _ (lv_sub hl [0, 1, 2, 3] rfl)
  obtain ⟨f_t_best_4, f_t_roughs_4, hl7, hm⟩ := bd2_go hm
  refine L7 _ _ _ _ _ _ hl7 _ _ hP hD hS _ (lv_sub hl [2, 3, 1, 0] rfl) (fun H locs hP hD hS ls hl => ?_)
  refine lv_iconst (v := 1) hx hb dX11_layEasy_63 (by decide) ?_
  refine lv_topi (fun v3_4 ev3_4 => ?_)
  replace hm := lt_go ev3_4 hm
  refine lv_istore_n (lv' := [(3, .int v3_4), (0, .ref h_t)]) hx hb dX11_layEasy_64 rfl hl (by decide) rfl (fun ls hl => ?_)
  have L65 : ∀ (n : Nat) (v3_5 : Int32) (f_t_best_5 : Nat → Int32) (f_t_best_6 : Nat → Int32), m_Md_layEasy_L65 fu f_t_w f_t_roughs_4 n v3_5 f_t_best_5 = some f_t_best_6 → ∀ (H : Heap) (locs : List Loc), va_P (dC, dI) vwCl [(h_t, .inr (10, [.ref h_t_w, .int f_t_known, .int f_t_kept, .int f_t_seed, .ref h_t_imageSeed, .ref h_t_bookOf, .ref h_t_bookIs, .int f_t_written, .ref h_t_forms, .int f_t_formRing, .int f_t_formMany, .ref h_t_best, .ref h_t_next, .ref h_t_ways, .ref h_t_round, .ref h_t_roughs, .int f_t_latest])), (h_t_best, .inl (cA, 4096, .inl f_t_best_5)), (h_t_roughs, .inl (cA, 4096, .inl f_t_roughs_4)), (h_t_w, .inl (cA, 190, .inl f_t_w))] H → va_D A [(h_t, .inr (10, [.ref h_t_w, .int f_t_known, .int f_t_kept, .int f_t_seed, .ref h_t_imageSeed, .ref h_t_bookOf, .ref h_t_bookIs, .int f_t_written, .ref h_t_forms, .int f_t_formRing, .int f_t_formMany, .ref h_t_best, .ref h_t_next, .ref h_t_ways, .ref h_t_round, .ref h_t_roughs, .int f_t_latest])), (h_t_best, .inl (cA, 4096, .inl f_t_best_5)), (h_t_roughs, .inl (cA, 4096, .inl f_t_roughs_4)), (h_t_w, .inl (cA, 190, .inl f_t_w))] → va_S A s.heap H locs → ∀ ls : Array Slot, lv_has ls 7 [(0, .ref h_t), (3, .int v3_5)] → (∀ (H : Heap) (locs : List Loc), va_P (dC, dI) vwCl [(h_t, .inr (10, [.ref h_t_w, .int f_t_known, .int f_t_kept, .int f_t_seed, .ref h_t_imageSeed, .ref h_t_bookOf, .ref h_t_bookIs, .int f_t_written, .ref h_t_forms, .int f_t_formRing, .int f_t_formMany, .ref h_t_best, .ref h_t_next, .ref h_t_ways, .ref h_t_round, .ref h_t_roughs, .int f_t_latest])), (h_t_best, .inl (cA, 4096, .inl f_t_best_6)), (h_t_roughs, .inl (cA, 4096, .inl f_t_roughs_4)), (h_t_w, .inl (cA, 190, .inl f_t_w))] H → va_D A [(h_t, .inr (10, [.ref h_t_w, .int f_t_known, .int f_t_kept, .int f_t_seed, .ref h_t_imageSeed, .ref h_t_bookOf, .ref h_t_bookIs, .int f_t_written, .ref h_t_forms, .int f_t_formRing, .int f_t_formMany, .ref h_t_best, .ref h_t_next, .ref h_t_ways, .ref h_t_round, .ref h_t_roughs, .int f_t_latest])), (h_t_best, .inl (cA, 4096, .inl f_t_best_6)), (h_t_roughs, .inl (cA, 4096, .inl f_t_roughs_4)), (h_t_w, .inl (cA, 190, .inl f_t_w))] → va_S A s.heap H locs → ∀ ls : Array Slot, lv_has ls 7 [] → W p l e (headSpec wsX11_layEasy rmX11_layEasy).room s m (([.ref h_t, .int a1] : List Value).toArray) below meth c H locs 0 0 Q (F0 m 188 ls [])) → W p l e (headSpec wsX11_layEasy rmX11_layEasy).room s m (([.ref h_t, .int a1] : List Value).toArray) below meth c H locs 0 0 Q (F0 m 65 ls []) := by
    clear hm hP hD hS hl
    intro n
    induction n with
    | zero => intro _ _ _ hm; exact nomatch (show none = some _ from hm)
    | succ n ih =>
      intro v3_5 f_t_best_5 f_t_best_6 hm H locs hP hD hS ls hl KK
      unfold m_Md_layEasy_L65 at hm
      refine lv_iload_n hx hb dX11_layEasy_65 rfl (lv_at hl 1 rfl) ?_
      refine lv_if_eq (tgt := 188) hx hb dX11_layEasy_66 (by decide) (fun c66 => ?_) (fun c66 => ?_)
      · replace hm := if_t c66 hm
        cases hm
        exact KK _ _ hP hD hS _ (lv_sub hl [] rfl)
      · replace hm := if_f c66 hm
        refine lv_iconst (v := 0) hx hb dX11_layEasy_69 (by decide) ?_
        refine lv_topi (fun v3_6 ev3_6 => ?_)
        replace hm := lt_go ev3_6 hm
        refine lv_istore_n (lv' := [(3, .int v3_6), (0, .ref h_t)]) hx hb dX11_layEasy_70 rfl hl (by decide) rfl (fun ls hl => ?_)
        refine lv_iconst (v := 0) hx hb dX11_layEasy_71 (by decide) ?_
        refine lv_topi (fun v4_1 ev4_1 => ?_)
        replace hm := lt_go ev4_1 hm
        refine lv_istore (lv' := [(4, .int v4_1), (3, .int v3_6), (0, .ref h_t)]) hx hb dX11_layEasy_72 hl (by decide) rfl (fun ls hl => ?_)
        have L74 : ∀ (n : Nat) (v3_7 : Int32) (v4_2 : Int32) (f_t_best_7 : Nat → Int32) (v3_8 : Int32) (f_t_best_8 : Nat → Int32), m_Md_layEasy_L74 fu f_t_w f_t_roughs_4 n v3_7 v4_2 f_t_best_7 = some (v3_8, f_t_best_8) → ∀ (H : Heap) (locs : List Loc), va_P (dC, dI) vwCl [(h_t, .inr (10, [.ref h_t_w, .int f_t_known, .int f_t_kept, .int f_t_seed, .ref h_t_imageSeed, .ref h_t_bookOf, .ref h_t_bookIs, .int f_t_written, .ref h_t_forms, .int f_t_formRing, .int f_t_formMany, .ref h_t_best, .ref h_t_next, .ref h_t_ways, .ref h_t_round, .ref h_t_roughs, .int f_t_latest])), (h_t_best, .inl (cA, 4096, .inl f_t_best_7)), (h_t_roughs, .inl (cA, 4096, .inl f_t_roughs_4)), (h_t_w, .inl (cA, 190, .inl f_t_w))] H → va_D A [(h_t, .inr (10, [.ref h_t_w, .int f_t_known, .int f_t_kept, .int f_t_seed, .ref h_t_imageSeed, .ref h_t_bookOf, .ref h_t_bookIs, .int f_t_written, .ref h_t_forms, .int f_t_formRing, .int f_t_formMany, .ref h_t_best, .ref h_t_next, .ref h_t_ways, .ref h_t_round, .ref h_t_roughs, .int f_t_latest])), (h_t_best, .inl (cA, 4096, .inl f_t_best_7)), (h_t_roughs, .inl (cA, 4096, .inl f_t_roughs_4)), (h_t_w, .inl (cA, 190, .inl f_t_w))] → va_S A s.heap H locs → ∀ ls : Array Slot, lv_has ls 7 [(0, .ref h_t), (3, .int v3_7), (4, .int v4_2)] → (∀ (H : Heap) (locs : List Loc), va_P (dC, dI) vwCl [(h_t, .inr (10, [.ref h_t_w, .int f_t_known, .int f_t_kept, .int f_t_seed, .ref h_t_imageSeed, .ref h_t_bookOf, .ref h_t_bookIs, .int f_t_written, .ref h_t_forms, .int f_t_formRing, .int f_t_formMany, .ref h_t_best, .ref h_t_next, .ref h_t_ways, .ref h_t_round, .ref h_t_roughs, .int f_t_latest])), (h_t_best, .inl (cA, 4096, .inl f_t_best_8)), (h_t_roughs, .inl (cA, 4096, .inl f_t_roughs_4)), (h_t_w, .inl (cA, 190, .inl f_t_w))] H → va_D A [(h_t, .inr (10, [.ref h_t_w, .int f_t_known, .int f_t_kept, .int f_t_seed, .ref h_t_imageSeed, .ref h_t_bookOf, .ref h_t_bookIs, .int f_t_written, .ref h_t_forms, .int f_t_formRing, .int f_t_formMany, .ref h_t_best, .ref h_t_next, .ref h_t_ways, .ref h_t_round, .ref h_t_roughs, .int f_t_latest])), (h_t_best, .inl (cA, 4096, .inl f_t_best_8)), (h_t_roughs, .inl (cA, 4096, .inl f_t_roughs_4)), (h_t_w, .inl (cA, 190, .inl f_t_w))] → va_S A s.heap H locs → ∀ ls : Array Slot, lv_has ls 7 [(0, .ref h_t), (3, .int v3_8)] → W p l e (headSpec wsX11_layEasy rmX11_layEasy).room s m (([.ref h_t, .int a1] : List Value).toArray) below meth c H locs 0 0 Q (F0 m 185 ls [])) → W p l e (headSpec wsX11_layEasy rmX11_layEasy).room s m (([.ref h_t, .int a1] : List Value).toArray) below meth c H locs 0 0 Q (F0 m 74 ls []) := by
          clear hm hP hD hS hl
          intro n
          induction n with
          | zero => intro _ _ _ _ _ hm; exact nomatch (show none = some _ from hm)
          | succ n ih =>
            intro v3_7 v4_2 f_t_best_7 v3_8 f_t_best_8 hm H locs hP hD hS ls hl KK
            unfold m_Md_layEasy_L74 at hm
            refine lv_iload hx hb dX11_layEasy_74 (lv_at hl 2 rfl) ?_
            refine lv_iconst (v := 1) hx hb dX11_layEasy_76 (by decide) ?_
            refine lv_aload_n hx hb dX11_layEasy_77 rfl (lv_at hl 0 rfl) ?_
            obtain ⟨r_5, hc78, hm⟩ := bd1_go hm
            refine my_cVi (As := []) (rest := [.int 1, .int v4_2]) (WC := [(h_t, .inr (10, [.ref h_t_w, .int f_t_known, .int f_t_kept, .int f_t_seed, .ref h_t_imageSeed, .ref h_t_bookOf, .ref h_t_bookIs, .int f_t_written, .ref h_t_forms, .int f_t_formRing, .int f_t_formMany, .ref h_t_best, .ref h_t_next, .ref h_t_ways, .ref h_t_round, .ref h_t_roughs, .int f_t_latest])), (h_t_w, .inl (cA, 190, .inl f_t_w))]) (WC' := [(h_t, .inr (10, [.ref h_t_w, .int f_t_known, .int f_t_kept, .int f_t_seed, .ref h_t_imageSeed, .ref h_t_bookOf, .ref h_t_bookIs, .int f_t_written, .ref h_t_forms, .int f_t_formRing, .int f_t_formMany, .ref h_t_best, .ref h_t_next, .ref h_t_ways, .ref h_t_round, .ref h_t_roughs, .int f_t_latest])), (h_t_w, .inl (cA, 190, .inl f_t_w))]) (WR := [(h_t_best, .inl (cA, 4096, .inl f_t_best_7)), (h_t_roughs, .inl (cA, 4096, .inl f_t_roughs_4))]) (W' := [(h_t, .inr (10, [.ref h_t_w, .int f_t_known, .int f_t_kept, .int f_t_seed, .ref h_t_imageSeed, .ref h_t_bookOf, .ref h_t_bookIs, .int f_t_written, .ref h_t_forms, .int f_t_formRing, .int f_t_formMany, .ref h_t_best, .ref h_t_next, .ref h_t_ways, .ref h_t_round, .ref h_t_roughs, .int f_t_latest])), (h_t_best, .inl (cA, 4096, .inl f_t_best_7)), (h_t_roughs, .inl (cA, 4096, .inl f_t_roughs_4)), (h_t_w, .inl (cA, 190, .inl f_t_w))]) ⟨hx, hb, hml, hown, hts⟩ hK hP hD hS hA (c_Md_m l dC dI cA h_t h_t_w h_t_imageSeed h_t_bookOf h_t_bookIs h_t_forms h_t_best h_t_next h_t_ways h_t_round h_t_roughs f_t_known f_t_kept f_t_seed f_t_written f_t_formRing f_t_formMany f_t_latest f_t_w r_5 hc78) (cwV 0 hts gX11_layEasy_X11_m rfl rfl rfl (by decide +kernel) ⟨Nat.le_of_ble_eq_true rfl, Nat.le_of_ble_eq_true rfl⟩) [0, 3] [1, 2] [2, 0, 1, 3] rfl rfl rfl rfl (ci := 10) (q0 := 0) rfl rfl rfl rfl hl.1 (Nat.le_of_ble_eq_true rfl) dX11_layEasy_78 ⟨Nat.zero_le _, Nat.zero_le _⟩ (fun H locs hP hD hS => ?_)
            refine lv_ishl hx hb dX11_layEasy_81 ?_
            refine lv_icmp_ge (tgt := 185) hx hb dX11_layEasy_82 (by decide) (fun c82 => ?_) (fun c82 => ?_)
            · replace hm := if_t c82 hm
              cases hm
              exact KK _ _ hP hD hS _ (lv_sub hl [0, 1] rfl)
            · replace hm := if_f c82 hm
              refine lv_iconst (v := 0) hx hb dX11_layEasy_85 (by decide) ?_
              refine lv_topi (fun v5_1 ev5_1 => ?_)
              replace hm := lt_go ev5_1 hm
              refine lv_istore (lv' := [(5, .int v5_1), (0, .ref h_t), (3, .int v3_7), (4, .int v4_2)]) hx hb dX11_layEasy_86 hl (by decide) rfl (fun ls hl => ?_)
              have L88 : ∀ (n : Nat) (v3_9 : Int32) (v5_2 : Int32) (f_t_best_9 : Nat → Int32) (v3_10 : Int32) (f_t_best_10 : Nat → Int32), m_Md_layEasy_L88 f_t_w v4_2 f_t_roughs_4 n v3_9 v5_2 f_t_best_9 = some (v3_10, f_t_best_10) → ∀ (H : Heap) (locs : List Loc), va_P (dC, dI) vwCl [(h_t, .inr (10, [.ref h_t_w, .int f_t_known, .int f_t_kept, .int f_t_seed, .ref h_t_imageSeed, .ref h_t_bookOf, .ref h_t_bookIs, .int f_t_written, .ref h_t_forms, .int f_t_formRing, .int f_t_formMany, .ref h_t_best, .ref h_t_next, .ref h_t_ways, .ref h_t_round, .ref h_t_roughs, .int f_t_latest])), (h_t_best, .inl (cA, 4096, .inl f_t_best_9)), (h_t_roughs, .inl (cA, 4096, .inl f_t_roughs_4)), (h_t_w, .inl (cA, 190, .inl f_t_w))] H → va_D A [(h_t, .inr (10, [.ref h_t_w, .int f_t_known, .int f_t_kept, .int f_t_seed, .ref h_t_imageSeed, .ref h_t_bookOf, .ref h_t_bookIs, .int f_t_written, .ref h_t_forms, .int f_t_formRing, .int f_t_formMany, .ref h_t_best, .ref h_t_next, .ref h_t_ways, .ref h_t_round, .ref h_t_roughs, .int f_t_latest])), (h_t_best, .inl (cA, 4096, .inl f_t_best_9)), (h_t_roughs, .inl (cA, 4096, .inl f_t_roughs_4)), (h_t_w, .inl (cA, 190, .inl f_t_w))] → va_S A s.heap H locs → ∀ ls : Array Slot, lv_has ls 7 [(0, .ref h_t), (3, .int v3_9), (4, .int v4_2), (5, .int v5_2)] → (∀ (H : Heap) (locs : List Loc), va_P (dC, dI) vwCl [(h_t, .inr (10, [.ref h_t_w, .int f_t_known, .int f_t_kept, .int f_t_seed, .ref h_t_imageSeed, .ref h_t_bookOf, .ref h_t_bookIs, .int f_t_written, .ref h_t_forms, .int f_t_formRing, .int f_t_formMany, .ref h_t_best, .ref h_t_next, .ref h_t_ways, .ref h_t_round, .ref h_t_roughs, .int f_t_latest])), (h_t_best, .inl (cA, 4096, .inl f_t_best_10)), (h_t_roughs, .inl (cA, 4096, .inl f_t_roughs_4)), (h_t_w, .inl (cA, 190, .inl f_t_w))] H → va_D A [(h_t, .inr (10, [.ref h_t_w, .int f_t_known, .int f_t_kept, .int f_t_seed, .ref h_t_imageSeed, .ref h_t_bookOf, .ref h_t_bookIs, .int f_t_written, .ref h_t_forms, .int f_t_formRing, .int f_t_formMany, .ref h_t_best, .ref h_t_next, .ref h_t_ways, .ref h_t_round, .ref h_t_roughs, .int f_t_latest])), (h_t_best, .inl (cA, 4096, .inl f_t_best_10)), (h_t_roughs, .inl (cA, 4096, .inl f_t_roughs_4)), (h_t_w, .inl (cA, 190, .inl f_t_w))] → va_S A s.heap H locs → ∀ ls : Array Slot, lv_has ls 7 [(0, .ref h_t), (3, .int v3_10), (4, .int v4_2)] → W p l e (headSpec wsX11_layEasy rmX11_layEasy).room s m (([.ref h_t, .int a1] : List Value).toArray) below meth c H locs 0 0 Q (F0 m 179 ls [])) → W p l e (headSpec wsX11_layEasy rmX11_layEasy).room s m (([.ref h_t, .int a1] : List Value).toArray) below meth c H locs 0 0 Q (F0 m 88 ls []) := by
                clear hm hP hD hS hl
                intro n
                induction n with
                | zero => intro _ _ _ _ _ hm; exact nomatch (show none = some _ from hm)
                | succ n ih =>
                  intro v3_9 v5_2 f_t_best_9 v3_10 f_t_best_10 hm H locs hP hD hS ls hl KK
                  unfold m_Md_layEasy_L88 at hm
                  refine lv_iload hx hb dX11_layEasy_88 (lv_at hl 3 rfl) ?_
                  refine lv_iconst (v := 2) hx hb dX11_layEasy_90 (by decide) ?_
                  refine lv_aload_n hx hb dX11_layEasy_91 rfl (lv_at hl 0 rfl) ?_
                  obtain ⟨r_6, hc92, hm⟩ := bd1_go hm
                  refine my_cVi (As := []) (rest := [.int 2, .int v5_2]) (WC := [(h_t, .inr (10, [.ref h_t_w, .int f_t_known, .int f_t_kept, .int f_t_seed, .ref h_t_imageSeed, .ref h_t_bookOf, .ref h_t_bookIs, .int f_t_written, .ref h_t_forms, .int f_t_formRing, .int f_t_formMany, .ref h_t_best, .ref h_t_next, .ref h_t_ways, .ref h_t_round, .ref h_t_roughs, .int f_t_latest])), (h_t_w, .inl (cA, 190, .inl f_t_w))]) (WC' := [(h_t, .inr (10, [.ref h_t_w, .int f_t_known, .int f_t_kept, .int f_t_seed, .ref h_t_imageSeed, .ref h_t_bookOf, .ref h_t_bookIs, .int f_t_written, .ref h_t_forms, .int f_t_formRing, .int f_t_formMany, .ref h_t_best, .ref h_t_next, .ref h_t_ways, .ref h_t_round, .ref h_t_roughs, .int f_t_latest])), (h_t_w, .inl (cA, 190, .inl f_t_w))]) (WR := [(h_t_best, .inl (cA, 4096, .inl f_t_best_9)), (h_t_roughs, .inl (cA, 4096, .inl f_t_roughs_4))]) (W' := [(h_t, .inr (10, [.ref h_t_w, .int f_t_known, .int f_t_kept, .int f_t_seed, .ref h_t_imageSeed, .ref h_t_bookOf, .ref h_t_bookIs, .int f_t_written, .ref h_t_forms, .int f_t_formRing, .int f_t_formMany, .ref h_t_best, .ref h_t_next, .ref h_t_ways, .ref h_t_round, .ref h_t_roughs, .int f_t_latest])), (h_t_best, .inl (cA, 4096, .inl f_t_best_9)), (h_t_roughs, .inl (cA, 4096, .inl f_t_roughs_4)), (h_t_w, .inl (cA, 190, .inl f_t_w))]) ⟨hx, hb, hml, hown, hts⟩ hK hP hD hS hA (c_Md_m l dC dI cA h_t h_t_w h_t_imageSeed h_t_bookOf h_t_bookIs h_t_forms h_t_best h_t_next h_t_ways h_t_round h_t_roughs f_t_known f_t_kept f_t_seed f_t_written f_t_formRing f_t_formMany f_t_latest f_t_w r_6 hc92) (cwV 0 hts gX11_layEasy_X11_m rfl rfl rfl (by decide +kernel) ⟨Nat.le_of_ble_eq_true rfl, Nat.le_of_ble_eq_true rfl⟩) [0, 3] [1, 2] [2, 0, 1, 3] rfl rfl rfl rfl (ci := 10) (q0 := 0) rfl rfl rfl rfl hl.1 (Nat.le_of_ble_eq_true rfl) dX11_layEasy_92 ⟨Nat.zero_le _, Nat.zero_le _⟩ (fun H locs hP hD hS => ?_)
                  refine lv_imul hx hb dX11_layEasy_95 ?_
                  refine lv_icmp_ge (tgt := 179) hx hb dX11_layEasy_96 (by decide) (fun c96 => ?_) (fun c96 => ?_)
                  · replace hm := if_t c96 hm
                    cases hm
                    exact KK _ _ hP hD hS _ (lv_sub hl [0, 1, 2] rfl)
                  · replace hm := if_f c96 hm
                    refine lv_aload_n hx hb dX11_layEasy_99 rfl (lv_at hl 0 rfl) ?_
                    refine va_get (D := (dC, dI)) (ci := 10) (v := .ref h_t_roughs) (C := RX11) (T := TX11) (N := 17) hx hb hts uX11 hown hK hP 0 rfl rfl 15 (by decide) k3 (fun _ h9 => h9) rfl dX11_layEasy_100 ?_
                    refine lv_iload hx hb dX11_layEasy_103 (lv_at hl 2 rfl) ?_
                    obtain ⟨b105, hm⟩ := ck_go hm
                    refine va_iald hx hb hK hP 2 0 rfl rfl b105 dX11_layEasy_105 ?_
                    refine lv_if_le (tgt := 179) hx hb dX11_layEasy_106 (by decide) (fun c106 => ?_) (fun c106 => ?_)
                    · replace hm := if_t c106 hm
                      cases hm
                      exact KK _ _ hP hD hS _ (lv_sub hl [0, 1, 2] rfl)
                    · replace hm := if_f c106 hm
                      refine lv_aload_n hx hb dX11_layEasy_109 rfl (lv_at hl 0 rfl) ?_
                      refine lv_iload hx hb dX11_layEasy_110 (lv_at hl 2 rfl) ?_
                      refine lv_iload hx hb dX11_layEasy_112 (lv_at hl 3 rfl) ?_
                      obtain ⟨r_7, hc114, hm⟩ := bd1_go hm
                      refine my_cVi (As := [.int v4_2, .int v5_2]) (rest := []) (WC := [(h_t, .inr (10, [.ref h_t_w, .int f_t_known, .int f_t_kept, .int f_t_seed, .ref h_t_imageSeed, .ref h_t_bookOf, .ref h_t_bookIs, .int f_t_written, .ref h_t_forms, .int f_t_formRing, .int f_t_formMany, .ref h_t_best, .ref h_t_next, .ref h_t_ways, .ref h_t_round, .ref h_t_roughs, .int f_t_latest])), (h_t_w, .inl (cA, 190, .inl f_t_w))]) (WC' := [(h_t, .inr (10, [.ref h_t_w, .int f_t_known, .int f_t_kept, .int f_t_seed, .ref h_t_imageSeed, .ref h_t_bookOf, .ref h_t_bookIs, .int f_t_written, .ref h_t_forms, .int f_t_formRing, .int f_t_formMany, .ref h_t_best, .ref h_t_next, .ref h_t_ways, .ref h_t_round, .ref h_t_roughs, .int f_t_latest])), (h_t_w, .inl (cA, 190, .inl f_t_w))]) (WR := [(h_t_best, .inl (cA, 4096, .inl f_t_best_9)), (h_t_roughs, .inl (cA, 4096, .inl f_t_roughs_4))]) (W' := [(h_t, .inr (10, [.ref h_t_w, .int f_t_known, .int f_t_kept, .int f_t_seed, .ref h_t_imageSeed, .ref h_t_bookOf, .ref h_t_bookIs, .int f_t_written, .ref h_t_forms, .int f_t_formRing, .int f_t_formMany, .ref h_t_best, .ref h_t_next, .ref h_t_ways, .ref h_t_round, .ref h_t_roughs, .int f_t_latest])), (h_t_best, .inl (cA, 4096, .inl f_t_best_9)), (h_t_roughs, .inl (cA, 4096, .inl f_t_roughs_4)), (h_t_w, .inl (cA, 190, .inl f_t_w))]) ⟨hx, hb, hml, hown, hts⟩ hK hP hD hS hA (c_Md_moveOf l dC dI cA h_t h_t_w h_t_imageSeed h_t_bookOf h_t_bookIs h_t_forms h_t_best h_t_next h_t_ways h_t_round h_t_roughs f_t_known f_t_kept f_t_seed f_t_written f_t_formRing f_t_formMany f_t_latest f_t_w v4_2 v5_2 r_7 hc114) (cwV 2 hts gX11_layEasy_X11_moveOf rfl rfl rfl (by decide +kernel) ⟨Nat.le_of_ble_eq_true rfl, Nat.le_of_ble_eq_true rfl⟩) [0, 3] [1, 2] [2, 0, 1, 3] rfl rfl rfl rfl (ci := 10) (q0 := 0) rfl rfl rfl rfl hl.1 (Nat.le_of_ble_eq_true rfl) dX11_layEasy_114 ⟨Nat.zero_le _, Nat.zero_le _⟩ (fun H locs hP hD hS => ?_)
                      refine lv_topi (fun v6_1 ev6_1 => ?_)
                      replace hm := lt_go ev6_1 hm
                      refine lv_istore (lv' := [(6, .int v6_1), (0, .ref h_t), (3, .int v3_9), (4, .int v4_2), (5, .int v5_2)]) hx hb dX11_layEasy_117 hl (by decide) rfl (fun ls hl => ?_)
                      refine lv_iload hx hb dX11_layEasy_119 (lv_at hl 0 rfl) ?_
                      obtain ⟨v3_11, f_t_best_11, hqJ_3, hm⟩ := bd2_go hm
                      have J_3 : ∀ (H : Heap) (locs : List Loc), va_P (dC, dI) vwCl [(h_t, .inr (10, [.ref h_t_w, .int f_t_known, .int f_t_kept, .int f_t_seed, .ref h_t_imageSeed, .ref h_t_bookOf, .ref h_t_bookIs, .int f_t_written, .ref h_t_forms, .int f_t_formRing, .int f_t_formMany, .ref h_t_best, .ref h_t_next, .ref h_t_ways, .ref h_t_round, .ref h_t_roughs, .int f_t_latest])), (h_t_best, .inl (cA, 4096, .inl f_t_best_11)), (h_t_roughs, .inl (cA, 4096, .inl f_t_roughs_4)), (h_t_w, .inl (cA, 190, .inl f_t_w))] H → va_D A [(h_t, .inr (10, [.ref h_t_w, .int f_t_known, .int f_t_kept, .int f_t_seed, .ref h_t_imageSeed, .ref h_t_bookOf, .ref h_t_bookIs, .int f_t_written, .ref h_t_forms, .int f_t_formRing, .int f_t_formMany, .ref h_t_best, .ref h_t_next, .ref h_t_ways, .ref h_t_round, .ref h_t_roughs, .int f_t_latest])), (h_t_best, .inl (cA, 4096, .inl f_t_best_11)), (h_t_roughs, .inl (cA, 4096, .inl f_t_roughs_4)), (h_t_w, .inl (cA, 190, .inl f_t_w))] → va_S A s.heap H locs → ∀ ls : Array Slot, lv_has ls 7 [(0, .ref h_t), (3, .int v3_11), (4, .int v4_2), (5, .int v5_2)] → W p l e (headSpec wsX11_layEasy rmX11_layEasy).room s m (([.ref h_t, .int a1] : List Value).toArray) below meth c H locs 0 0 Q (F0 m 173 ls []) := by
                        intro H locs hP hD hS ls hl
                        clear hqJ_3
                        obtain ⟨v5_3, ev5_3⟩ : ∃ z : Int32, z = v5_2 + 1 := ⟨_, rfl⟩
                        replace hm := lt_go ev5_3 hm
                        refine lv_iinc (v := v5_3) (lv' := [(5, .int v5_3), (0, .ref h_t), (3, .int v3_11), (4, .int v4_2)]) hx hb dX11_layEasy_173 hl (k := 3) rfl (by rw [ev5_3]; rfl) (by decide) rfl (fun ls hl => ?_)
                        refine lv_goto (tgt := 88) hx hb dX11_layEasy_176 (by decide) ?_
                        exact ih _ _ _ _ _ hm _ _ hP hD hS _ (lv_sub hl [1, 2, 3, 0] rfl) KK
                      clear hm
                      refine lv_if_le (tgt := 173) hx hb dX11_layEasy_121 (by decide) (fun c121 => ?_) (fun c121 => ?_)
                      · replace hqJ_3 := if_t c121 hqJ_3
                        cases hqJ_3
                        exact J_3 _ _ hP hD hS _ (lv_sub hl [1, 2, 3, 4] rfl)
                      · replace hqJ_3 := if_f c121 hqJ_3
                        refine lv_aload_n hx hb dX11_layEasy_124 rfl (lv_at hl 1 rfl) ?_
                        refine va_get (D := (dC, dI)) (ci := 10) (v := .ref h_t_best) (C := RX11) (T := TX11) (N := 17) hx hb hts uX11 hown hK hP 0 rfl rfl 11 (by decide) k1 (fun _ h9 => h9) rfl dX11_layEasy_125 ?_
                        refine lv_iload hx hb dX11_layEasy_128 (lv_at hl 0 rfl) ?_
                        obtain ⟨b130, hqJ_3⟩ := ck_go hqJ_3
                        refine va_iald hx hb hK hP 1 0 rfl rfl b130 dX11_layEasy_130 ?_
                        refine lv_aload_n hx hb dX11_layEasy_131 rfl (lv_at hl 1 rfl) ?_
                        refine va_get (D := (dC, dI)) (ci := 10) (v := .ref h_t_roughs) (C := RX11) (T := TX11) (N := 17) hx hb hts uX11 hown hK hP 0 rfl rfl 15 (by decide) k3 (fun _ h9 => h9) rfl dX11_layEasy_132 ?_
                        refine lv_iload hx hb dX11_layEasy_135 (lv_at hl 0 rfl) ?_
                        obtain ⟨b137, hqJ_3⟩ := ck_go hqJ_3
                        refine va_iald hx hb hK hP 2 0 rfl rfl b137 dX11_layEasy_137 ?_
                        refine lv_iadd hx hb dX11_layEasy_138 ?_
                        refine lv_aload_n hx hb dX11_layEasy_139 rfl (lv_at hl 1 rfl) ?_
                        refine va_get (D := (dC, dI)) (ci := 10) (v := .ref h_t_best) (C := RX11) (T := TX11) (N := 17) hx hb hts uX11 hown hK hP 0 rfl rfl 11 (by decide) k1 (fun _ h9 => h9) rfl dX11_layEasy_140 ?_
                        refine lv_iload hx hb dX11_layEasy_143 (lv_at hl 3 rfl) ?_
                        obtain ⟨b145, hqJ_3⟩ := ck_go hqJ_3
                        refine va_iald hx hb hK hP 1 0 rfl rfl b145 dX11_layEasy_145 ?_
                        refine lv_icmp_ge (tgt := 173) hx hb dX11_layEasy_146 (by decide) (fun c146 => ?_) (fun c146 => ?_)
                        · replace hqJ_3 := if_t c146 hqJ_3
                          cases hqJ_3
                          exact J_3 _ _ hP hD hS _ (lv_sub hl [1, 2, 3, 4] rfl)
                        · replace hqJ_3 := if_f c146 hqJ_3
                          refine lv_aload_n hx hb dX11_layEasy_149 rfl (lv_at hl 1 rfl) ?_
                          refine va_get (D := (dC, dI)) (ci := 10) (v := .ref h_t_best) (C := RX11) (T := TX11) (N := 17) hx hb hts uX11 hown hK hP 0 rfl rfl 11 (by decide) k1 (fun _ h9 => h9) rfl dX11_layEasy_150 ?_
                          refine lv_iload hx hb dX11_layEasy_153 (lv_at hl 3 rfl) ?_
                          refine lv_aload_n hx hb dX11_layEasy_155 rfl (lv_at hl 1 rfl) ?_
                          refine va_get (D := (dC, dI)) (ci := 10) (v := .ref h_t_best) (C := RX11) (T := TX11) (N := 17) hx hb hts uX11 hown hK hP 0 rfl rfl 11 (by decide) k1 (fun _ h9 => h9) rfl dX11_layEasy_156 ?_
                          refine lv_iload hx hb dX11_layEasy_159 (lv_at hl 0 rfl) ?_
                          obtain ⟨b161, hqJ_3⟩ := ck_go hqJ_3
                          refine va_iald hx hb hK hP 1 0 rfl rfl b161 dX11_layEasy_161 ?_
                          refine lv_aload_n hx hb dX11_layEasy_162 rfl (lv_at hl 1 rfl) ?_
                          refine va_get (D := (dC, dI)) (ci := 10) (v := .ref h_t_roughs) (C := RX11) (T := TX11) (N := 17) hx hb hts uX11 hown hK hP 0 rfl rfl 15 (by decide) k3 (fun _ h9 => h9) rfl dX11_layEasy_163 ?_
                          refine lv_iload hx hb dX11_layEasy_166 (lv_at hl 0 rfl) ?_
                          obtain ⟨b168, hqJ_3⟩ := ck_go hqJ_3
                          refine va_iald hx hb hK hP 2 0 rfl rfl b168 dX11_layEasy_168 ?_
                          refine lv_iadd hx hb dX11_layEasy_169 ?_
                          obtain ⟨b170, hqJ_3⟩ := ck_go hqJ_3
                          refine my_iast (W' := fun z' => [(h_t, .inr (10, [.ref h_t_w, .int f_t_known, .int f_t_kept, .int f_t_seed, .ref h_t_imageSeed, .ref h_t_bookOf, .ref h_t_bookIs, .int f_t_written, .ref h_t_forms, .int f_t_formRing, .int f_t_formMany, .ref h_t_best, .ref h_t_next, .ref h_t_ways, .ref h_t_round, .ref h_t_roughs, .int f_t_latest])), (h_t_best, .inl (cA, 4096, .inl z')), (h_t_roughs, .inl (cA, 4096, .inl f_t_roughs_4)), (h_t_w, .inl (cA, 190, .inl f_t_w))]) hx hb hK hP hD hS 1 0 rfl rfl b170 dX11_layEasy_170 (fun _ => rfl) (fun f_t_best_12 ef_t_best_12 H locs hP hD hS => ?_)
                          replace hqJ_3 := lt_go ef_t_best_12 hqJ_3
                          refine lv_iconst (v := 1) hx hb dX11_layEasy_171 (by decide) ?_
                          refine lv_topi (fun v3_12 ev3_12 => ?_)
                          replace hqJ_3 := lt_go ev3_12 hqJ_3
                          refine lv_istore_n (lv' := [(3, .int v3_12), (6, .int v6_1), (0, .ref h_t), (4, .int v4_2), (5, .int v5_2)]) hx hb dX11_layEasy_172 rfl hl (by decide) rfl (fun ls hl => ?_)
                          cases hqJ_3
                          exact J_3 _ _ hP hD hS _ (lv_sub hl [2, 0, 3, 4] rfl)
              obtain ⟨v3_13, f_t_best_13, hl88, hm⟩ := bd2_go hm
              refine L88 _ _ _ _ _ _ hl88 _ _ hP hD hS _ (lv_sub hl [1, 2, 3, 0] rfl) (fun H locs hP hD hS ls hl => ?_)
              obtain ⟨v4_3, ev4_3⟩ : ∃ z : Int32, z = v4_2 + 1 := ⟨_, rfl⟩
              replace hm := lt_go ev4_3 hm
              refine lv_iinc (v := v4_3) (lv' := [(4, .int v4_3), (0, .ref h_t), (3, .int v3_13)]) hx hb dX11_layEasy_179 hl (k := 2) rfl (by rw [ev4_3]; rfl) (by decide) rfl (fun ls hl => ?_)
              refine lv_goto (tgt := 74) hx hb dX11_layEasy_182 (by decide) ?_
              exact ih _ _ _ _ _ hm _ _ hP hD hS _ (lv_sub hl [1, 2, 0] rfl) KK
        obtain ⟨v3_14, f_t_best_14, hl74, hm⟩ := bd2_go hm
        refine L74 _ _ _ _ _ _ hl74 _ _ hP hD hS _ (lv_sub hl [2, 1, 0] rfl) (fun H locs hP hD hS ls hl => ?_)
        refine lv_goto (tgt := 65) hx hb dX11_layEasy_185 (by decide) ?_
        exact ih _ _ _ hm _ _ hP hD hS _ (lv_sub hl [0, 1] rfl) KK
  obtain ⟨f_t_best_15, hl65, hm⟩ := bd1_go hm
  refine L65 _ _ _ _ hl65 _ _ hP hD hS _ (lv_sub hl [1, 0] rfl) (fun H locs hP hD hS ls hl => ?_)
  cases hm
  exact W_mono hQ (W.vret hx hb hr (fun t ht hW => ⟨⟨(), rfl, trivial, by rw [ht]; exact hP, va_K.moved hW.alike hK, hD⟩, hS.F ht⟩) hS.2.2 dX11_layEasy_188)
abbrev rmX11_easyNext : Room := { frames := 2, cells := 0, slots := 0, locals := 45 }
theorem uX11_X11_easyNext : ∀ w ∈ wsX110, w ∈ wsX11_easyNext := fun _ h => List.mem_cons_of_mem _ (List.mem_append_right _ (h))
set_option maxHeartbeats 40000000 in
set_option maxRecDepth 100000 in
theorem c_Md_easyNext (l : Launch) (dC : Nat → ClassId) (dI : Nat → Nat → Nat) (cA : ClassId) (fu : Nat) (h_t h_t_w h_t_imageSeed h_t_bookOf h_t_bookIs h_t_forms h_t_best h_t_next h_t_ways h_t_round h_t_roughs : Nat) (f_t_known : Int32) (f_t_kept : Int32) (f_t_seed : Int32) (f_t_written : Int32) (f_t_formRing : Int32) (f_t_formMany : Int32) (f_t_latest : Int32) (f_t_best : Nat → Int32) (f_t_roughs : Nat → Int32) (f_t_w : Nat → Int32) (a1 : Int32) (a2 : Int32) (r0 : Int32) (hm : m_Md_easyNext fu f_t_best f_t_roughs f_t_w a1 a2 = some r0) (sz : Nat) : Met l yX11_easyNext wsX11_easyNext rmX11_easyNext (mPre (dC, dI) cA [.ref h_t, .int a1, .int a2] sz [(h_t, .inr (10, [.ref h_t_w, .int f_t_known, .int f_t_kept, .int f_t_seed, .ref h_t_imageSeed, .ref h_t_bookOf, .ref h_t_bookIs, .int f_t_written, .ref h_t_forms, .int f_t_formRing, .int f_t_formMany, .ref h_t_best, .ref h_t_next, .ref h_t_ways, .ref h_t_round, .ref h_t_roughs, .int f_t_latest])), (h_t_best, .inl (cA, 4096, .inl f_t_best)), (h_t_roughs, .inl (cA, 4096, .inl f_t_roughs)), (h_t_w, .inl (cA, 190, .inl f_t_w))]) (mPosI (dC, dI) cA r0 (va_A [(h_t, .inr (10, [.ref h_t_w, .int f_t_known, .int f_t_kept, .int f_t_seed, .ref h_t_imageSeed, .ref h_t_bookOf, .ref h_t_bookIs, .int f_t_written, .ref h_t_forms, .int f_t_formRing, .int f_t_formMany, .ref h_t_best, .ref h_t_next, .ref h_t_ways, .ref h_t_round, .ref h_t_roughs, .int f_t_latest])), (h_t_best, .inl (cA, 4096, .inl f_t_best)), (h_t_roughs, .inl (cA, 4096, .inl f_t_roughs)), (h_t_w, .inl (cA, 190, .inl f_t_w))] sz) [(h_t, .inr (10, [.ref h_t_w, .int f_t_known, .int f_t_kept, .int f_t_seed, .ref h_t_imageSeed, .ref h_t_bookOf, .ref h_t_bookIs, .int f_t_written, .ref h_t_forms, .int f_t_formRing, .int f_t_formMany, .ref h_t_best, .ref h_t_next, .ref h_t_ways, .ref h_t_round, .ref h_t_roughs, .int f_t_latest])), (h_t_best, .inl (cA, 4096, .inl f_t_best)), (h_t_roughs, .inl (cA, 4096, .inl f_t_roughs)), (h_t_w, .inl (cA, 190, .inl f_t_w))]) 0 0 (va_A [(h_t, .inr (10, [.ref h_t_w, .int f_t_known, .int f_t_kept, .int f_t_seed, .ref h_t_imageSeed, .ref h_t_bookOf, .ref h_t_bookIs, .int f_t_written, .ref h_t_forms, .int f_t_formRing, .int f_t_formMany, .ref h_t_best, .ref h_t_next, .ref h_t_ways, .ref h_t_round, .ref h_t_roughs, .int f_t_latest])), (h_t_best, .inl (cA, 4096, .inl f_t_best)), (h_t_roughs, .inl (cA, 4096, .inl f_t_roughs)), (h_t_w, .inl (cA, 190, .inl f_t_w))] sz) := by
  refine Met.ofW (cc := cX11_easyNext) (maxL := 7) (ret := (some .int)) (by decide) rfl ?_
  intro p e s m args below meth c s₁ B hml hv
  obtain ⟨rfl, hsz, hP, hK, hD0⟩ := hv
  refine W_gen (fun Q hQ => ?_)
  have hx := B.exec
  have hb := B.bytes
  have hr := B.returns
  have hts := atoms_spec (ws := wsX11_easyNext) B.pre
  have hown : s.vm.findClass RX11 = some m.cls := findClass_of_methodNamed B.named
  have hlocks := B.notSynchronized
  subst hsz
  have hD := hD0.self (sz := s.heap.size)
  clear hD0
  generalize hAe : va_A [(h_t, .inr (10, [.ref h_t_w, .int f_t_known, .int f_t_kept, .int f_t_seed, .ref h_t_imageSeed, .ref h_t_bookOf, .ref h_t_bookIs, .int f_t_written, .ref h_t_forms, .int f_t_formRing, .int f_t_formMany, .ref h_t_best, .ref h_t_next, .ref h_t_ways, .ref h_t_round, .ref h_t_roughs, .int f_t_latest])), (h_t_best, .inl (cA, 4096, .inl f_t_best)), (h_t_roughs, .inl (cA, 4096, .inl f_t_roughs)), (h_t_w, .inl (cA, 190, .inl f_t_w))] s.heap.size = A at hD hQ
  have hA : ∀ q : Nat, s.heap.size ≤ q → A q := fun q h => by rw [← hAe]; exact Or.inr h
  clear hAe
  have hS : va_S A s.heap s.heap [] := va_S.rf
  have hl := lv_entry ([.ref h_t, .int a1, .int a2]) (n := 7) (Nat.le_of_ble_eq_true rfl)
  rw [lg_entry_eq]
  generalize (lg_sl ([.ref h_t, .int a1, .int a2]) ++ List.replicate (7 - (lg_sl ([.ref h_t, .int a1, .int a2])).length) Slot.unset).toArray = ls at hl ⊢
  have hl : lv_has ls 7 [(0, .ref h_t), (1, .int a1), (2, .int a2)] := hl
  have k1 := hts (.constant RX11 96 (1000000)) (List.mem_of_getElem? (i := 1) rfl)
  have k2 := hts (.fieldLink RX11 25 "ToneSetsModel" "best" "[I") (List.mem_of_getElem? (i := 2) rfl)
  have k3 := hts (.fieldLink RX11 37 "ToneSetsModel" "roughs" "[I") (List.mem_of_getElem? (i := 3) rfl)
  have uX11 := uX11_X11_easyNext
  unfold m_Md_easyNext at hm
  refine lv_iload_n hx hb dX11_easyNext_0 rfl (lv_at hl 1 rfl) ?_
  refine lv_iload_n hx hb dX11_easyNext_1 rfl (lv_at hl 2 rfl) ?_
  refine lv_icmp_ne (tgt := 7) hx hb dX11_easyNext_2 (by decide) (fun c2 => ?_) (fun c2 => ?_)
  · replace hm := if_f c2 hm
    refine lv_ldc (v := 1000000) hx hb hown k1 dX11_easyNext_7 ?_
    refine lv_topi (fun v3_1 ev3_1 => ?_)
    replace hm := lt_go ev3_1 hm
    refine lv_istore_n (lv' := [(3, .int v3_1), (0, .ref h_t), (1, .int a1), (2, .int a2)]) hx hb dX11_easyNext_9 rfl hl (by decide) rfl (fun ls hl => ?_)
    refine lv_iconst (v := 0) hx hb dX11_easyNext_10 (by decide) ?_
    refine lv_topi (fun v4_1 ev4_1 => ?_)
    replace hm := lt_go ev4_1 hm
    refine lv_istore (lv' := [(4, .int v4_1), (3, .int v3_1), (0, .ref h_t), (1, .int a1), (2, .int a2)]) hx hb dX11_easyNext_11 hl (by decide) rfl (fun ls hl => ?_)
    have L13 : ∀ (n : Nat) (v3_2 : Int32) (v4_2 : Int32) (v3_3 : Int32), m_Md_easyNext_L13 f_t_w a1 f_t_best f_t_roughs n v3_2 v4_2 = some v3_3 → ∀ (H : Heap) (locs : List Loc), va_P (dC, dI) vwCl [(h_t, .inr (10, [.ref h_t_w, .int f_t_known, .int f_t_kept, .int f_t_seed, .ref h_t_imageSeed, .ref h_t_bookOf, .ref h_t_bookIs, .int f_t_written, .ref h_t_forms, .int f_t_formRing, .int f_t_formMany, .ref h_t_best, .ref h_t_next, .ref h_t_ways, .ref h_t_round, .ref h_t_roughs, .int f_t_latest])), (h_t_best, .inl (cA, 4096, .inl f_t_best)), (h_t_roughs, .inl (cA, 4096, .inl f_t_roughs)), (h_t_w, .inl (cA, 190, .inl f_t_w))] H → va_D A [(h_t, .inr (10, [.ref h_t_w, .int f_t_known, .int f_t_kept, .int f_t_seed, .ref h_t_imageSeed, .ref h_t_bookOf, .ref h_t_bookIs, .int f_t_written, .ref h_t_forms, .int f_t_formRing, .int f_t_formMany, .ref h_t_best, .ref h_t_next, .ref h_t_ways, .ref h_t_round, .ref h_t_roughs, .int f_t_latest])), (h_t_best, .inl (cA, 4096, .inl f_t_best)), (h_t_roughs, .inl (cA, 4096, .inl f_t_roughs)), (h_t_w, .inl (cA, 190, .inl f_t_w))] → va_S A s.heap H locs → ∀ ls : Array Slot, lv_has ls 7 [(0, .ref h_t), (1, .int a1), (3, .int v3_2), (4, .int v4_2)] → (∀ (H : Heap) (locs : List Loc), va_P (dC, dI) vwCl [(h_t, .inr (10, [.ref h_t_w, .int f_t_known, .int f_t_kept, .int f_t_seed, .ref h_t_imageSeed, .ref h_t_bookOf, .ref h_t_bookIs, .int f_t_written, .ref h_t_forms, .int f_t_formRing, .int f_t_formMany, .ref h_t_best, .ref h_t_next, .ref h_t_ways, .ref h_t_round, .ref h_t_roughs, .int f_t_latest])), (h_t_best, .inl (cA, 4096, .inl f_t_best)), (h_t_roughs, .inl (cA, 4096, .inl f_t_roughs)), (h_t_w, .inl (cA, 190, .inl f_t_w))] H → va_D A [(h_t, .inr (10, [.ref h_t_w, .int f_t_known, .int f_t_kept, .int f_t_seed, .ref h_t_imageSeed, .ref h_t_bookOf, .ref h_t_bookIs, .int f_t_written, .ref h_t_forms, .int f_t_formRing, .int f_t_formMany, .ref h_t_best, .ref h_t_next, .ref h_t_ways, .ref h_t_round, .ref h_t_roughs, .int f_t_latest])), (h_t_best, .inl (cA, 4096, .inl f_t_best)), (h_t_roughs, .inl (cA, 4096, .inl f_t_roughs)), (h_t_w, .inl (cA, 190, .inl f_t_w))] → va_S A s.heap H locs → ∀ ls : Array Slot, lv_has ls 7 [(3, .int v3_3)] → W p l e (headSpec wsX11_easyNext rmX11_easyNext).room s m (([.ref h_t, .int a1, .int a2] : List Value).toArray) below meth c H locs 0 0 Q (F0 m 93 ls [])) → W p l e (headSpec wsX11_easyNext rmX11_easyNext).room s m (([.ref h_t, .int a1, .int a2] : List Value).toArray) below meth c H locs 0 0 Q (F0 m 13 ls []) := by
      clear hm hP hD hS hl
      intro n
      induction n with
      | zero => intro _ _ _ hm; exact nomatch (show none = some _ from hm)
      | succ n ih =>
        intro v3_2 v4_2 v3_3 hm H locs hP hD hS ls hl KK
        unfold m_Md_easyNext_L13 at hm
        refine lv_iload hx hb dX11_easyNext_13 (lv_at hl 3 rfl) ?_
        refine lv_iconst (v := 2) hx hb dX11_easyNext_15 (by decide) ?_
        refine lv_aload_n hx hb dX11_easyNext_16 rfl (lv_at hl 0 rfl) ?_
        obtain ⟨r_1, hc17, hm⟩ := bd1_go hm
        refine my_cVi (As := []) (rest := [.int 2, .int v4_2]) (WC := [(h_t, .inr (10, [.ref h_t_w, .int f_t_known, .int f_t_kept, .int f_t_seed, .ref h_t_imageSeed, .ref h_t_bookOf, .ref h_t_bookIs, .int f_t_written, .ref h_t_forms, .int f_t_formRing, .int f_t_formMany, .ref h_t_best, .ref h_t_next, .ref h_t_ways, .ref h_t_round, .ref h_t_roughs, .int f_t_latest])), (h_t_w, .inl (cA, 190, .inl f_t_w))]) (WC' := [(h_t, .inr (10, [.ref h_t_w, .int f_t_known, .int f_t_kept, .int f_t_seed, .ref h_t_imageSeed, .ref h_t_bookOf, .ref h_t_bookIs, .int f_t_written, .ref h_t_forms, .int f_t_formRing, .int f_t_formMany, .ref h_t_best, .ref h_t_next, .ref h_t_ways, .ref h_t_round, .ref h_t_roughs, .int f_t_latest])), (h_t_w, .inl (cA, 190, .inl f_t_w))]) (WR := [(h_t_best, .inl (cA, 4096, .inl f_t_best)), (h_t_roughs, .inl (cA, 4096, .inl f_t_roughs))]) (W' := [(h_t, .inr (10, [.ref h_t_w, .int f_t_known, .int f_t_kept, .int f_t_seed, .ref h_t_imageSeed, .ref h_t_bookOf, .ref h_t_bookIs, .int f_t_written, .ref h_t_forms, .int f_t_formRing, .int f_t_formMany, .ref h_t_best, .ref h_t_next, .ref h_t_ways, .ref h_t_round, .ref h_t_roughs, .int f_t_latest])), (h_t_best, .inl (cA, 4096, .inl f_t_best)), (h_t_roughs, .inl (cA, 4096, .inl f_t_roughs)), (h_t_w, .inl (cA, 190, .inl f_t_w))]) ⟨hx, hb, hml, hown, hts⟩ hK hP hD hS hA (c_Md_m l dC dI cA h_t h_t_w h_t_imageSeed h_t_bookOf h_t_bookIs h_t_forms h_t_best h_t_next h_t_ways h_t_round h_t_roughs f_t_known f_t_kept f_t_seed f_t_written f_t_formRing f_t_formMany f_t_latest f_t_w r_1 hc17) (cwV 0 hts gX11_easyNext_X11_m rfl rfl rfl (by decide +kernel) ⟨Nat.le_of_ble_eq_true rfl, Nat.le_of_ble_eq_true rfl⟩) [0, 3] [1, 2] [2, 0, 1, 3] rfl rfl rfl rfl (ci := 10) (q0 := 0) rfl rfl rfl rfl hl.1 (Nat.le_of_ble_eq_true rfl) dX11_easyNext_17 ⟨Nat.zero_le _, Nat.zero_le _⟩ (fun H locs hP hD hS => ?_)
        refine lv_imul hx hb dX11_easyNext_20 ?_
        refine lv_icmp_ge (tgt := 93) hx hb dX11_easyNext_21 (by decide) (fun c21 => ?_) (fun c21 => ?_)
        · replace hm := if_t c21 hm
          cases hm
          exact KK _ _ hP hD hS _ (lv_sub hl [2] rfl)
        · replace hm := if_f c21 hm
          refine lv_aload_n hx hb dX11_easyNext_24 rfl (lv_at hl 0 rfl) ?_
          refine lv_iload_n hx hb dX11_easyNext_25 rfl (lv_at hl 1 rfl) ?_
          refine lv_iload hx hb dX11_easyNext_26 (lv_at hl 3 rfl) ?_
          obtain ⟨r_2, hc28, hm⟩ := bd1_go hm
          refine my_cVi (As := [.int a1, .int v4_2]) (rest := []) (WC := [(h_t, .inr (10, [.ref h_t_w, .int f_t_known, .int f_t_kept, .int f_t_seed, .ref h_t_imageSeed, .ref h_t_bookOf, .ref h_t_bookIs, .int f_t_written, .ref h_t_forms, .int f_t_formRing, .int f_t_formMany, .ref h_t_best, .ref h_t_next, .ref h_t_ways, .ref h_t_round, .ref h_t_roughs, .int f_t_latest])), (h_t_w, .inl (cA, 190, .inl f_t_w))]) (WC' := [(h_t, .inr (10, [.ref h_t_w, .int f_t_known, .int f_t_kept, .int f_t_seed, .ref h_t_imageSeed, .ref h_t_bookOf, .ref h_t_bookIs, .int f_t_written, .ref h_t_forms, .int f_t_formRing, .int f_t_formMany, .ref h_t_best, .ref h_t_next, .ref h_t_ways, .ref h_t_round, .ref h_t_roughs, .int f_t_latest])), (h_t_w, .inl (cA, 190, .inl f_t_w))]) (WR := [(h_t_best, .inl (cA, 4096, .inl f_t_best)), (h_t_roughs, .inl (cA, 4096, .inl f_t_roughs))]) (W' := [(h_t, .inr (10, [.ref h_t_w, .int f_t_known, .int f_t_kept, .int f_t_seed, .ref h_t_imageSeed, .ref h_t_bookOf, .ref h_t_bookIs, .int f_t_written, .ref h_t_forms, .int f_t_formRing, .int f_t_formMany, .ref h_t_best, .ref h_t_next, .ref h_t_ways, .ref h_t_round, .ref h_t_roughs, .int f_t_latest])), (h_t_best, .inl (cA, 4096, .inl f_t_best)), (h_t_roughs, .inl (cA, 4096, .inl f_t_roughs)), (h_t_w, .inl (cA, 190, .inl f_t_w))]) ⟨hx, hb, hml, hown, hts⟩ hK hP hD hS hA (c_Md_moveOf l dC dI cA h_t h_t_w h_t_imageSeed h_t_bookOf h_t_bookIs h_t_forms h_t_best h_t_next h_t_ways h_t_round h_t_roughs f_t_known f_t_kept f_t_seed f_t_written f_t_formRing f_t_formMany f_t_latest f_t_w a1 v4_2 r_2 hc28) (cwV 2 hts gX11_easyNext_X11_moveOf rfl rfl rfl (by decide +kernel) ⟨Nat.le_of_ble_eq_true rfl, Nat.le_of_ble_eq_true rfl⟩) [0, 3] [1, 2] [2, 0, 1, 3] rfl rfl rfl rfl (ci := 10) (q0 := 0) rfl rfl rfl rfl hl.1 (Nat.le_of_ble_eq_true rfl) dX11_easyNext_28 ⟨Nat.zero_le _, Nat.zero_le _⟩ (fun H locs hP hD hS => ?_)
          refine lv_topi (fun v5_1 ev5_1 => ?_)
          replace hm := lt_go ev5_1 hm
          refine lv_istore (lv' := [(5, .int v5_1), (0, .ref h_t), (1, .int a1), (3, .int v3_2), (4, .int v4_2)]) hx hb dX11_easyNext_31 hl (by decide) rfl (fun ls hl => ?_)
          refine lv_iload hx hb dX11_easyNext_33 (lv_at hl 0 rfl) ?_
          obtain ⟨q67_1, hqJ_1, hm⟩ := bd1_go hm
          have J_1 : ∀ (H : Heap) (locs : List Loc), va_P (dC, dI) vwCl [(h_t, .inr (10, [.ref h_t_w, .int f_t_known, .int f_t_kept, .int f_t_seed, .ref h_t_imageSeed, .ref h_t_bookOf, .ref h_t_bookIs, .int f_t_written, .ref h_t_forms, .int f_t_formRing, .int f_t_formMany, .ref h_t_best, .ref h_t_next, .ref h_t_ways, .ref h_t_round, .ref h_t_roughs, .int f_t_latest])), (h_t_best, .inl (cA, 4096, .inl f_t_best)), (h_t_roughs, .inl (cA, 4096, .inl f_t_roughs)), (h_t_w, .inl (cA, 190, .inl f_t_w))] H → va_D A [(h_t, .inr (10, [.ref h_t_w, .int f_t_known, .int f_t_kept, .int f_t_seed, .ref h_t_imageSeed, .ref h_t_bookOf, .ref h_t_bookIs, .int f_t_written, .ref h_t_forms, .int f_t_formRing, .int f_t_formMany, .ref h_t_best, .ref h_t_next, .ref h_t_ways, .ref h_t_round, .ref h_t_roughs, .int f_t_latest])), (h_t_best, .inl (cA, 4096, .inl f_t_best)), (h_t_roughs, .inl (cA, 4096, .inl f_t_roughs)), (h_t_w, .inl (cA, 190, .inl f_t_w))] → va_S A s.heap H locs → ∀ ls : Array Slot, lv_has ls 7 [(0, .ref h_t), (1, .int a1), (3, .int v3_2), (4, .int v4_2), (5, .int v5_1)] → W p l e (headSpec wsX11_easyNext rmX11_easyNext).room s m (([.ref h_t, .int a1, .int a2] : List Value).toArray) below meth c H locs 0 0 Q (F0 m 67 ls [.int q67_1]) := by
            intro H locs hP hD hS ls hl
            clear hqJ_1
            refine lv_topi (fun v6_1 ev6_1 => ?_)
            replace hm := lt_go ev6_1 hm
            refine lv_istore (lv' := [(6, .int v6_1), (0, .ref h_t), (1, .int a1), (3, .int v3_2), (4, .int v4_2), (5, .int v5_1)]) hx hb dX11_easyNext_67 hl (by decide) rfl (fun ls hl => ?_)
            refine lv_iload hx hb dX11_easyNext_69 (lv_at hl 0 rfl) ?_
            obtain ⟨q86_1, hqJ_2, hm⟩ := bd1_go hm
            have J_2 : ∀ (H : Heap) (locs : List Loc), va_P (dC, dI) vwCl [(h_t, .inr (10, [.ref h_t_w, .int f_t_known, .int f_t_kept, .int f_t_seed, .ref h_t_imageSeed, .ref h_t_bookOf, .ref h_t_bookIs, .int f_t_written, .ref h_t_forms, .int f_t_formRing, .int f_t_formMany, .ref h_t_best, .ref h_t_next, .ref h_t_ways, .ref h_t_round, .ref h_t_roughs, .int f_t_latest])), (h_t_best, .inl (cA, 4096, .inl f_t_best)), (h_t_roughs, .inl (cA, 4096, .inl f_t_roughs)), (h_t_w, .inl (cA, 190, .inl f_t_w))] H → va_D A [(h_t, .inr (10, [.ref h_t_w, .int f_t_known, .int f_t_kept, .int f_t_seed, .ref h_t_imageSeed, .ref h_t_bookOf, .ref h_t_bookIs, .int f_t_written, .ref h_t_forms, .int f_t_formRing, .int f_t_formMany, .ref h_t_best, .ref h_t_next, .ref h_t_ways, .ref h_t_round, .ref h_t_roughs, .int f_t_latest])), (h_t_best, .inl (cA, 4096, .inl f_t_best)), (h_t_roughs, .inl (cA, 4096, .inl f_t_roughs)), (h_t_w, .inl (cA, 190, .inl f_t_w))] → va_S A s.heap H locs → ∀ ls : Array Slot, lv_has ls 7 [(0, .ref h_t), (1, .int a1), (4, .int v4_2)] → W p l e (headSpec wsX11_easyNext rmX11_easyNext).room s m (([.ref h_t, .int a1, .int a2] : List Value).toArray) below meth c H locs 0 0 Q (F0 m 86 ls [.int q86_1]) := by
              intro H locs hP hD hS ls hl
              clear hqJ_2
              refine lv_topi (fun v3_4 ev3_4 => ?_)
              replace hm := lt_go ev3_4 hm
              refine lv_istore_n (lv' := [(3, .int v3_4), (0, .ref h_t), (1, .int a1), (4, .int v4_2)]) hx hb dX11_easyNext_86 rfl hl (by decide) rfl (fun ls hl => ?_)
              obtain ⟨v4_3, ev4_3⟩ : ∃ z : Int32, z = v4_2 + 1 := ⟨_, rfl⟩
              replace hm := lt_go ev4_3 hm
              refine lv_iinc (v := v4_3) (lv' := [(4, .int v4_3), (3, .int v3_4), (0, .ref h_t), (1, .int a1)]) hx hb dX11_easyNext_87 hl (k := 3) rfl (by rw [ev4_3]; rfl) (by decide) rfl (fun ls hl => ?_)
              refine lv_goto (tgt := 13) hx hb dX11_easyNext_90 (by decide) ?_
              exact ih _ _ _ hm _ _ hP hD hS _ (lv_sub hl [2, 3, 1, 0] rfl) KK
            clear hm
            refine lv_if_eq (tgt := 85) hx hb dX11_easyNext_71 (by decide) (fun c71 => ?_) (fun c71 => ?_)
            · replace hqJ_2 := if_t c71 hqJ_2
              refine lv_iload_n hx hb dX11_easyNext_85 rfl (lv_at hl 3 rfl) ?_
              cases hqJ_2
              exact J_2 _ _ hP hD hS _ (lv_sub hl [1, 2, 4] rfl)
            · replace hqJ_2 := if_f c71 hqJ_2
              refine lv_iload hx hb dX11_easyNext_74 (lv_at hl 5 rfl) ?_
              refine lv_iload_n hx hb dX11_easyNext_76 rfl (lv_at hl 3 rfl) ?_
              refine lv_icmp_ge (tgt := 85) hx hb dX11_easyNext_77 (by decide) (fun c77 => ?_) (fun c77 => ?_)
              · replace hqJ_2 := if_t c77 hqJ_2
                refine lv_iload_n hx hb dX11_easyNext_85 rfl (lv_at hl 3 rfl) ?_
                cases hqJ_2
                exact J_2 _ _ hP hD hS _ (lv_sub hl [1, 2, 4] rfl)
              · replace hqJ_2 := if_f c77 hqJ_2
                refine lv_iload hx hb dX11_easyNext_80 (lv_at hl 5 rfl) ?_
                refine lv_goto (tgt := 86) hx hb dX11_easyNext_82 (by decide) ?_
                cases hqJ_2
                exact J_2 _ _ hP hD hS _ (lv_sub hl [1, 2, 4] rfl)
          clear hm
          refine lv_if_le (tgt := 66) hx hb dX11_easyNext_35 (by decide) (fun c35 => ?_) (fun c35 => ?_)
          · replace hqJ_1 := if_t c35 hqJ_1
            refine lv_iconst (v := 0) hx hb dX11_easyNext_66 (by decide) ?_
            cases hqJ_1
            exact J_1 _ _ hP hD hS _ (lv_sub hl [1, 2, 3, 4, 0] rfl)
          · replace hqJ_1 := if_f c35 hqJ_1
            refine lv_aload_n hx hb dX11_easyNext_38 rfl (lv_at hl 1 rfl) ?_
            refine va_get (D := (dC, dI)) (ci := 10) (v := .ref h_t_best) (C := RX11) (T := TX11) (N := 17) hx hb hts uX11 hown hK hP 0 rfl rfl 11 (by decide) k2 (fun _ h9 => h9) rfl dX11_easyNext_39 ?_
            refine lv_iload hx hb dX11_easyNext_42 (lv_at hl 0 rfl) ?_
            obtain ⟨b44, hqJ_1⟩ := ck_go hqJ_1
            refine va_iald hx hb hK hP 1 0 rfl rfl b44 dX11_easyNext_44 ?_
            refine lv_aload_n hx hb dX11_easyNext_45 rfl (lv_at hl 1 rfl) ?_
            refine va_get (D := (dC, dI)) (ci := 10) (v := .ref h_t_roughs) (C := RX11) (T := TX11) (N := 17) hx hb hts uX11 hown hK hP 0 rfl rfl 15 (by decide) k3 (fun _ h9 => h9) rfl dX11_easyNext_46 ?_
            refine lv_iload hx hb dX11_easyNext_49 (lv_at hl 0 rfl) ?_
            obtain ⟨b51, hqJ_1⟩ := ck_go hqJ_1
            refine va_iald hx hb hK hP 2 0 rfl rfl b51 dX11_easyNext_51 ?_
            refine lv_iadd hx hb dX11_easyNext_52 ?_
            refine lv_aload_n hx hb dX11_easyNext_53 rfl (lv_at hl 1 rfl) ?_
            refine va_get (D := (dC, dI)) (ci := 10) (v := .ref h_t_best) (C := RX11) (T := TX11) (N := 17) hx hb hts uX11 hown hK hP 0 rfl rfl 11 (by decide) k2 (fun _ h9 => h9) rfl dX11_easyNext_54 ?_
            refine lv_iload_n hx hb dX11_easyNext_57 rfl (lv_at hl 2 rfl) ?_
            obtain ⟨b58, hqJ_1⟩ := ck_go hqJ_1
            refine va_iald hx hb hK hP 1 0 rfl rfl b58 dX11_easyNext_58 ?_
            refine lv_icmp_ne (tgt := 66) hx hb dX11_easyNext_59 (by decide) (fun c59 => ?_) (fun c59 => ?_)
            · replace hqJ_1 := if_f c59 hqJ_1
              refine lv_iconst (v := 0) hx hb dX11_easyNext_66 (by decide) ?_
              cases hqJ_1
              exact J_1 _ _ hP hD hS _ (lv_sub hl [1, 2, 3, 4, 0] rfl)
            · replace hqJ_1 := if_t c59 hqJ_1
              refine lv_iconst (v := 1) hx hb dX11_easyNext_62 (by decide) ?_
              refine lv_goto (tgt := 67) hx hb dX11_easyNext_63 (by decide) ?_
              cases hqJ_1
              exact J_1 _ _ hP hD hS _ (lv_sub hl [1, 2, 3, 4, 0] rfl)
    obtain ⟨v3_5, hl13, hm⟩ := bd1_go hm
    refine L13 _ _ _ _ hl13 _ _ hP hD hS _ (lv_sub hl [2, 3, 1, 0] rfl) (fun H locs hP hD hS ls hl => ?_)
    refine lv_iload_n hx hb dX11_easyNext_93 rfl (lv_at hl 0 rfl) ?_
    cases hm
    exact W_mono hQ (W.iret hx hb hr (fun t ht hW => ⟨⟨_, (), rfl, rfl, by rw [ht]; exact hP, va_K.moved hW.alike hK, hD⟩, hS.F ht⟩) hS.2.2 dX11_easyNext_94)
  · replace hm := if_t c2 hm
    refine lv_iconst (v := (-1)) hx hb dX11_easyNext_5 (by decide) ?_
    cases hm
    exact W_mono hQ (W.iret hx hb hr (fun t ht hW => ⟨⟨_, (), rfl, rfl, by rw [ht]; exact hP, va_K.moved hW.alike hK, hD⟩, hS.F ht⟩) hS.2.2 dX11_easyNext_6)
