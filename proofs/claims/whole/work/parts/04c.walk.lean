abbrev rmX1_sortByTones : Room := { frames := 4, cells := 0, slots := 0, locals := 88 }
theorem uX1_X1_sortByTones : ∀ w ∈ wsX10, w ∈ wsX1_sortByTones := fun _ h => List.mem_cons_of_mem _ (List.mem_append_right _ (h))
set_option maxHeartbeats 40000000 in
set_option maxRecDepth 100000 in
theorem c_Forms_sortByTones (l : Launch) (dC : Nat → ClassId) (dI : Nat → Nat → Nat) (cA : ClassId) (fu : Nat) (h_t h_t_rising h_t_sorted h_t_rows h_t_starts h_t_seen : Nat) (f_t_builtSize : Int32) (f_t_all : Int32) (f_t_rising : Nat → Int32) (f_t_rows : Nat → Int32) (f_t_sorted : Nat → Int32) (f_t_starts : Nat → Int32) (a1 : Int32) (f_t_rows_z : Nat → Int32) (f_t_sorted_z : Nat → Int32) (f_t_starts_z : Nat → Int32) (hm : m_Forms_sortByTones fu f_t_all f_t_rising f_t_rows f_t_sorted f_t_starts a1 = some (f_t_rows_z, f_t_sorted_z, f_t_starts_z)) (sz : Nat) : Met l yX1_sortByTones wsX1_sortByTones rmX1_sortByTones (mPre (dC, dI) cA [.ref h_t, .int a1] sz [(h_t, .inr (1, [.int f_t_builtSize, .int f_t_all, .ref h_t_rising, .ref h_t_sorted, .ref h_t_rows, .ref h_t_starts, .ref h_t_seen])), (h_t_rising, .inl (cA, 224, .inl f_t_rising)), (h_t_rows, .inl (cA, 224, .inl f_t_rows)), (h_t_sorted, .inl (cA, 224, .inl f_t_sorted)), (h_t_starts, .inl (cA, 14, .inl f_t_starts))]) (mPosV (dC, dI) cA (va_A [(h_t, .inr (1, [.int f_t_builtSize, .int f_t_all, .ref h_t_rising, .ref h_t_sorted, .ref h_t_rows, .ref h_t_starts, .ref h_t_seen])), (h_t_rising, .inl (cA, 224, .inl f_t_rising)), (h_t_rows, .inl (cA, 224, .inl f_t_rows)), (h_t_sorted, .inl (cA, 224, .inl f_t_sorted)), (h_t_starts, .inl (cA, 14, .inl f_t_starts))] sz) [(h_t, .inr (1, [.int f_t_builtSize, .int f_t_all, .ref h_t_rising, .ref h_t_sorted, .ref h_t_rows, .ref h_t_starts, .ref h_t_seen])), (h_t_rising, .inl (cA, 224, .inl f_t_rising)), (h_t_rows, .inl (cA, 224, .inl f_t_rows_z)), (h_t_sorted, .inl (cA, 224, .inl f_t_sorted_z)), (h_t_starts, .inl (cA, 14, .inl f_t_starts_z))]) 0 0 (va_A [(h_t, .inr (1, [.int f_t_builtSize, .int f_t_all, .ref h_t_rising, .ref h_t_sorted, .ref h_t_rows, .ref h_t_starts, .ref h_t_seen])), (h_t_rising, .inl (cA, 224, .inl f_t_rising)), (h_t_rows, .inl (cA, 224, .inl f_t_rows)), (h_t_sorted, .inl (cA, 224, .inl f_t_sorted)), (h_t_starts, .inl (cA, 14, .inl f_t_starts))] sz) := by
  refine Met.ofW (cc := cX1_sortByTones) (maxL := 5) (ret := none) (by decide) rfl ?_
  intro p e s m args below meth c s₁ B hml hv
  obtain ⟨rfl, hsz, hP, hK, hD0⟩ := hv
  refine W_gen (fun Q hQ => ?_)
  have hx := B.exec
  have hb := B.bytes
  have hr := B.returns
  have hts := atoms_spec (ws := wsX1_sortByTones) B.pre
  have hown : s.vm.findClass RX1 = some m.cls := findClass_of_methodNamed B.named
  have hlocks := B.notSynchronized
  subst hsz
  have hD := hD0.self (sz := s.heap.size)
  clear hD0
  generalize hAe : va_A [(h_t, .inr (1, [.int f_t_builtSize, .int f_t_all, .ref h_t_rising, .ref h_t_sorted, .ref h_t_rows, .ref h_t_starts, .ref h_t_seen])), (h_t_rising, .inl (cA, 224, .inl f_t_rising)), (h_t_rows, .inl (cA, 224, .inl f_t_rows)), (h_t_sorted, .inl (cA, 224, .inl f_t_sorted)), (h_t_starts, .inl (cA, 14, .inl f_t_starts))] s.heap.size = A at hD hQ
  have hA : ∀ q : Nat, s.heap.size ≤ q → A q := fun q h => by rw [← hAe]; exact Or.inr h
  clear hAe
  have hS : va_S A s.heap s.heap [] := va_S.rf
  have hl := lv_entry ([.ref h_t, .int a1]) (n := 5) (Nat.le_of_ble_eq_true rfl)
  rw [lg_entry_eq]
  generalize (lg_sl ([.ref h_t, .int a1]) ++ List.replicate (5 - (lg_sl ([.ref h_t, .int a1])).length) Slot.unset).toArray = ls at hl ⊢
  have hl : lv_has ls 5 [(0, .ref h_t), (1, .int a1)] := hl
  have k1 := hts (.fieldLink RX1 28 "ToneSets$Forms" "starts" "[I") (List.mem_of_getElem? (i := 1) rfl)
  have k2 := hts (.fieldLink RX1 15 "ToneSets$Forms" "all" "I") (List.mem_of_getElem? (i := 2) rfl)
  have k3 := hts (.fieldLink RX1 18 "ToneSets$Forms" "rising" "[I") (List.mem_of_getElem? (i := 3) rfl)
  have k4 := hts (.fieldLink RX1 22 "ToneSets$Forms" "sorted" "[I") (List.mem_of_getElem? (i := 4) rfl)
  have k5 := hts (.fieldLink RX1 25 "ToneSets$Forms" "rows" "[I") (List.mem_of_getElem? (i := 5) rfl)
  have uX1 := uX1_X1_sortByTones
  unfold m_Forms_sortByTones at hm
  refine lv_iconst (v := 0) hx hb dX1_sortByTones_0 (by decide) ?_
  refine lv_topi (fun v2_1 ev2_1 => ?_)
  replace hm := lt_go ev2_1 hm
  refine lv_istore_n (lv' := [(2, .int v2_1), (0, .ref h_t), (1, .int a1)]) hx hb dX1_sortByTones_1 rfl hl (by decide) rfl (fun ls hl => ?_)
  refine lv_iconst (v := 0) hx hb dX1_sortByTones_2 (by decide) ?_
  refine lv_topi (fun v3_1 ev3_1 => ?_)
  replace hm := lt_go ev3_1 hm
  refine lv_istore_n (lv' := [(3, .int v3_1), (2, .int v2_1), (0, .ref h_t), (1, .int a1)]) hx hb dX1_sortByTones_3 rfl hl (by decide) rfl (fun ls hl => ?_)
  have L4 : ∀ (n : Nat) (v2_2 : Int32) (v3_2 : Int32) (f_t_rows_1 : Nat → Int32) (f_t_sorted_1 : Nat → Int32) (f_t_starts_1 : Nat → Int32) (v2_3 : Int32) (f_t_rows_2 : Nat → Int32) (f_t_sorted_2 : Nat → Int32) (f_t_starts_2 : Nat → Int32), m_Forms_sortByTones_L4 fu f_t_all f_t_rising a1 n v2_2 v3_2 f_t_rows_1 f_t_sorted_1 f_t_starts_1 = some (v2_3, f_t_rows_2, f_t_sorted_2, f_t_starts_2) → ∀ (H : Heap) (locs : List Loc), va_P (dC, dI) vwCl [(h_t, .inr (1, [.int f_t_builtSize, .int f_t_all, .ref h_t_rising, .ref h_t_sorted, .ref h_t_rows, .ref h_t_starts, .ref h_t_seen])), (h_t_rising, .inl (cA, 224, .inl f_t_rising)), (h_t_rows, .inl (cA, 224, .inl f_t_rows_1)), (h_t_sorted, .inl (cA, 224, .inl f_t_sorted_1)), (h_t_starts, .inl (cA, 14, .inl f_t_starts_1))] H → va_D A [(h_t, .inr (1, [.int f_t_builtSize, .int f_t_all, .ref h_t_rising, .ref h_t_sorted, .ref h_t_rows, .ref h_t_starts, .ref h_t_seen])), (h_t_rising, .inl (cA, 224, .inl f_t_rising)), (h_t_rows, .inl (cA, 224, .inl f_t_rows_1)), (h_t_sorted, .inl (cA, 224, .inl f_t_sorted_1)), (h_t_starts, .inl (cA, 14, .inl f_t_starts_1))] → va_S A s.heap H locs → ∀ ls : Array Slot, lv_has ls 5 [(0, .ref h_t), (1, .int a1), (2, .int v2_2), (3, .int v3_2)] → (∀ (H : Heap) (locs : List Loc), va_P (dC, dI) vwCl [(h_t, .inr (1, [.int f_t_builtSize, .int f_t_all, .ref h_t_rising, .ref h_t_sorted, .ref h_t_rows, .ref h_t_starts, .ref h_t_seen])), (h_t_rising, .inl (cA, 224, .inl f_t_rising)), (h_t_rows, .inl (cA, 224, .inl f_t_rows_2)), (h_t_sorted, .inl (cA, 224, .inl f_t_sorted_2)), (h_t_starts, .inl (cA, 14, .inl f_t_starts_2))] H → va_D A [(h_t, .inr (1, [.int f_t_builtSize, .int f_t_all, .ref h_t_rising, .ref h_t_sorted, .ref h_t_rows, .ref h_t_starts, .ref h_t_seen])), (h_t_rising, .inl (cA, 224, .inl f_t_rising)), (h_t_rows, .inl (cA, 224, .inl f_t_rows_2)), (h_t_sorted, .inl (cA, 224, .inl f_t_sorted_2)), (h_t_starts, .inl (cA, 14, .inl f_t_starts_2))] → va_S A s.heap H locs → ∀ ls : Array Slot, lv_has ls 5 [(0, .ref h_t), (2, .int v2_3)] → W p l e (headSpec wsX1_sortByTones rmX1_sortByTones).room s m (([.ref h_t, .int a1] : List Value).toArray) below meth c H locs 0 0 Q (F0 m 95 ls [])) → W p l e (headSpec wsX1_sortByTones rmX1_sortByTones).room s m (([.ref h_t, .int a1] : List Value).toArray) below meth c H locs 0 0 Q (F0 m 4 ls []) := by
    clear hm hP hD hS hl
    intro n
    induction n with
    | zero => intro _ _ _ _ _ _ _ _ _ hm; exact nomatch (show none = some _ from hm)
    | succ n ih =>
      intro v2_2 v3_2 f_t_rows_1 f_t_sorted_1 f_t_starts_1 v2_3 f_t_rows_2 f_t_sorted_2 f_t_starts_2 hm H locs hP hD hS ls hl KK
      unfold m_Forms_sortByTones_L4 at hm
      refine lv_iload_n hx hb dX1_sortByTones_4 rfl (lv_at hl 3 rfl) ?_
      refine lv_bipush (v := 12) hx hb dX1_sortByTones_5 (by decide) ?_
      refine lv_icmp_gt (tgt := 95) hx hb dX1_sortByTones_7 (by decide) (fun c7 => ?_) (fun c7 => ?_)
      · replace hm := if_t c7 hm
        cases hm
        exact KK _ _ hP hD hS _ (lv_sub hl [0, 2] rfl)
      · replace hm := if_f c7 hm
        refine lv_aload_n hx hb dX1_sortByTones_10 rfl (lv_at hl 0 rfl) ?_
        refine va_get (D := (dC, dI)) (ci := 1) (v := .ref h_t_starts) (C := RX1) (T := TX1) (N := 7) hx hb hts uX1 hown hK hP 0 rfl rfl 5 (by decide) k1 (fun _ h9 => h9) rfl dX1_sortByTones_11 ?_
        refine lv_iload_n hx hb dX1_sortByTones_14 rfl (lv_at hl 3 rfl) ?_
        refine lv_iload_n hx hb dX1_sortByTones_15 rfl (lv_at hl 2 rfl) ?_
        obtain ⟨b16, hm⟩ := ck_go hm
        refine my_iast (W' := fun z' => [(h_t, .inr (1, [.int f_t_builtSize, .int f_t_all, .ref h_t_rising, .ref h_t_sorted, .ref h_t_rows, .ref h_t_starts, .ref h_t_seen])), (h_t_rising, .inl (cA, 224, .inl f_t_rising)), (h_t_rows, .inl (cA, 224, .inl f_t_rows_1)), (h_t_sorted, .inl (cA, 224, .inl f_t_sorted_1)), (h_t_starts, .inl (cA, 14, .inl z'))]) hx hb hK hP hD hS 4 0 rfl rfl b16 dX1_sortByTones_16 (fun _ => rfl) (fun f_t_starts_3 ef_t_starts_3 H locs hP hD hS => ?_)
        replace hm := lt_go ef_t_starts_3 hm
        refine lv_iconst (v := 0) hx hb dX1_sortByTones_17 (by decide) ?_
        refine lv_topi (fun v4_1 ev4_1 => ?_)
        replace hm := lt_go ev4_1 hm
        refine lv_istore (lv' := [(4, .int v4_1), (0, .ref h_t), (1, .int a1), (2, .int v2_2), (3, .int v3_2)]) hx hb dX1_sortByTones_18 hl (by decide) rfl (fun ls hl => ?_)
        have L20 : ∀ (n : Nat) (v2_4 : Int32) (v4_2 : Int32) (f_t_rows_3 : Nat → Int32) (f_t_sorted_3 : Nat → Int32) (v2_5 : Int32) (f_t_rows_4 : Nat → Int32) (f_t_sorted_4 : Nat → Int32), m_Forms_sortByTones_L20 fu f_t_all f_t_rising v3_2 a1 n v2_4 v4_2 f_t_rows_3 f_t_sorted_3 = some (v2_5, f_t_rows_4, f_t_sorted_4) → ∀ (H : Heap) (locs : List Loc), va_P (dC, dI) vwCl [(h_t, .inr (1, [.int f_t_builtSize, .int f_t_all, .ref h_t_rising, .ref h_t_sorted, .ref h_t_rows, .ref h_t_starts, .ref h_t_seen])), (h_t_rising, .inl (cA, 224, .inl f_t_rising)), (h_t_rows, .inl (cA, 224, .inl f_t_rows_3)), (h_t_sorted, .inl (cA, 224, .inl f_t_sorted_3)), (h_t_starts, .inl (cA, 14, .inl f_t_starts_3))] H → va_D A [(h_t, .inr (1, [.int f_t_builtSize, .int f_t_all, .ref h_t_rising, .ref h_t_sorted, .ref h_t_rows, .ref h_t_starts, .ref h_t_seen])), (h_t_rising, .inl (cA, 224, .inl f_t_rising)), (h_t_rows, .inl (cA, 224, .inl f_t_rows_3)), (h_t_sorted, .inl (cA, 224, .inl f_t_sorted_3)), (h_t_starts, .inl (cA, 14, .inl f_t_starts_3))] → va_S A s.heap H locs → ∀ ls : Array Slot, lv_has ls 5 [(0, .ref h_t), (1, .int a1), (2, .int v2_4), (3, .int v3_2), (4, .int v4_2)] → (∀ (H : Heap) (locs : List Loc), va_P (dC, dI) vwCl [(h_t, .inr (1, [.int f_t_builtSize, .int f_t_all, .ref h_t_rising, .ref h_t_sorted, .ref h_t_rows, .ref h_t_starts, .ref h_t_seen])), (h_t_rising, .inl (cA, 224, .inl f_t_rising)), (h_t_rows, .inl (cA, 224, .inl f_t_rows_4)), (h_t_sorted, .inl (cA, 224, .inl f_t_sorted_4)), (h_t_starts, .inl (cA, 14, .inl f_t_starts_3))] H → va_D A [(h_t, .inr (1, [.int f_t_builtSize, .int f_t_all, .ref h_t_rising, .ref h_t_sorted, .ref h_t_rows, .ref h_t_starts, .ref h_t_seen])), (h_t_rising, .inl (cA, 224, .inl f_t_rising)), (h_t_rows, .inl (cA, 224, .inl f_t_rows_4)), (h_t_sorted, .inl (cA, 224, .inl f_t_sorted_4)), (h_t_starts, .inl (cA, 14, .inl f_t_starts_3))] → va_S A s.heap H locs → ∀ ls : Array Slot, lv_has ls 5 [(0, .ref h_t), (1, .int a1), (2, .int v2_5), (3, .int v3_2)] → W p l e (headSpec wsX1_sortByTones rmX1_sortByTones).room s m (([.ref h_t, .int a1] : List Value).toArray) below meth c H locs 0 0 Q (F0 m 89 ls [])) → W p l e (headSpec wsX1_sortByTones rmX1_sortByTones).room s m (([.ref h_t, .int a1] : List Value).toArray) below meth c H locs 0 0 Q (F0 m 20 ls []) := by
          clear hm hP hD hS hl
          intro n
          induction n with
          | zero => intro _ _ _ _ _ _ _ hm; exact nomatch (show none = some _ from hm)
          | succ n ih =>
            intro v2_4 v4_2 f_t_rows_3 f_t_sorted_3 v2_5 f_t_rows_4 f_t_sorted_4 hm H locs hP hD hS ls hl KK
            unfold m_Forms_sortByTones_L20 at hm
            refine lv_iload hx hb dX1_sortByTones_20 (lv_at hl 4 rfl) ?_
            refine lv_aload_n hx hb dX1_sortByTones_22 rfl (lv_at hl 0 rfl) ?_
            refine va_get (D := (dC, dI)) (ci := 1) (v := .int f_t_all) (C := RX1) (T := TX1) (N := 7) hx hb hts uX1 hown hK hP 0 rfl rfl 1 (by decide) k2 (fun _ h9 => h9) rfl dX1_sortByTones_23 ?_
            refine lv_icmp_ge (tgt := 89) hx hb dX1_sortByTones_26 (by decide) (fun c26 => ?_) (fun c26 => ?_)
            · replace hm := if_t c26 hm
              cases hm
              exact KK _ _ hP hD hS _ (lv_sub hl [0, 1, 2, 3] rfl)
            · replace hm := if_f c26 hm
              refine lv_iload_n hx hb dX1_sortByTones_29 rfl (lv_at hl 2 rfl) ?_
              refine lv_sipush (v := 224) hx hb dX1_sortByTones_30 (by decide) ?_
              refine lv_icmp_ge (tgt := 89) hx hb dX1_sortByTones_33 (by decide) (fun c33 => ?_) (fun c33 => ?_)
              · replace hm := if_t c33 hm
                cases hm
                exact KK _ _ hP hD hS _ (lv_sub hl [0, 1, 2, 3] rfl)
              · replace hm := if_f c33 hm
                refine lv_aload_n hx hb dX1_sortByTones_36 rfl (lv_at hl 0 rfl) ?_
                refine va_get (D := (dC, dI)) (ci := 1) (v := .ref h_t_rising) (C := RX1) (T := TX1) (N := 7) hx hb hts uX1 hown hK hP 0 rfl rfl 2 (by decide) k3 (fun _ h9 => h9) rfl dX1_sortByTones_37 ?_
                refine lv_iload hx hb dX1_sortByTones_40 (lv_at hl 4 rfl) ?_
                obtain ⟨b42, hm⟩ := ck_go hm
                refine va_iald hx hb hK hP 1 0 rfl rfl b42 dX1_sortByTones_42 ?_
                obtain ⟨r_1, hc43, hm⟩ := bd1_go hm
                refine my_cSi (As := [.int (f_t_rising v4_2.toNatClampNeg)]) (rest := []) (WC := []) (WC' := []) (WR := [(h_t, .inr (1, [.int f_t_builtSize, .int f_t_all, .ref h_t_rising, .ref h_t_sorted, .ref h_t_rows, .ref h_t_starts, .ref h_t_seen])), (h_t_rising, .inl (cA, 224, .inl f_t_rising)), (h_t_rows, .inl (cA, 224, .inl f_t_rows_3)), (h_t_sorted, .inl (cA, 224, .inl f_t_sorted_3)), (h_t_starts, .inl (cA, 14, .inl f_t_starts_3))]) (W' := [(h_t, .inr (1, [.int f_t_builtSize, .int f_t_all, .ref h_t_rising, .ref h_t_sorted, .ref h_t_rows, .ref h_t_starts, .ref h_t_seen])), (h_t_rising, .inl (cA, 224, .inl f_t_rising)), (h_t_rows, .inl (cA, 224, .inl f_t_rows_3)), (h_t_sorted, .inl (cA, 224, .inl f_t_sorted_3)), (h_t_starts, .inl (cA, 14, .inl f_t_starts_3))]) ⟨hx, hb, hml, hown, hts⟩ hK hP hD hS hA (c_Ji_bitCount l dC dI cA (f_t_rising v4_2.toNatClampNeg) r_1 hc43) (va_cwS 1 hts gX1_sortByTones_J6_bitCount_0f7a4 rfl rfl rfl (by decide +kernel) ⟨Nat.le_of_ble_eq_true rfl, Nat.le_of_ble_eq_true rfl⟩) [] [0, 1, 2, 3, 4] [0, 1, 2, 3, 4] rfl rfl rfl rfl rfl rfl hl.1 (Nat.le_of_ble_eq_true rfl) dX1_sortByTones_43 ⟨Nat.zero_le _, Nat.zero_le _⟩ (fun H locs hP hD hS => ?_)
                refine lv_iload_n hx hb dX1_sortByTones_46 rfl (lv_at hl 3 rfl) ?_
                obtain ⟨v2_6, f_t_rows_5, f_t_sorted_5, hqJ_1, hm⟩ := bd3_go hm
                have J_1 : ∀ (H : Heap) (locs : List Loc), va_P (dC, dI) vwCl [(h_t, .inr (1, [.int f_t_builtSize, .int f_t_all, .ref h_t_rising, .ref h_t_sorted, .ref h_t_rows, .ref h_t_starts, .ref h_t_seen])), (h_t_rising, .inl (cA, 224, .inl f_t_rising)), (h_t_rows, .inl (cA, 224, .inl f_t_rows_5)), (h_t_sorted, .inl (cA, 224, .inl f_t_sorted_5)), (h_t_starts, .inl (cA, 14, .inl f_t_starts_3))] H → va_D A [(h_t, .inr (1, [.int f_t_builtSize, .int f_t_all, .ref h_t_rising, .ref h_t_sorted, .ref h_t_rows, .ref h_t_starts, .ref h_t_seen])), (h_t_rising, .inl (cA, 224, .inl f_t_rising)), (h_t_rows, .inl (cA, 224, .inl f_t_rows_5)), (h_t_sorted, .inl (cA, 224, .inl f_t_sorted_5)), (h_t_starts, .inl (cA, 14, .inl f_t_starts_3))] → va_S A s.heap H locs → ∀ ls : Array Slot, lv_has ls 5 [(0, .ref h_t), (1, .int a1), (2, .int v2_6), (3, .int v3_2), (4, .int v4_2)] → W p l e (headSpec wsX1_sortByTones rmX1_sortByTones).room s m (([.ref h_t, .int a1] : List Value).toArray) below meth c H locs 0 0 Q (F0 m 83 ls []) := by
                  intro H locs hP hD hS ls hl
                  clear hqJ_1
                  obtain ⟨v4_3, ev4_3⟩ : ∃ z : Int32, z = v4_2 + 1 := ⟨_, rfl⟩
                  replace hm := lt_go ev4_3 hm
                  refine lv_iinc (v := v4_3) (lv' := [(4, .int v4_3), (0, .ref h_t), (1, .int a1), (2, .int v2_6), (3, .int v3_2)]) hx hb dX1_sortByTones_83 hl (k := 4) rfl (by rw [ev4_3]; rfl) (by decide) rfl (fun ls hl => ?_)
                  refine lv_goto (tgt := 20) hx hb dX1_sortByTones_86 (by decide) ?_
                  exact ih _ _ _ _ _ _ _ hm _ _ hP hD hS _ (lv_sub hl [1, 2, 3, 4, 0] rfl) KK
                clear hm
                refine lv_icmp_ne (tgt := 83) hx hb dX1_sortByTones_47 (by decide) (fun c47 => ?_) (fun c47 => ?_)
                · replace hqJ_1 := if_f c47 hqJ_1
                  cases hqJ_1
                  exact J_1 _ _ hP hD hS _ (lv_sub hl [0, 1, 2, 3, 4] rfl)
                · replace hqJ_1 := if_t c47 hqJ_1
                  refine lv_aload_n hx hb dX1_sortByTones_50 rfl (lv_at hl 0 rfl) ?_
                  refine va_get (D := (dC, dI)) (ci := 1) (v := .ref h_t_sorted) (C := RX1) (T := TX1) (N := 7) hx hb hts uX1 hown hK hP 0 rfl rfl 3 (by decide) k4 (fun _ h9 => h9) rfl dX1_sortByTones_51 ?_
                  refine lv_iload_n hx hb dX1_sortByTones_54 rfl (lv_at hl 2 rfl) ?_
                  refine lv_aload_n hx hb dX1_sortByTones_55 rfl (lv_at hl 0 rfl) ?_
                  refine va_get (D := (dC, dI)) (ci := 1) (v := .ref h_t_rising) (C := RX1) (T := TX1) (N := 7) hx hb hts uX1 hown hK hP 0 rfl rfl 2 (by decide) k3 (fun _ h9 => h9) rfl dX1_sortByTones_56 ?_
                  refine lv_iload hx hb dX1_sortByTones_59 (lv_at hl 4 rfl) ?_
                  obtain ⟨b61, hqJ_1⟩ := ck_go hqJ_1
                  refine va_iald hx hb hK hP 1 0 rfl rfl b61 dX1_sortByTones_61 ?_
                  obtain ⟨b62, hqJ_1⟩ := ck_go hqJ_1
                  refine my_iast (W' := fun z' => [(h_t, .inr (1, [.int f_t_builtSize, .int f_t_all, .ref h_t_rising, .ref h_t_sorted, .ref h_t_rows, .ref h_t_starts, .ref h_t_seen])), (h_t_rising, .inl (cA, 224, .inl f_t_rising)), (h_t_rows, .inl (cA, 224, .inl f_t_rows_3)), (h_t_sorted, .inl (cA, 224, .inl z')), (h_t_starts, .inl (cA, 14, .inl f_t_starts_3))]) hx hb hK hP hD hS 3 0 rfl rfl b62 dX1_sortByTones_62 (fun _ => rfl) (fun f_t_sorted_6 ef_t_sorted_6 H locs hP hD hS => ?_)
                  replace hqJ_1 := lt_go ef_t_sorted_6 hqJ_1
                  refine lv_aload_n hx hb dX1_sortByTones_63 rfl (lv_at hl 0 rfl) ?_
                  refine va_get (D := (dC, dI)) (ci := 1) (v := .ref h_t_rows) (C := RX1) (T := TX1) (N := 7) hx hb hts uX1 hown hK hP 0 rfl rfl 4 (by decide) k5 (fun _ h9 => h9) rfl dX1_sortByTones_64 ?_
                  refine lv_iload_n hx hb dX1_sortByTones_67 rfl (lv_at hl 2 rfl) ?_
                  refine lv_aload_n hx hb dX1_sortByTones_68 rfl (lv_at hl 0 rfl) ?_
                  refine va_get (D := (dC, dI)) (ci := 1) (v := .ref h_t_rising) (C := RX1) (T := TX1) (N := 7) hx hb hts uX1 hown hK hP 0 rfl rfl 2 (by decide) k3 (fun _ h9 => h9) rfl dX1_sortByTones_69 ?_
                  refine lv_iload hx hb dX1_sortByTones_72 (lv_at hl 4 rfl) ?_
                  obtain ⟨b74, hqJ_1⟩ := ck_go hqJ_1
                  refine va_iald hx hb hK hP 1 0 rfl rfl b74 dX1_sortByTones_74 ?_
                  refine lv_iload_n hx hb dX1_sortByTones_75 rfl (lv_at hl 1 rfl) ?_
                  obtain ⟨r_2, hc76, hqJ_1⟩ := bd1_go hqJ_1
                  refine my_cSi (As := [.int (f_t_rising v4_2.toNatClampNeg), .int a1]) (rest := [.int v2_4, .ref h_t_rows]) (WC := []) (WC' := []) (WR := [(h_t, .inr (1, [.int f_t_builtSize, .int f_t_all, .ref h_t_rising, .ref h_t_sorted, .ref h_t_rows, .ref h_t_starts, .ref h_t_seen])), (h_t_rising, .inl (cA, 224, .inl f_t_rising)), (h_t_rows, .inl (cA, 224, .inl f_t_rows_3)), (h_t_sorted, .inl (cA, 224, .inl f_t_sorted_6)), (h_t_starts, .inl (cA, 14, .inl f_t_starts_3))]) (W' := [(h_t, .inr (1, [.int f_t_builtSize, .int f_t_all, .ref h_t_rising, .ref h_t_sorted, .ref h_t_rows, .ref h_t_starts, .ref h_t_seen])), (h_t_rising, .inl (cA, 224, .inl f_t_rising)), (h_t_rows, .inl (cA, 224, .inl f_t_rows_3)), (h_t_sorted, .inl (cA, 224, .inl f_t_sorted_6)), (h_t_starts, .inl (cA, 14, .inl f_t_starts_3))]) ⟨hx, hb, hml, hown, hts⟩ hK hP hD hS hA (c_Ring_intervalRow l dC dI cA fu (f_t_rising v4_2.toNatClampNeg) a1 r_2 hc76) (va_cwS 2 hts gX1_sortByTones_X3_intervalRow rfl rfl rfl (by decide +kernel) ⟨Nat.le_of_ble_eq_true rfl, Nat.le_of_ble_eq_true rfl⟩) [] [0, 1, 2, 3, 4] [0, 1, 2, 3, 4] rfl rfl rfl rfl rfl rfl hl.1 (Nat.le_of_ble_eq_true rfl) dX1_sortByTones_76 ⟨Nat.zero_le _, Nat.zero_le _⟩ (fun H locs hP hD hS => ?_)
                  obtain ⟨b79, hqJ_1⟩ := ck_go hqJ_1
                  refine my_iast (W' := fun z' => [(h_t, .inr (1, [.int f_t_builtSize, .int f_t_all, .ref h_t_rising, .ref h_t_sorted, .ref h_t_rows, .ref h_t_starts, .ref h_t_seen])), (h_t_rising, .inl (cA, 224, .inl f_t_rising)), (h_t_rows, .inl (cA, 224, .inl z')), (h_t_sorted, .inl (cA, 224, .inl f_t_sorted_6)), (h_t_starts, .inl (cA, 14, .inl f_t_starts_3))]) hx hb hK hP hD hS 2 0 rfl rfl b79 dX1_sortByTones_79 (fun _ => rfl) (fun f_t_rows_6 ef_t_rows_6 H locs hP hD hS => ?_)
                  replace hqJ_1 := lt_go ef_t_rows_6 hqJ_1
                  obtain ⟨v2_7, ev2_7⟩ : ∃ z : Int32, z = v2_4 + 1 := ⟨_, rfl⟩
                  replace hqJ_1 := lt_go ev2_7 hqJ_1
                  refine lv_iinc (v := v2_7) (lv' := [(2, .int v2_7), (0, .ref h_t), (1, .int a1), (3, .int v3_2), (4, .int v4_2)]) hx hb dX1_sortByTones_80 hl (k := 2) rfl (by rw [ev2_7]; rfl) (by decide) rfl (fun ls hl => ?_)
                  cases hqJ_1
                  exact J_1 _ _ hP hD hS _ (lv_sub hl [1, 2, 0, 3, 4] rfl)
        obtain ⟨v2_8, f_t_rows_7, f_t_sorted_7, hl20, hm⟩ := bd3_go hm
        refine L20 _ _ _ _ _ _ _ _ hl20 _ _ hP hD hS _ (lv_sub hl [1, 2, 3, 4, 0] rfl) (fun H locs hP hD hS ls hl => ?_)
        obtain ⟨v3_3, ev3_3⟩ : ∃ z : Int32, z = v3_2 + 1 := ⟨_, rfl⟩
        replace hm := lt_go ev3_3 hm
        refine lv_iinc (v := v3_3) (lv' := [(3, .int v3_3), (0, .ref h_t), (1, .int a1), (2, .int v2_8)]) hx hb dX1_sortByTones_89 hl (k := 3) rfl (by rw [ev3_3]; rfl) (by decide) rfl (fun ls hl => ?_)
        refine lv_goto (tgt := 4) hx hb dX1_sortByTones_92 (by decide) ?_
        exact ih _ _ _ _ _ _ _ _ _ hm _ _ hP hD hS _ (lv_sub hl [1, 2, 3, 0] rfl) KK
  obtain ⟨v2_9, f_t_rows_8, f_t_sorted_8, f_t_starts_4, hl4, hm⟩ := bd4_go hm
  refine L4 _ _ _ _ _ _ _ _ _ _ hl4 _ _ hP hD hS _ (lv_sub hl [2, 3, 1, 0] rfl) (fun H locs hP hD hS ls hl => ?_)
  refine lv_aload_n hx hb dX1_sortByTones_95 rfl (lv_at hl 0 rfl) ?_
  refine va_get (D := (dC, dI)) (ci := 1) (v := .ref h_t_starts) (C := RX1) (T := TX1) (N := 7) hx hb hts uX1 hown hK hP 0 rfl rfl 5 (by decide) k1 (fun _ h9 => h9) rfl dX1_sortByTones_96 ?_
  refine lv_bipush (v := 13) hx hb dX1_sortByTones_99 (by decide) ?_
  refine lv_iload_n hx hb dX1_sortByTones_101 rfl (lv_at hl 1 rfl) ?_
  obtain ⟨b102, hm⟩ := ck_go hm
  refine my_iast (W' := fun z' => [(h_t, .inr (1, [.int f_t_builtSize, .int f_t_all, .ref h_t_rising, .ref h_t_sorted, .ref h_t_rows, .ref h_t_starts, .ref h_t_seen])), (h_t_rising, .inl (cA, 224, .inl f_t_rising)), (h_t_rows, .inl (cA, 224, .inl f_t_rows_8)), (h_t_sorted, .inl (cA, 224, .inl f_t_sorted_8)), (h_t_starts, .inl (cA, 14, .inl z'))]) hx hb hK hP hD hS 4 0 rfl rfl b102 dX1_sortByTones_102 (fun _ => rfl) (fun f_t_starts_5 ef_t_starts_5 H locs hP hD hS => ?_)
  replace hm := lt_go ef_t_starts_5 hm
  cases hm
  exact W_mono hQ (W.vret hx hb hr (fun t ht hW => ⟨⟨(), rfl, trivial, by rw [ht]; exact hP, va_K.moved hW.alike hK, hD⟩, hS.F ht⟩) hS.2.2 dX1_sortByTones_103)
abbrev rmX1_build : Room := { frames := 5, cells := 0, slots := 0, locals := 112 }
theorem uX1_X1_build : ∀ w ∈ wsX10, w ∈ wsX1_build := fun _ h => List.mem_cons_of_mem _ (List.mem_append_left _ (List.mem_append_right _ (h)))
set_option maxHeartbeats 40000000 in
set_option maxRecDepth 100000 in
theorem c_Forms_build (l : Launch) (dC : Nat → ClassId) (dI : Nat → Nat → Nat) (cA : ClassId) (fu : Nat) (h_t h_t_seen h_t_rising h_t_sorted h_t_rows h_t_starts h_t_seen_bits : Nat) (f_t_builtSize : Int32) (f_t_all : Int32) (f_t_rising : Nat → Int32) (f_t_rows : Nat → Int32) (f_t_seen_bits : Nat → Int32) (f_t_sorted : Nat → Int32) (f_t_starts : Nat → Int32) (a1 : Int32) (f_t_all_z : Int32) (f_t_builtSize_z : Int32) (f_t_rising_z : Nat → Int32) (f_t_rows_z : Nat → Int32) (f_t_seen_bits_z : Nat → Int32) (f_t_sorted_z : Nat → Int32) (f_t_starts_z : Nat → Int32) (hm : m_Forms_build fu f_t_all f_t_builtSize f_t_rising f_t_rows f_t_seen_bits f_t_sorted f_t_starts a1 = some (f_t_all_z, f_t_builtSize_z, f_t_rising_z, f_t_rows_z, f_t_seen_bits_z, f_t_sorted_z, f_t_starts_z)) (sz : Nat) : Met l yX1_build wsX1_build rmX1_build (mPre (dC, dI) cA [.ref h_t, .int a1] sz [(h_t, .inr (1, [.int f_t_builtSize, .int f_t_all, .ref h_t_rising, .ref h_t_sorted, .ref h_t_rows, .ref h_t_starts, .ref h_t_seen])), (h_t_seen, .inr (5, [.ref h_t_seen_bits])), (h_t_rising, .inl (cA, 224, .inl f_t_rising)), (h_t_rows, .inl (cA, 224, .inl f_t_rows)), (h_t_seen_bits, .inl (cA, 128, .inl f_t_seen_bits)), (h_t_sorted, .inl (cA, 224, .inl f_t_sorted)), (h_t_starts, .inl (cA, 14, .inl f_t_starts))]) (mPosV (dC, dI) cA (va_A [(h_t, .inr (1, [.int f_t_builtSize, .int f_t_all, .ref h_t_rising, .ref h_t_sorted, .ref h_t_rows, .ref h_t_starts, .ref h_t_seen])), (h_t_seen, .inr (5, [.ref h_t_seen_bits])), (h_t_rising, .inl (cA, 224, .inl f_t_rising)), (h_t_rows, .inl (cA, 224, .inl f_t_rows)), (h_t_seen_bits, .inl (cA, 128, .inl f_t_seen_bits)), (h_t_sorted, .inl (cA, 224, .inl f_t_sorted)), (h_t_starts, .inl (cA, 14, .inl f_t_starts))] sz) [(h_t, .inr (1, [.int f_t_builtSize_z, .int f_t_all_z, .ref h_t_rising, .ref h_t_sorted, .ref h_t_rows, .ref h_t_starts, .ref h_t_seen])), (h_t_seen, .inr (5, [.ref h_t_seen_bits])), (h_t_rising, .inl (cA, 224, .inl f_t_rising_z)), (h_t_rows, .inl (cA, 224, .inl f_t_rows_z)), (h_t_seen_bits, .inl (cA, 128, .inl f_t_seen_bits_z)), (h_t_sorted, .inl (cA, 224, .inl f_t_sorted_z)), (h_t_starts, .inl (cA, 14, .inl f_t_starts_z))]) 0 0 (va_A [(h_t, .inr (1, [.int f_t_builtSize, .int f_t_all, .ref h_t_rising, .ref h_t_sorted, .ref h_t_rows, .ref h_t_starts, .ref h_t_seen])), (h_t_seen, .inr (5, [.ref h_t_seen_bits])), (h_t_rising, .inl (cA, 224, .inl f_t_rising)), (h_t_rows, .inl (cA, 224, .inl f_t_rows)), (h_t_seen_bits, .inl (cA, 128, .inl f_t_seen_bits)), (h_t_sorted, .inl (cA, 224, .inl f_t_sorted)), (h_t_starts, .inl (cA, 14, .inl f_t_starts))] sz) := by
  refine Met.ofW (cc := cX1_build) (maxL := 2) (ret := none) (by decide) rfl ?_
  intro p e s m args below meth c s₁ B hml hv
  obtain ⟨rfl, hsz, hP, hK, hD0⟩ := hv
  refine W_gen (fun Q hQ => ?_)
  have hx := B.exec
  have hb := B.bytes
  have hr := B.returns
  have hts := atoms_spec (ws := wsX1_build) B.pre
  have hown : s.vm.findClass RX1 = some m.cls := findClass_of_methodNamed B.named
  have hlocks := B.notSynchronized
  subst hsz
  have hD := hD0.self (sz := s.heap.size)
  clear hD0
  generalize hAe : va_A [(h_t, .inr (1, [.int f_t_builtSize, .int f_t_all, .ref h_t_rising, .ref h_t_sorted, .ref h_t_rows, .ref h_t_starts, .ref h_t_seen])), (h_t_seen, .inr (5, [.ref h_t_seen_bits])), (h_t_rising, .inl (cA, 224, .inl f_t_rising)), (h_t_rows, .inl (cA, 224, .inl f_t_rows)), (h_t_seen_bits, .inl (cA, 128, .inl f_t_seen_bits)), (h_t_sorted, .inl (cA, 224, .inl f_t_sorted)), (h_t_starts, .inl (cA, 14, .inl f_t_starts))] s.heap.size = A at hD hQ
  have hA : ∀ q : Nat, s.heap.size ≤ q → A q := fun q h => by rw [← hAe]; exact Or.inr h
  clear hAe
  have hS : va_S A s.heap s.heap [] := va_S.rf
  have hl := lv_entry ([.ref h_t, .int a1]) (n := 2) (Nat.le_of_ble_eq_true rfl)
  rw [lg_entry_eq]
  generalize (lg_sl ([.ref h_t, .int a1]) ++ List.replicate (2 - (lg_sl ([.ref h_t, .int a1])).length) Slot.unset).toArray = ls at hl ⊢
  have hl : lv_has ls 2 [(0, .ref h_t), (1, .int a1)] := hl
  have k1 := hts (.fieldLink RX1 9 "ToneSets$Forms" "builtSize" "I") (List.mem_of_getElem? (i := 1) rfl)
  have uX1 := uX1_X1_build
  unfold m_Forms_build at hm
  refine lv_aload_n hx hb dX1_build_0 rfl (lv_at hl 0 rfl) ?_
  refine va_get (D := (dC, dI)) (ci := 1) (v := .int f_t_builtSize) (C := RX1) (T := TX1) (N := 7) hx hb hts uX1 hown hK hP 0 rfl rfl 0 (by decide) k1 (fun _ h9 => h9) rfl dX1_build_1 ?_
  refine lv_iload_n hx hb dX1_build_4 rfl (lv_at hl 1 rfl) ?_
  refine lv_icmp_ne (tgt := 9) hx hb dX1_build_5 (by decide) (fun c5 => ?_) (fun c5 => ?_)
  · replace hm := if_f c5 hm
    refine lv_aload_n hx hb dX1_build_9 rfl (lv_at hl 0 rfl) ?_
    refine lv_iload_n hx hb dX1_build_10 rfl (lv_at hl 1 rfl) ?_
    refine lv_topi (fun f_t_builtSize_1 ef_t_builtSize_1 => ?_)
    replace hm := lt_go ef_t_builtSize_1 hm
    refine my_put (W' := [(h_t, .inr (1, [.int f_t_builtSize_1, .int f_t_all, .ref h_t_rising, .ref h_t_sorted, .ref h_t_rows, .ref h_t_starts, .ref h_t_seen])), (h_t_seen, .inr (5, [.ref h_t_seen_bits])), (h_t_rising, .inl (cA, 224, .inl f_t_rising)), (h_t_rows, .inl (cA, 224, .inl f_t_rows)), (h_t_seen_bits, .inl (cA, 128, .inl f_t_seen_bits)), (h_t_sorted, .inl (cA, 224, .inl f_t_sorted)), (h_t_starts, .inl (cA, 14, .inl f_t_starts))]) (ci := 1) (v := .int f_t_builtSize_1) (ty := .int) (C := RX1) (T := TX1) (N := 7) hx hb hts uX1 tyX1 tyX1_ok nmX1 hown hK hP hD hS 0 rfl rfl 0 (by decide) k1 (fun _ h9 => h9) rfl (by decide +kernel) rfl rfl (Nat.le_of_ble_eq_true rfl) dX1_build_11 rfl (fun H locs hP hD hS => ?_)
    refine lv_aload_n hx hb dX1_build_14 rfl (lv_at hl 0 rfl) ?_
    refine lv_iload_n hx hb dX1_build_15 rfl (lv_at hl 1 rfl) ?_
    obtain ⟨f_t_all_1, f_t_rising_1, f_t_seen_bits_1, hc16, hm⟩ := bd3_go hm
    refine my_cVv (As := [.int a1]) (rest := []) (WC := [(h_t, .inr (1, [.int f_t_builtSize_1, .int f_t_all, .ref h_t_rising, .ref h_t_sorted, .ref h_t_rows, .ref h_t_starts, .ref h_t_seen])), (h_t_seen, .inr (5, [.ref h_t_seen_bits])), (h_t_rising, .inl (cA, 224, .inl f_t_rising)), (h_t_seen_bits, .inl (cA, 128, .inl f_t_seen_bits))]) (WC' := [(h_t, .inr (1, [.int f_t_builtSize_1, .int f_t_all_1, .ref h_t_rising, .ref h_t_sorted, .ref h_t_rows, .ref h_t_starts, .ref h_t_seen])), (h_t_seen, .inr (5, [.ref h_t_seen_bits])), (h_t_rising, .inl (cA, 224, .inl f_t_rising_1)), (h_t_seen_bits, .inl (cA, 128, .inl f_t_seen_bits_1))]) (WR := [(h_t_rows, .inl (cA, 224, .inl f_t_rows)), (h_t_sorted, .inl (cA, 224, .inl f_t_sorted)), (h_t_starts, .inl (cA, 14, .inl f_t_starts))]) (W' := [(h_t, .inr (1, [.int f_t_builtSize_1, .int f_t_all_1, .ref h_t_rising, .ref h_t_sorted, .ref h_t_rows, .ref h_t_starts, .ref h_t_seen])), (h_t_seen, .inr (5, [.ref h_t_seen_bits])), (h_t_rising, .inl (cA, 224, .inl f_t_rising_1)), (h_t_rows, .inl (cA, 224, .inl f_t_rows)), (h_t_seen_bits, .inl (cA, 128, .inl f_t_seen_bits_1)), (h_t_sorted, .inl (cA, 224, .inl f_t_sorted)), (h_t_starts, .inl (cA, 14, .inl f_t_starts))]) ⟨hx, hb, hml, hown, hts⟩ hK hP hD hS hA (c_Forms_findRising l dC dI cA fu h_t h_t_seen h_t_rising h_t_sorted h_t_rows h_t_starts h_t_seen_bits f_t_builtSize_1 f_t_all f_t_rising f_t_seen_bits a1 f_t_all_1 f_t_rising_1 f_t_seen_bits_1 hc16) (cwV 1 hts gX1_build_X1_findRising rfl rfl rfl (by decide +kernel) ⟨Nat.le_of_ble_eq_true rfl, Nat.le_of_ble_eq_true rfl⟩) [0, 1, 2, 4] [3, 5, 6] [3, 4, 5, 0, 6, 1, 2] rfl rfl rfl rfl (ci := 1) (q0 := 0) rfl rfl rfl rfl hl.1 (Nat.le_of_ble_eq_true rfl) dX1_build_16 ⟨Nat.zero_le _, Nat.zero_le _⟩ (fun H locs hP hD hS => ?_)
    refine lv_aload_n hx hb dX1_build_19 rfl (lv_at hl 0 rfl) ?_
    refine lv_iload_n hx hb dX1_build_20 rfl (lv_at hl 1 rfl) ?_
    obtain ⟨f_t_rows_1, f_t_sorted_1, f_t_starts_1, hc21, hm⟩ := bd3_go hm
    refine my_cVv (As := [.int a1]) (rest := []) (WC := [(h_t, .inr (1, [.int f_t_builtSize_1, .int f_t_all_1, .ref h_t_rising, .ref h_t_sorted, .ref h_t_rows, .ref h_t_starts, .ref h_t_seen])), (h_t_rising, .inl (cA, 224, .inl f_t_rising_1)), (h_t_rows, .inl (cA, 224, .inl f_t_rows)), (h_t_sorted, .inl (cA, 224, .inl f_t_sorted)), (h_t_starts, .inl (cA, 14, .inl f_t_starts))]) (WC' := [(h_t, .inr (1, [.int f_t_builtSize_1, .int f_t_all_1, .ref h_t_rising, .ref h_t_sorted, .ref h_t_rows, .ref h_t_starts, .ref h_t_seen])), (h_t_rising, .inl (cA, 224, .inl f_t_rising_1)), (h_t_rows, .inl (cA, 224, .inl f_t_rows_1)), (h_t_sorted, .inl (cA, 224, .inl f_t_sorted_1)), (h_t_starts, .inl (cA, 14, .inl f_t_starts_1))]) (WR := [(h_t_seen, .inr (5, [.ref h_t_seen_bits])), (h_t_seen_bits, .inl (cA, 128, .inl f_t_seen_bits_1))]) (W' := [(h_t, .inr (1, [.int f_t_builtSize_1, .int f_t_all_1, .ref h_t_rising, .ref h_t_sorted, .ref h_t_rows, .ref h_t_starts, .ref h_t_seen])), (h_t_seen, .inr (5, [.ref h_t_seen_bits])), (h_t_rising, .inl (cA, 224, .inl f_t_rising_1)), (h_t_rows, .inl (cA, 224, .inl f_t_rows_1)), (h_t_seen_bits, .inl (cA, 128, .inl f_t_seen_bits_1)), (h_t_sorted, .inl (cA, 224, .inl f_t_sorted_1)), (h_t_starts, .inl (cA, 14, .inl f_t_starts_1))]) ⟨hx, hb, hml, hown, hts⟩ hK hP hD hS hA (c_Forms_sortByTones l dC dI cA fu h_t h_t_rising h_t_sorted h_t_rows h_t_starts h_t_seen f_t_builtSize_1 f_t_all_1 f_t_rising_1 f_t_rows f_t_sorted f_t_starts a1 f_t_rows_1 f_t_sorted_1 f_t_starts_1 hc21) (cwV 1 hts gX1_build_X1_sortByTones rfl rfl rfl (by decide +kernel) ⟨Nat.le_of_ble_eq_true rfl, Nat.le_of_ble_eq_true rfl⟩) [0, 2, 3, 5, 6] [1, 4] [2, 0, 3, 4, 1, 5, 6] rfl rfl rfl rfl (ci := 1) (q0 := 0) rfl rfl rfl rfl hl.1 (Nat.le_of_ble_eq_true rfl) dX1_build_21 ⟨Nat.zero_le _, Nat.zero_le _⟩ (fun H locs hP hD hS => ?_)
    cases hm
    exact W_mono hQ (W.vret hx hb hr (fun t ht hW => ⟨⟨(), rfl, trivial, by rw [ht]; exact hP, va_K.moved hW.alike hK, hD⟩, hS.F ht⟩) hS.2.2 dX1_build_24)
  · replace hm := if_t c5 hm
    cases hm
    exact W_mono hQ (W.vret hx hb hr (fun t ht hW => ⟨⟨(), rfl, trivial, by rw [ht]; exact hP, va_K.moved hW.alike hK, hD⟩, hS.F ht⟩) hS.2.2 dX1_build_8)
abbrev rmX1_end : Room := { frames := 0, cells := 0, slots := 0, locals := 0 }
theorem uX1_X1_end : ∀ w ∈ wsX10, w ∈ wsX1_end := fun _ h => List.mem_cons_of_mem _ (List.mem_append_right _ (h))
set_option maxHeartbeats 40000000 in
set_option maxRecDepth 100000 in
theorem c_Forms_end (l : Launch) (dC : Nat → ClassId) (dI : Nat → Nat → Nat) (cA : ClassId) (h_t h_t_rising h_t_sorted h_t_rows h_t_starts h_t_seen : Nat) (f_t_builtSize : Int32) (f_t_all : Int32) (f_t_starts : Nat → Int32) (a1 : Int32) (r0 : Int32) (hm : m_Forms_end f_t_starts a1 = some r0) (sz : Nat) : Met l yX1_end wsX1_end rmX1_end (mPre (dC, dI) cA [.ref h_t, .int a1] sz [(h_t, .inr (1, [.int f_t_builtSize, .int f_t_all, .ref h_t_rising, .ref h_t_sorted, .ref h_t_rows, .ref h_t_starts, .ref h_t_seen])), (h_t_starts, .inl (cA, 14, .inl f_t_starts))]) (mPosI (dC, dI) cA r0 (va_A [(h_t, .inr (1, [.int f_t_builtSize, .int f_t_all, .ref h_t_rising, .ref h_t_sorted, .ref h_t_rows, .ref h_t_starts, .ref h_t_seen])), (h_t_starts, .inl (cA, 14, .inl f_t_starts))] sz) [(h_t, .inr (1, [.int f_t_builtSize, .int f_t_all, .ref h_t_rising, .ref h_t_sorted, .ref h_t_rows, .ref h_t_starts, .ref h_t_seen])), (h_t_starts, .inl (cA, 14, .inl f_t_starts))]) 0 0 (va_A [(h_t, .inr (1, [.int f_t_builtSize, .int f_t_all, .ref h_t_rising, .ref h_t_sorted, .ref h_t_rows, .ref h_t_starts, .ref h_t_seen])), (h_t_starts, .inl (cA, 14, .inl f_t_starts))] sz) := by
  refine Met.ofW (cc := cX1_end) (maxL := 2) (ret := (some .int)) (by decide) rfl ?_
  intro p e s m args below meth c s₁ B hml hv
  obtain ⟨rfl, hsz, hP, hK, hD0⟩ := hv
  refine W_gen (fun Q hQ => ?_)
  have hx := B.exec
  have hb := B.bytes
  have hr := B.returns
  have hts := atoms_spec (ws := wsX1_end) B.pre
  have hown : s.vm.findClass RX1 = some m.cls := findClass_of_methodNamed B.named
  have hlocks := B.notSynchronized
  subst hsz
  have hD := hD0.self (sz := s.heap.size)
  clear hD0
  generalize hAe : va_A [(h_t, .inr (1, [.int f_t_builtSize, .int f_t_all, .ref h_t_rising, .ref h_t_sorted, .ref h_t_rows, .ref h_t_starts, .ref h_t_seen])), (h_t_starts, .inl (cA, 14, .inl f_t_starts))] s.heap.size = A at hD hQ
  have hA : ∀ q : Nat, s.heap.size ≤ q → A q := fun q h => by rw [← hAe]; exact Or.inr h
  clear hAe
  have hS : va_S A s.heap s.heap [] := va_S.rf
  have hl := lv_entry ([.ref h_t, .int a1]) (n := 2) (Nat.le_of_ble_eq_true rfl)
  rw [lg_entry_eq]
  generalize (lg_sl ([.ref h_t, .int a1]) ++ List.replicate (2 - (lg_sl ([.ref h_t, .int a1])).length) Slot.unset).toArray = ls at hl ⊢
  have hl : lv_has ls 2 [(0, .ref h_t), (1, .int a1)] := hl
  have k1 := hts (.fieldLink RX1 28 "ToneSets$Forms" "starts" "[I") (List.mem_of_getElem? (i := 1) rfl)
  have uX1 := uX1_X1_end
  unfold m_Forms_end at hm
  refine lv_iload_n hx hb dX1_end_0 rfl (lv_at hl 1 rfl) ?_
  refine lv_if_lt (tgt := 21) hx hb dX1_end_1 (by decide) (fun c1 => ?_) (fun c1 => ?_)
  · replace hm := if_t c1 hm
    refine lv_iconst (v := 0) hx hb dX1_end_21 (by decide) ?_
    cases hm
    exact W_mono hQ (W.iret hx hb hr (fun t ht hW => ⟨⟨_, (), rfl, rfl, by rw [ht]; exact hP, va_K.moved hW.alike hK, hD⟩, hS.F ht⟩) hS.2.2 dX1_end_22)
  · replace hm := if_f c1 hm
    refine lv_iload_n hx hb dX1_end_4 rfl (lv_at hl 1 rfl) ?_
    refine lv_bipush (v := 12) hx hb dX1_end_5 (by decide) ?_
    refine lv_icmp_gt (tgt := 21) hx hb dX1_end_7 (by decide) (fun c7 => ?_) (fun c7 => ?_)
    · replace hm := if_t c7 hm
      refine lv_iconst (v := 0) hx hb dX1_end_21 (by decide) ?_
      cases hm
      exact W_mono hQ (W.iret hx hb hr (fun t ht hW => ⟨⟨_, (), rfl, rfl, by rw [ht]; exact hP, va_K.moved hW.alike hK, hD⟩, hS.F ht⟩) hS.2.2 dX1_end_22)
    · replace hm := if_f c7 hm
      refine lv_aload_n hx hb dX1_end_10 rfl (lv_at hl 0 rfl) ?_
      refine va_get (D := (dC, dI)) (ci := 1) (v := .ref h_t_starts) (C := RX1) (T := TX1) (N := 7) hx hb hts uX1 hown hK hP 0 rfl rfl 5 (by decide) k1 (fun _ h9 => h9) rfl dX1_end_11 ?_
      refine lv_iload_n hx hb dX1_end_14 rfl (lv_at hl 1 rfl) ?_
      refine lv_iconst (v := 1) hx hb dX1_end_15 (by decide) ?_
      refine lv_iadd hx hb dX1_end_16 ?_
      obtain ⟨b17, hm⟩ := ck_go hm
      refine va_iald hx hb hK hP 1 0 rfl rfl b17 dX1_end_17 ?_
      refine lv_goto (tgt := 22) hx hb dX1_end_18 (by decide) ?_
      cases hm
      exact W_mono hQ (W.iret hx hb hr (fun t ht hW => ⟨⟨_, (), rfl, rfl, by rw [ht]; exact hP, va_K.moved hW.alike hK, hD⟩, hS.F ht⟩) hS.2.2 dX1_end_22)
abbrev rmX1_start : Room := { frames := 0, cells := 0, slots := 0, locals := 0 }
theorem uX1_X1_start : ∀ w ∈ wsX10, w ∈ wsX1_start := fun _ h => List.mem_cons_of_mem _ (List.mem_append_right _ (h))
set_option maxHeartbeats 40000000 in
set_option maxRecDepth 100000 in
theorem c_Forms_start (l : Launch) (dC : Nat → ClassId) (dI : Nat → Nat → Nat) (cA : ClassId) (h_t h_t_rising h_t_sorted h_t_rows h_t_starts h_t_seen : Nat) (f_t_builtSize : Int32) (f_t_all : Int32) (f_t_starts : Nat → Int32) (a1 : Int32) (r0 : Int32) (hm : m_Forms_start f_t_starts a1 = some r0) (sz : Nat) : Met l yX1_start wsX1_start rmX1_start (mPre (dC, dI) cA [.ref h_t, .int a1] sz [(h_t, .inr (1, [.int f_t_builtSize, .int f_t_all, .ref h_t_rising, .ref h_t_sorted, .ref h_t_rows, .ref h_t_starts, .ref h_t_seen])), (h_t_starts, .inl (cA, 14, .inl f_t_starts))]) (mPosI (dC, dI) cA r0 (va_A [(h_t, .inr (1, [.int f_t_builtSize, .int f_t_all, .ref h_t_rising, .ref h_t_sorted, .ref h_t_rows, .ref h_t_starts, .ref h_t_seen])), (h_t_starts, .inl (cA, 14, .inl f_t_starts))] sz) [(h_t, .inr (1, [.int f_t_builtSize, .int f_t_all, .ref h_t_rising, .ref h_t_sorted, .ref h_t_rows, .ref h_t_starts, .ref h_t_seen])), (h_t_starts, .inl (cA, 14, .inl f_t_starts))]) 0 0 (va_A [(h_t, .inr (1, [.int f_t_builtSize, .int f_t_all, .ref h_t_rising, .ref h_t_sorted, .ref h_t_rows, .ref h_t_starts, .ref h_t_seen])), (h_t_starts, .inl (cA, 14, .inl f_t_starts))] sz) := by
  refine Met.ofW (cc := cX1_start) (maxL := 2) (ret := (some .int)) (by decide) rfl ?_
  intro p e s m args below meth c s₁ B hml hv
  obtain ⟨rfl, hsz, hP, hK, hD0⟩ := hv
  refine W_gen (fun Q hQ => ?_)
  have hx := B.exec
  have hb := B.bytes
  have hr := B.returns
  have hts := atoms_spec (ws := wsX1_start) B.pre
  have hown : s.vm.findClass RX1 = some m.cls := findClass_of_methodNamed B.named
  have hlocks := B.notSynchronized
  subst hsz
  have hD := hD0.self (sz := s.heap.size)
  clear hD0
  generalize hAe : va_A [(h_t, .inr (1, [.int f_t_builtSize, .int f_t_all, .ref h_t_rising, .ref h_t_sorted, .ref h_t_rows, .ref h_t_starts, .ref h_t_seen])), (h_t_starts, .inl (cA, 14, .inl f_t_starts))] s.heap.size = A at hD hQ
  have hA : ∀ q : Nat, s.heap.size ≤ q → A q := fun q h => by rw [← hAe]; exact Or.inr h
  clear hAe
  have hS : va_S A s.heap s.heap [] := va_S.rf
  have hl := lv_entry ([.ref h_t, .int a1]) (n := 2) (Nat.le_of_ble_eq_true rfl)
  rw [lg_entry_eq]
  generalize (lg_sl ([.ref h_t, .int a1]) ++ List.replicate (2 - (lg_sl ([.ref h_t, .int a1])).length) Slot.unset).toArray = ls at hl ⊢
  have hl : lv_has ls 2 [(0, .ref h_t), (1, .int a1)] := hl
  have k1 := hts (.fieldLink RX1 28 "ToneSets$Forms" "starts" "[I") (List.mem_of_getElem? (i := 1) rfl)
  have uX1 := uX1_X1_start
  unfold m_Forms_start at hm
  refine lv_iload_n hx hb dX1_start_0 rfl (lv_at hl 1 rfl) ?_
  refine lv_if_lt (tgt := 19) hx hb dX1_start_1 (by decide) (fun c1 => ?_) (fun c1 => ?_)
  · replace hm := if_t c1 hm
    refine lv_iconst (v := 0) hx hb dX1_start_19 (by decide) ?_
    cases hm
    exact W_mono hQ (W.iret hx hb hr (fun t ht hW => ⟨⟨_, (), rfl, rfl, by rw [ht]; exact hP, va_K.moved hW.alike hK, hD⟩, hS.F ht⟩) hS.2.2 dX1_start_20)
  · replace hm := if_f c1 hm
    refine lv_iload_n hx hb dX1_start_4 rfl (lv_at hl 1 rfl) ?_
    refine lv_bipush (v := 12) hx hb dX1_start_5 (by decide) ?_
    refine lv_icmp_gt (tgt := 19) hx hb dX1_start_7 (by decide) (fun c7 => ?_) (fun c7 => ?_)
    · replace hm := if_t c7 hm
      refine lv_iconst (v := 0) hx hb dX1_start_19 (by decide) ?_
      cases hm
      exact W_mono hQ (W.iret hx hb hr (fun t ht hW => ⟨⟨_, (), rfl, rfl, by rw [ht]; exact hP, va_K.moved hW.alike hK, hD⟩, hS.F ht⟩) hS.2.2 dX1_start_20)
    · replace hm := if_f c7 hm
      refine lv_aload_n hx hb dX1_start_10 rfl (lv_at hl 0 rfl) ?_
      refine va_get (D := (dC, dI)) (ci := 1) (v := .ref h_t_starts) (C := RX1) (T := TX1) (N := 7) hx hb hts uX1 hown hK hP 0 rfl rfl 5 (by decide) k1 (fun _ h9 => h9) rfl dX1_start_11 ?_
      refine lv_iload_n hx hb dX1_start_14 rfl (lv_at hl 1 rfl) ?_
      obtain ⟨b15, hm⟩ := ck_go hm
      refine va_iald hx hb hK hP 1 0 rfl rfl b15 dX1_start_15 ?_
      refine lv_goto (tgt := 20) hx hb dX1_start_16 (by decide) ?_
      cases hm
      exact W_mono hQ (W.iret hx hb hr (fun t ht hW => ⟨⟨_, (), rfl, rfl, by rw [ht]; exact hP, va_K.moved hW.alike hK, hD⟩, hS.F ht⟩) hS.2.2 dX1_start_20)
abbrev rmX1_count : Room := { frames := 6, cells := 0, slots := 0, locals := 133 }
set_option maxHeartbeats 40000000 in
set_option maxRecDepth 100000 in
theorem c_Forms_count (l : Launch) (dC : Nat → ClassId) (dI : Nat → Nat → Nat) (cA : ClassId) (fu : Nat) (h_t h_t_seen h_t_rising h_t_sorted h_t_rows h_t_starts h_t_seen_bits : Nat) (f_t_builtSize : Int32) (f_t_all : Int32) (f_t_rising : Nat → Int32) (f_t_rows : Nat → Int32) (f_t_seen_bits : Nat → Int32) (f_t_sorted : Nat → Int32) (f_t_starts : Nat → Int32) (a1 : Int32) (a2 : Int32) (r0 : Int32) (f_t_all_z : Int32) (f_t_builtSize_z : Int32) (f_t_rising_z : Nat → Int32) (f_t_rows_z : Nat → Int32) (f_t_seen_bits_z : Nat → Int32) (f_t_sorted_z : Nat → Int32) (f_t_starts_z : Nat → Int32) (hm : m_Forms_count fu f_t_all f_t_builtSize f_t_rising f_t_rows f_t_seen_bits f_t_sorted f_t_starts a1 a2 = some (r0, f_t_all_z, f_t_builtSize_z, f_t_rising_z, f_t_rows_z, f_t_seen_bits_z, f_t_sorted_z, f_t_starts_z)) (sz : Nat) : Met l yX1_count wsX1_count rmX1_count (mPre (dC, dI) cA [.ref h_t, .int a1, .int a2] sz [(h_t, .inr (1, [.int f_t_builtSize, .int f_t_all, .ref h_t_rising, .ref h_t_sorted, .ref h_t_rows, .ref h_t_starts, .ref h_t_seen])), (h_t_seen, .inr (5, [.ref h_t_seen_bits])), (h_t_rising, .inl (cA, 224, .inl f_t_rising)), (h_t_rows, .inl (cA, 224, .inl f_t_rows)), (h_t_seen_bits, .inl (cA, 128, .inl f_t_seen_bits)), (h_t_sorted, .inl (cA, 224, .inl f_t_sorted)), (h_t_starts, .inl (cA, 14, .inl f_t_starts))]) (mPosI (dC, dI) cA r0 (va_A [(h_t, .inr (1, [.int f_t_builtSize, .int f_t_all, .ref h_t_rising, .ref h_t_sorted, .ref h_t_rows, .ref h_t_starts, .ref h_t_seen])), (h_t_seen, .inr (5, [.ref h_t_seen_bits])), (h_t_rising, .inl (cA, 224, .inl f_t_rising)), (h_t_rows, .inl (cA, 224, .inl f_t_rows)), (h_t_seen_bits, .inl (cA, 128, .inl f_t_seen_bits)), (h_t_sorted, .inl (cA, 224, .inl f_t_sorted)), (h_t_starts, .inl (cA, 14, .inl f_t_starts))] sz) [(h_t, .inr (1, [.int f_t_builtSize_z, .int f_t_all_z, .ref h_t_rising, .ref h_t_sorted, .ref h_t_rows, .ref h_t_starts, .ref h_t_seen])), (h_t_seen, .inr (5, [.ref h_t_seen_bits])), (h_t_rising, .inl (cA, 224, .inl f_t_rising_z)), (h_t_rows, .inl (cA, 224, .inl f_t_rows_z)), (h_t_seen_bits, .inl (cA, 128, .inl f_t_seen_bits_z)), (h_t_sorted, .inl (cA, 224, .inl f_t_sorted_z)), (h_t_starts, .inl (cA, 14, .inl f_t_starts_z))]) 0 0 (va_A [(h_t, .inr (1, [.int f_t_builtSize, .int f_t_all, .ref h_t_rising, .ref h_t_sorted, .ref h_t_rows, .ref h_t_starts, .ref h_t_seen])), (h_t_seen, .inr (5, [.ref h_t_seen_bits])), (h_t_rising, .inl (cA, 224, .inl f_t_rising)), (h_t_rows, .inl (cA, 224, .inl f_t_rows)), (h_t_seen_bits, .inl (cA, 128, .inl f_t_seen_bits)), (h_t_sorted, .inl (cA, 224, .inl f_t_sorted)), (h_t_starts, .inl (cA, 14, .inl f_t_starts))] sz) := by
  refine Met.ofW (cc := cX1_count) (maxL := 3) (ret := (some .int)) (by decide) rfl ?_
  intro p e s m args below meth c s₁ B hml hv
  obtain ⟨rfl, hsz, hP, hK, hD0⟩ := hv
  refine W_gen (fun Q hQ => ?_)
  have hx := B.exec
  have hb := B.bytes
  have hr := B.returns
  have hts := atoms_spec (ws := wsX1_count) B.pre
  have hown : s.vm.findClass RX1 = some m.cls := findClass_of_methodNamed B.named
  have hlocks := B.notSynchronized
  subst hsz
  have hD := hD0.self (sz := s.heap.size)
  clear hD0
  generalize hAe : va_A [(h_t, .inr (1, [.int f_t_builtSize, .int f_t_all, .ref h_t_rising, .ref h_t_sorted, .ref h_t_rows, .ref h_t_starts, .ref h_t_seen])), (h_t_seen, .inr (5, [.ref h_t_seen_bits])), (h_t_rising, .inl (cA, 224, .inl f_t_rising)), (h_t_rows, .inl (cA, 224, .inl f_t_rows)), (h_t_seen_bits, .inl (cA, 128, .inl f_t_seen_bits)), (h_t_sorted, .inl (cA, 224, .inl f_t_sorted)), (h_t_starts, .inl (cA, 14, .inl f_t_starts))] s.heap.size = A at hD hQ
  have hA : ∀ q : Nat, s.heap.size ≤ q → A q := fun q h => by rw [← hAe]; exact Or.inr h
  clear hAe
  have hS : va_S A s.heap s.heap [] := va_S.rf
  have hl := lv_entry ([.ref h_t, .int a1, .int a2]) (n := 3) (Nat.le_of_ble_eq_true rfl)
  rw [lg_entry_eq]
  generalize (lg_sl ([.ref h_t, .int a1, .int a2]) ++ List.replicate (3 - (lg_sl ([.ref h_t, .int a1, .int a2])).length) Slot.unset).toArray = ls at hl ⊢
  have hl : lv_has ls 3 [(0, .ref h_t), (1, .int a1), (2, .int a2)] := hl
  unfold m_Forms_count at hm
  refine lv_aload_n hx hb dX1_count_0 rfl (lv_at hl 0 rfl) ?_
  refine lv_iload_n hx hb dX1_count_1 rfl (lv_at hl 2 rfl) ?_
  obtain ⟨f_t_all_1, f_t_builtSize_1, f_t_rising_1, f_t_rows_1, f_t_seen_bits_1, f_t_sorted_1, f_t_starts_1, hc2, hm⟩ := bd7_go hm
  refine my_cVv (As := [.int a2]) (rest := []) (WC := [(h_t, .inr (1, [.int f_t_builtSize, .int f_t_all, .ref h_t_rising, .ref h_t_sorted, .ref h_t_rows, .ref h_t_starts, .ref h_t_seen])), (h_t_seen, .inr (5, [.ref h_t_seen_bits])), (h_t_rising, .inl (cA, 224, .inl f_t_rising)), (h_t_rows, .inl (cA, 224, .inl f_t_rows)), (h_t_seen_bits, .inl (cA, 128, .inl f_t_seen_bits)), (h_t_sorted, .inl (cA, 224, .inl f_t_sorted)), (h_t_starts, .inl (cA, 14, .inl f_t_starts))]) (WC' := [(h_t, .inr (1, [.int f_t_builtSize_1, .int f_t_all_1, .ref h_t_rising, .ref h_t_sorted, .ref h_t_rows, .ref h_t_starts, .ref h_t_seen])), (h_t_seen, .inr (5, [.ref h_t_seen_bits])), (h_t_rising, .inl (cA, 224, .inl f_t_rising_1)), (h_t_rows, .inl (cA, 224, .inl f_t_rows_1)), (h_t_seen_bits, .inl (cA, 128, .inl f_t_seen_bits_1)), (h_t_sorted, .inl (cA, 224, .inl f_t_sorted_1)), (h_t_starts, .inl (cA, 14, .inl f_t_starts_1))]) (WR := []) (W' := [(h_t, .inr (1, [.int f_t_builtSize_1, .int f_t_all_1, .ref h_t_rising, .ref h_t_sorted, .ref h_t_rows, .ref h_t_starts, .ref h_t_seen])), (h_t_seen, .inr (5, [.ref h_t_seen_bits])), (h_t_rising, .inl (cA, 224, .inl f_t_rising_1)), (h_t_rows, .inl (cA, 224, .inl f_t_rows_1)), (h_t_seen_bits, .inl (cA, 128, .inl f_t_seen_bits_1)), (h_t_sorted, .inl (cA, 224, .inl f_t_sorted_1)), (h_t_starts, .inl (cA, 14, .inl f_t_starts_1))]) ⟨hx, hb, hml, hown, hts⟩ hK hP hD hS hA (c_Forms_build l dC dI cA fu h_t h_t_seen h_t_rising h_t_sorted h_t_rows h_t_starts h_t_seen_bits f_t_builtSize f_t_all f_t_rising f_t_rows f_t_seen_bits f_t_sorted f_t_starts a2 f_t_all_1 f_t_builtSize_1 f_t_rising_1 f_t_rows_1 f_t_seen_bits_1 f_t_sorted_1 f_t_starts_1 hc2) (cwV 1 hts gX1_count_X1_build rfl rfl rfl (by decide +kernel) ⟨Nat.le_of_ble_eq_true rfl, Nat.le_of_ble_eq_true rfl⟩) [0, 1, 2, 3, 4, 5, 6] [] [0, 1, 2, 3, 4, 5, 6] rfl rfl rfl rfl (ci := 1) (q0 := 0) rfl rfl rfl rfl hl.1 (Nat.le_of_ble_eq_true rfl) dX1_count_2 ⟨Nat.zero_le _, Nat.zero_le _⟩ (fun H locs hP hD hS => ?_)
  refine lv_aload_n hx hb dX1_count_5 rfl (lv_at hl 0 rfl) ?_
  refine lv_iload_n hx hb dX1_count_6 rfl (lv_at hl 1 rfl) ?_
  obtain ⟨r_1, hc7, hm⟩ := bd1_go hm
  refine my_cVi (As := [.int a1]) (rest := []) (WC := [(h_t, .inr (1, [.int f_t_builtSize_1, .int f_t_all_1, .ref h_t_rising, .ref h_t_sorted, .ref h_t_rows, .ref h_t_starts, .ref h_t_seen])), (h_t_starts, .inl (cA, 14, .inl f_t_starts_1))]) (WC' := [(h_t, .inr (1, [.int f_t_builtSize_1, .int f_t_all_1, .ref h_t_rising, .ref h_t_sorted, .ref h_t_rows, .ref h_t_starts, .ref h_t_seen])), (h_t_starts, .inl (cA, 14, .inl f_t_starts_1))]) (WR := [(h_t_seen, .inr (5, [.ref h_t_seen_bits])), (h_t_rising, .inl (cA, 224, .inl f_t_rising_1)), (h_t_rows, .inl (cA, 224, .inl f_t_rows_1)), (h_t_seen_bits, .inl (cA, 128, .inl f_t_seen_bits_1)), (h_t_sorted, .inl (cA, 224, .inl f_t_sorted_1))]) (W' := [(h_t, .inr (1, [.int f_t_builtSize_1, .int f_t_all_1, .ref h_t_rising, .ref h_t_sorted, .ref h_t_rows, .ref h_t_starts, .ref h_t_seen])), (h_t_seen, .inr (5, [.ref h_t_seen_bits])), (h_t_rising, .inl (cA, 224, .inl f_t_rising_1)), (h_t_rows, .inl (cA, 224, .inl f_t_rows_1)), (h_t_seen_bits, .inl (cA, 128, .inl f_t_seen_bits_1)), (h_t_sorted, .inl (cA, 224, .inl f_t_sorted_1)), (h_t_starts, .inl (cA, 14, .inl f_t_starts_1))]) ⟨hx, hb, hml, hown, hts⟩ hK hP hD hS hA (c_Forms_end l dC dI cA h_t h_t_rising h_t_sorted h_t_rows h_t_starts h_t_seen f_t_builtSize_1 f_t_all_1 f_t_starts_1 a1 r_1 hc7) (cwV 1 hts gX1_count_X1_end rfl rfl rfl (by decide +kernel) ⟨Nat.le_of_ble_eq_true rfl, Nat.le_of_ble_eq_true rfl⟩) [0, 6] [1, 2, 3, 4, 5] [5, 0, 1, 2, 3, 4, 6] rfl rfl rfl rfl (ci := 1) (q0 := 0) rfl rfl rfl rfl hl.1 (Nat.le_of_ble_eq_true rfl) dX1_count_7 ⟨Nat.zero_le _, Nat.zero_le _⟩ (fun H locs hP hD hS => ?_)
  refine lv_aload_n hx hb dX1_count_10 rfl (lv_at hl 0 rfl) ?_
  refine lv_iload_n hx hb dX1_count_11 rfl (lv_at hl 1 rfl) ?_
  obtain ⟨r_2, hc12, hm⟩ := bd1_go hm
  refine my_cVi (As := [.int a1]) (rest := [.int r_1]) (WC := [(h_t, .inr (1, [.int f_t_builtSize_1, .int f_t_all_1, .ref h_t_rising, .ref h_t_sorted, .ref h_t_rows, .ref h_t_starts, .ref h_t_seen])), (h_t_starts, .inl (cA, 14, .inl f_t_starts_1))]) (WC' := [(h_t, .inr (1, [.int f_t_builtSize_1, .int f_t_all_1, .ref h_t_rising, .ref h_t_sorted, .ref h_t_rows, .ref h_t_starts, .ref h_t_seen])), (h_t_starts, .inl (cA, 14, .inl f_t_starts_1))]) (WR := [(h_t_seen, .inr (5, [.ref h_t_seen_bits])), (h_t_rising, .inl (cA, 224, .inl f_t_rising_1)), (h_t_rows, .inl (cA, 224, .inl f_t_rows_1)), (h_t_seen_bits, .inl (cA, 128, .inl f_t_seen_bits_1)), (h_t_sorted, .inl (cA, 224, .inl f_t_sorted_1))]) (W' := [(h_t, .inr (1, [.int f_t_builtSize_1, .int f_t_all_1, .ref h_t_rising, .ref h_t_sorted, .ref h_t_rows, .ref h_t_starts, .ref h_t_seen])), (h_t_seen, .inr (5, [.ref h_t_seen_bits])), (h_t_rising, .inl (cA, 224, .inl f_t_rising_1)), (h_t_rows, .inl (cA, 224, .inl f_t_rows_1)), (h_t_seen_bits, .inl (cA, 128, .inl f_t_seen_bits_1)), (h_t_sorted, .inl (cA, 224, .inl f_t_sorted_1)), (h_t_starts, .inl (cA, 14, .inl f_t_starts_1))]) ⟨hx, hb, hml, hown, hts⟩ hK hP hD hS hA (c_Forms_start l dC dI cA h_t h_t_rising h_t_sorted h_t_rows h_t_starts h_t_seen f_t_builtSize_1 f_t_all_1 f_t_starts_1 a1 r_2 hc12) (cwV 1 hts gX1_count_X1_start rfl rfl rfl (by decide +kernel) ⟨Nat.le_of_ble_eq_true rfl, Nat.le_of_ble_eq_true rfl⟩) [0, 6] [1, 2, 3, 4, 5] [5, 0, 1, 2, 3, 4, 6] rfl rfl rfl rfl (ci := 1) (q0 := 0) rfl rfl rfl rfl hl.1 (Nat.le_of_ble_eq_true rfl) dX1_count_12 ⟨Nat.zero_le _, Nat.zero_le _⟩ (fun H locs hP hD hS => ?_)
  refine lv_isub hx hb dX1_count_15 ?_
  cases hm
  exact W_mono hQ (W.iret hx hb hr (fun t ht hW => ⟨⟨_, (), rfl, rfl, by rw [ht]; exact hP, va_K.moved hW.alike hK, hD⟩, hS.F ht⟩) hS.2.2 dX1_count_16)
abbrev rmX1_countAll : Room := { frames := 6, cells := 0, slots := 0, locals := 133 }
theorem uX1_X1_countAll : ∀ w ∈ wsX10, w ∈ wsX1_countAll := fun _ h => List.mem_cons_of_mem _ (List.mem_append_left _ (List.mem_append_right _ (h)))
set_option maxHeartbeats 40000000 in
set_option maxRecDepth 100000 in
theorem c_Forms_countAll (l : Launch) (dC : Nat → ClassId) (dI : Nat → Nat → Nat) (cA : ClassId) (fu : Nat) (h_t h_t_seen h_t_rising h_t_sorted h_t_rows h_t_starts h_t_seen_bits : Nat) (f_t_builtSize : Int32) (f_t_all : Int32) (f_t_rising : Nat → Int32) (f_t_rows : Nat → Int32) (f_t_seen_bits : Nat → Int32) (f_t_sorted : Nat → Int32) (f_t_starts : Nat → Int32) (a1 : Int32) (r0 : Int32) (f_t_all_z : Int32) (f_t_builtSize_z : Int32) (f_t_rising_z : Nat → Int32) (f_t_rows_z : Nat → Int32) (f_t_seen_bits_z : Nat → Int32) (f_t_sorted_z : Nat → Int32) (f_t_starts_z : Nat → Int32) (hm : m_Forms_countAll fu f_t_all f_t_builtSize f_t_rising f_t_rows f_t_seen_bits f_t_sorted f_t_starts a1 = some (r0, f_t_all_z, f_t_builtSize_z, f_t_rising_z, f_t_rows_z, f_t_seen_bits_z, f_t_sorted_z, f_t_starts_z)) (sz : Nat) : Met l yX1_countAll wsX1_countAll rmX1_countAll (mPre (dC, dI) cA [.ref h_t, .int a1] sz [(h_t, .inr (1, [.int f_t_builtSize, .int f_t_all, .ref h_t_rising, .ref h_t_sorted, .ref h_t_rows, .ref h_t_starts, .ref h_t_seen])), (h_t_seen, .inr (5, [.ref h_t_seen_bits])), (h_t_rising, .inl (cA, 224, .inl f_t_rising)), (h_t_rows, .inl (cA, 224, .inl f_t_rows)), (h_t_seen_bits, .inl (cA, 128, .inl f_t_seen_bits)), (h_t_sorted, .inl (cA, 224, .inl f_t_sorted)), (h_t_starts, .inl (cA, 14, .inl f_t_starts))]) (mPosI (dC, dI) cA r0 (va_A [(h_t, .inr (1, [.int f_t_builtSize, .int f_t_all, .ref h_t_rising, .ref h_t_sorted, .ref h_t_rows, .ref h_t_starts, .ref h_t_seen])), (h_t_seen, .inr (5, [.ref h_t_seen_bits])), (h_t_rising, .inl (cA, 224, .inl f_t_rising)), (h_t_rows, .inl (cA, 224, .inl f_t_rows)), (h_t_seen_bits, .inl (cA, 128, .inl f_t_seen_bits)), (h_t_sorted, .inl (cA, 224, .inl f_t_sorted)), (h_t_starts, .inl (cA, 14, .inl f_t_starts))] sz) [(h_t, .inr (1, [.int f_t_builtSize_z, .int f_t_all_z, .ref h_t_rising, .ref h_t_sorted, .ref h_t_rows, .ref h_t_starts, .ref h_t_seen])), (h_t_seen, .inr (5, [.ref h_t_seen_bits])), (h_t_rising, .inl (cA, 224, .inl f_t_rising_z)), (h_t_rows, .inl (cA, 224, .inl f_t_rows_z)), (h_t_seen_bits, .inl (cA, 128, .inl f_t_seen_bits_z)), (h_t_sorted, .inl (cA, 224, .inl f_t_sorted_z)), (h_t_starts, .inl (cA, 14, .inl f_t_starts_z))]) 0 0 (va_A [(h_t, .inr (1, [.int f_t_builtSize, .int f_t_all, .ref h_t_rising, .ref h_t_sorted, .ref h_t_rows, .ref h_t_starts, .ref h_t_seen])), (h_t_seen, .inr (5, [.ref h_t_seen_bits])), (h_t_rising, .inl (cA, 224, .inl f_t_rising)), (h_t_rows, .inl (cA, 224, .inl f_t_rows)), (h_t_seen_bits, .inl (cA, 128, .inl f_t_seen_bits)), (h_t_sorted, .inl (cA, 224, .inl f_t_sorted)), (h_t_starts, .inl (cA, 14, .inl f_t_starts))] sz) := by
  refine Met.ofW (cc := cX1_countAll) (maxL := 2) (ret := (some .int)) (by decide) rfl ?_
  intro p e s m args below meth c s₁ B hml hv
  obtain ⟨rfl, hsz, hP, hK, hD0⟩ := hv
  refine W_gen (fun Q hQ => ?_)
  have hx := B.exec
  have hb := B.bytes
  have hr := B.returns
  have hts := atoms_spec (ws := wsX1_countAll) B.pre
  have hown : s.vm.findClass RX1 = some m.cls := findClass_of_methodNamed B.named
  have hlocks := B.notSynchronized
  subst hsz
  have hD := hD0.self (sz := s.heap.size)
  clear hD0
  generalize hAe : va_A [(h_t, .inr (1, [.int f_t_builtSize, .int f_t_all, .ref h_t_rising, .ref h_t_sorted, .ref h_t_rows, .ref h_t_starts, .ref h_t_seen])), (h_t_seen, .inr (5, [.ref h_t_seen_bits])), (h_t_rising, .inl (cA, 224, .inl f_t_rising)), (h_t_rows, .inl (cA, 224, .inl f_t_rows)), (h_t_seen_bits, .inl (cA, 128, .inl f_t_seen_bits)), (h_t_sorted, .inl (cA, 224, .inl f_t_sorted)), (h_t_starts, .inl (cA, 14, .inl f_t_starts))] s.heap.size = A at hD hQ
  have hA : ∀ q : Nat, s.heap.size ≤ q → A q := fun q h => by rw [← hAe]; exact Or.inr h
  clear hAe
  have hS : va_S A s.heap s.heap [] := va_S.rf
  have hl := lv_entry ([.ref h_t, .int a1]) (n := 2) (Nat.le_of_ble_eq_true rfl)
  rw [lg_entry_eq]
  generalize (lg_sl ([.ref h_t, .int a1]) ++ List.replicate (2 - (lg_sl ([.ref h_t, .int a1])).length) Slot.unset).toArray = ls at hl ⊢
  have hl : lv_has ls 2 [(0, .ref h_t), (1, .int a1)] := hl
  have k1 := hts (.fieldLink RX1 15 "ToneSets$Forms" "all" "I") (List.mem_of_getElem? (i := 1) rfl)
  have uX1 := uX1_X1_countAll
  unfold m_Forms_countAll at hm
  refine lv_aload_n hx hb dX1_countAll_0 rfl (lv_at hl 0 rfl) ?_
  refine lv_iload_n hx hb dX1_countAll_1 rfl (lv_at hl 1 rfl) ?_
  obtain ⟨f_t_all_1, f_t_builtSize_1, f_t_rising_1, f_t_rows_1, f_t_seen_bits_1, f_t_sorted_1, f_t_starts_1, hc2, hm⟩ := bd7_go hm
  refine my_cVv (As := [.int a1]) (rest := []) (WC := [(h_t, .inr (1, [.int f_t_builtSize, .int f_t_all, .ref h_t_rising, .ref h_t_sorted, .ref h_t_rows, .ref h_t_starts, .ref h_t_seen])), (h_t_seen, .inr (5, [.ref h_t_seen_bits])), (h_t_rising, .inl (cA, 224, .inl f_t_rising)), (h_t_rows, .inl (cA, 224, .inl f_t_rows)), (h_t_seen_bits, .inl (cA, 128, .inl f_t_seen_bits)), (h_t_sorted, .inl (cA, 224, .inl f_t_sorted)), (h_t_starts, .inl (cA, 14, .inl f_t_starts))]) (WC' := [(h_t, .inr (1, [.int f_t_builtSize_1, .int f_t_all_1, .ref h_t_rising, .ref h_t_sorted, .ref h_t_rows, .ref h_t_starts, .ref h_t_seen])), (h_t_seen, .inr (5, [.ref h_t_seen_bits])), (h_t_rising, .inl (cA, 224, .inl f_t_rising_1)), (h_t_rows, .inl (cA, 224, .inl f_t_rows_1)), (h_t_seen_bits, .inl (cA, 128, .inl f_t_seen_bits_1)), (h_t_sorted, .inl (cA, 224, .inl f_t_sorted_1)), (h_t_starts, .inl (cA, 14, .inl f_t_starts_1))]) (WR := []) (W' := [(h_t, .inr (1, [.int f_t_builtSize_1, .int f_t_all_1, .ref h_t_rising, .ref h_t_sorted, .ref h_t_rows, .ref h_t_starts, .ref h_t_seen])), (h_t_seen, .inr (5, [.ref h_t_seen_bits])), (h_t_rising, .inl (cA, 224, .inl f_t_rising_1)), (h_t_rows, .inl (cA, 224, .inl f_t_rows_1)), (h_t_seen_bits, .inl (cA, 128, .inl f_t_seen_bits_1)), (h_t_sorted, .inl (cA, 224, .inl f_t_sorted_1)), (h_t_starts, .inl (cA, 14, .inl f_t_starts_1))]) ⟨hx, hb, hml, hown, hts⟩ hK hP hD hS hA (c_Forms_build l dC dI cA fu h_t h_t_seen h_t_rising h_t_sorted h_t_rows h_t_starts h_t_seen_bits f_t_builtSize f_t_all f_t_rising f_t_rows f_t_seen_bits f_t_sorted f_t_starts a1 f_t_all_1 f_t_builtSize_1 f_t_rising_1 f_t_rows_1 f_t_seen_bits_1 f_t_sorted_1 f_t_starts_1 hc2) (cwV 1 hts gX1_countAll_X1_build rfl rfl rfl (by decide +kernel) ⟨Nat.le_of_ble_eq_true rfl, Nat.le_of_ble_eq_true rfl⟩) [0, 1, 2, 3, 4, 5, 6] [] [0, 1, 2, 3, 4, 5, 6] rfl rfl rfl rfl (ci := 1) (q0 := 0) rfl rfl rfl rfl hl.1 (Nat.le_of_ble_eq_true rfl) dX1_countAll_2 ⟨Nat.zero_le _, Nat.zero_le _⟩ (fun H locs hP hD hS => ?_)
  refine lv_aload_n hx hb dX1_countAll_5 rfl (lv_at hl 0 rfl) ?_
  refine va_get (D := (dC, dI)) (ci := 1) (v := .int f_t_all_1) (C := RX1) (T := TX1) (N := 7) hx hb hts uX1 hown hK hP 0 rfl rfl 1 (by decide) k1 (fun _ h9 => h9) rfl dX1_countAll_6 ?_
  cases hm
  exact W_mono hQ (W.iret hx hb hr (fun t ht hW => ⟨⟨_, (), rfl, rfl, by rw [ht]; exact hP, va_K.moved hW.alike hK, hD⟩, hS.F ht⟩) hS.2.2 dX1_countAll_9)
abbrev rmX1_countTwinsBehind : Room := { frames := 0, cells := 0, slots := 0, locals := 0 }
theorem uX1_X1_countTwinsBehind : ∀ w ∈ wsX10, w ∈ wsX1_countTwinsBehind := fun _ h => List.mem_cons_of_mem _ (List.mem_append_right _ (h))
set_option maxHeartbeats 40000000 in
set_option maxRecDepth 100000 in
theorem c_Forms_countTwinsBehind (l : Launch) (dC : Nat → ClassId) (dI : Nat → Nat → Nat) (cA : ClassId) (fu : Nat) (h_t h_t_rising h_t_sorted h_t_rows h_t_starts h_t_seen : Nat) (f_t_builtSize : Int32) (f_t_all : Int32) (f_t_rows : Nat → Int32) (a1 : Int32) (a2 : Int32) (r0 : Int32) (hm : m_Forms_countTwinsBehind fu f_t_rows a1 a2 = some r0) (sz : Nat) : Met l yX1_countTwinsBehind wsX1_countTwinsBehind rmX1_countTwinsBehind (mPre (dC, dI) cA [.ref h_t, .int a1, .int a2] sz [(h_t, .inr (1, [.int f_t_builtSize, .int f_t_all, .ref h_t_rising, .ref h_t_sorted, .ref h_t_rows, .ref h_t_starts, .ref h_t_seen])), (h_t_rows, .inl (cA, 224, .inl f_t_rows))]) (mPosI (dC, dI) cA r0 (va_A [(h_t, .inr (1, [.int f_t_builtSize, .int f_t_all, .ref h_t_rising, .ref h_t_sorted, .ref h_t_rows, .ref h_t_starts, .ref h_t_seen])), (h_t_rows, .inl (cA, 224, .inl f_t_rows))] sz) [(h_t, .inr (1, [.int f_t_builtSize, .int f_t_all, .ref h_t_rising, .ref h_t_sorted, .ref h_t_rows, .ref h_t_starts, .ref h_t_seen])), (h_t_rows, .inl (cA, 224, .inl f_t_rows))]) 0 0 (va_A [(h_t, .inr (1, [.int f_t_builtSize, .int f_t_all, .ref h_t_rising, .ref h_t_sorted, .ref h_t_rows, .ref h_t_starts, .ref h_t_seen])), (h_t_rows, .inl (cA, 224, .inl f_t_rows))] sz) := by
  refine Met.ofW (cc := cX1_countTwinsBehind) (maxL := 6) (ret := (some .int)) (by decide) rfl ?_
  intro p e s m args below meth c s₁ B hml hv
  obtain ⟨rfl, hsz, hP, hK, hD0⟩ := hv
  refine W_gen (fun Q hQ => ?_)
  have hx := B.exec
  have hb := B.bytes
  have hr := B.returns
  have hts := atoms_spec (ws := wsX1_countTwinsBehind) B.pre
  have hown : s.vm.findClass RX1 = some m.cls := findClass_of_methodNamed B.named
  have hlocks := B.notSynchronized
  subst hsz
  have hD := hD0.self (sz := s.heap.size)
  clear hD0
  generalize hAe : va_A [(h_t, .inr (1, [.int f_t_builtSize, .int f_t_all, .ref h_t_rising, .ref h_t_sorted, .ref h_t_rows, .ref h_t_starts, .ref h_t_seen])), (h_t_rows, .inl (cA, 224, .inl f_t_rows))] s.heap.size = A at hD hQ
  have hA : ∀ q : Nat, s.heap.size ≤ q → A q := fun q h => by rw [← hAe]; exact Or.inr h
  clear hAe
  have hS : va_S A s.heap s.heap [] := va_S.rf
  have hl := lv_entry ([.ref h_t, .int a1, .int a2]) (n := 6) (Nat.le_of_ble_eq_true rfl)
  rw [lg_entry_eq]
  generalize (lg_sl ([.ref h_t, .int a1, .int a2]) ++ List.replicate (6 - (lg_sl ([.ref h_t, .int a1, .int a2])).length) Slot.unset).toArray = ls at hl ⊢
  have hl : lv_has ls 6 [(0, .ref h_t), (1, .int a1), (2, .int a2)] := hl
  have k1 := hts (.fieldLink RX1 25 "ToneSets$Forms" "rows" "[I") (List.mem_of_getElem? (i := 1) rfl)
  have uX1 := uX1_X1_countTwinsBehind
  unfold m_Forms_countTwinsBehind at hm
  refine lv_aload_n hx hb dX1_countTwinsBehind_0 rfl (lv_at hl 0 rfl) ?_
  refine va_get (D := (dC, dI)) (ci := 1) (v := .ref h_t_rows) (C := RX1) (T := TX1) (N := 7) hx hb hts uX1 hown hK hP 0 rfl rfl 4 (by decide) k1 (fun _ h9 => h9) rfl dX1_countTwinsBehind_1 ?_
  refine lv_iload_n hx hb dX1_countTwinsBehind_4 rfl (lv_at hl 1 rfl) ?_
  obtain ⟨b5, hm⟩ := ck_go hm
  refine va_iald hx hb hK hP 1 0 rfl rfl b5 dX1_countTwinsBehind_5 ?_
  refine lv_topi (fun v3_1 ev3_1 => ?_)
  replace hm := lt_go ev3_1 hm
  refine lv_istore_n (lv' := [(3, .int v3_1), (0, .ref h_t), (1, .int a1), (2, .int a2)]) hx hb dX1_countTwinsBehind_6 rfl hl (by decide) rfl (fun ls hl => ?_)
  refine lv_iconst (v := 0) hx hb dX1_countTwinsBehind_7 (by decide) ?_
  refine lv_topi (fun v4_1 ev4_1 => ?_)
  replace hm := lt_go ev4_1 hm
  refine lv_istore (lv' := [(4, .int v4_1), (3, .int v3_1), (0, .ref h_t), (1, .int a1), (2, .int a2)]) hx hb dX1_countTwinsBehind_8 hl (by decide) rfl (fun ls hl => ?_)
  refine lv_iload_n hx hb dX1_countTwinsBehind_10 rfl (lv_at hl 3 rfl) ?_
  refine lv_iconst (v := 1) hx hb dX1_countTwinsBehind_11 (by decide) ?_
  refine lv_iadd hx hb dX1_countTwinsBehind_12 ?_
  refine lv_topi (fun v5_1 ev5_1 => ?_)
  replace hm := lt_go ev5_1 hm
  refine lv_istore (lv' := [(5, .int v5_1), (4, .int v4_1), (3, .int v3_1), (0, .ref h_t), (1, .int a1), (2, .int a2)]) hx hb dX1_countTwinsBehind_13 hl (by decide) rfl (fun ls hl => ?_)
  have L15 : ∀ (n : Nat) (v4_2 : Int32) (v5_2 : Int32) (v4_3 : Int32), m_Forms_countTwinsBehind_L15 a2 f_t_rows v3_1 n v4_2 v5_2 = some v4_3 → ∀ (H : Heap) (locs : List Loc), va_P (dC, dI) vwCl [(h_t, .inr (1, [.int f_t_builtSize, .int f_t_all, .ref h_t_rising, .ref h_t_sorted, .ref h_t_rows, .ref h_t_starts, .ref h_t_seen])), (h_t_rows, .inl (cA, 224, .inl f_t_rows))] H → va_D A [(h_t, .inr (1, [.int f_t_builtSize, .int f_t_all, .ref h_t_rising, .ref h_t_sorted, .ref h_t_rows, .ref h_t_starts, .ref h_t_seen])), (h_t_rows, .inl (cA, 224, .inl f_t_rows))] → va_S A s.heap H locs → ∀ ls : Array Slot, lv_has ls 6 [(0, .ref h_t), (2, .int a2), (3, .int v3_1), (4, .int v4_2), (5, .int v5_2)] → (∀ (H : Heap) (locs : List Loc), va_P (dC, dI) vwCl [(h_t, .inr (1, [.int f_t_builtSize, .int f_t_all, .ref h_t_rising, .ref h_t_sorted, .ref h_t_rows, .ref h_t_starts, .ref h_t_seen])), (h_t_rows, .inl (cA, 224, .inl f_t_rows))] H → va_D A [(h_t, .inr (1, [.int f_t_builtSize, .int f_t_all, .ref h_t_rising, .ref h_t_sorted, .ref h_t_rows, .ref h_t_starts, .ref h_t_seen])), (h_t_rows, .inl (cA, 224, .inl f_t_rows))] → va_S A s.heap H locs → ∀ ls : Array Slot, lv_has ls 6 [(4, .int v4_3)] → W p l e (headSpec wsX1_countTwinsBehind rmX1_countTwinsBehind).room s m (([.ref h_t, .int a1, .int a2] : List Value).toArray) below meth c H locs 0 0 Q (F0 m 41 ls [])) → W p l e (headSpec wsX1_countTwinsBehind rmX1_countTwinsBehind).room s m (([.ref h_t, .int a1, .int a2] : List Value).toArray) below meth c H locs 0 0 Q (F0 m 15 ls []) := by
    clear hm hP hD hS hl
    intro n
    induction n with
    | zero => intro _ _ _ hm; exact nomatch (show none = some _ from hm)
    | succ n ih =>
      intro v4_2 v5_2 v4_3 hm H locs hP hD hS ls hl KK
      unfold m_Forms_countTwinsBehind_L15 at hm
      refine lv_iload hx hb dX1_countTwinsBehind_15 (lv_at hl 4 rfl) ?_
      refine lv_iload_n hx hb dX1_countTwinsBehind_17 rfl (lv_at hl 1 rfl) ?_
      refine lv_icmp_ge (tgt := 41) hx hb dX1_countTwinsBehind_18 (by decide) (fun c18 => ?_) (fun c18 => ?_)
      · replace hm := if_t c18 hm
        cases hm
        exact KK _ _ hP hD hS _ (lv_sub hl [3] rfl)
      · replace hm := if_f c18 hm
        refine lv_aload_n hx hb dX1_countTwinsBehind_21 rfl (lv_at hl 0 rfl) ?_
        refine va_get (D := (dC, dI)) (ci := 1) (v := .ref h_t_rows) (C := RX1) (T := TX1) (N := 7) hx hb hts uX1 hown hK hP 0 rfl rfl 4 (by decide) k1 (fun _ h9 => h9) rfl dX1_countTwinsBehind_22 ?_
        refine lv_iload hx hb dX1_countTwinsBehind_25 (lv_at hl 4 rfl) ?_
        obtain ⟨b27, hm⟩ := ck_go hm
        refine va_iald hx hb hK hP 1 0 rfl rfl b27 dX1_countTwinsBehind_27 ?_
        refine lv_iload_n hx hb dX1_countTwinsBehind_28 rfl (lv_at hl 2 rfl) ?_
        obtain ⟨v4_4, hqJ_1, hm⟩ := bd1_go hm
        have J_1 : ∀ (H : Heap) (locs : List Loc), va_P (dC, dI) vwCl [(h_t, .inr (1, [.int f_t_builtSize, .int f_t_all, .ref h_t_rising, .ref h_t_sorted, .ref h_t_rows, .ref h_t_starts, .ref h_t_seen])), (h_t_rows, .inl (cA, 224, .inl f_t_rows))] H → va_D A [(h_t, .inr (1, [.int f_t_builtSize, .int f_t_all, .ref h_t_rising, .ref h_t_sorted, .ref h_t_rows, .ref h_t_starts, .ref h_t_seen])), (h_t_rows, .inl (cA, 224, .inl f_t_rows))] → va_S A s.heap H locs → ∀ ls : Array Slot, lv_has ls 6 [(0, .ref h_t), (2, .int a2), (3, .int v3_1), (4, .int v4_4), (5, .int v5_2)] → W p l e (headSpec wsX1_countTwinsBehind rmX1_countTwinsBehind).room s m (([.ref h_t, .int a1, .int a2] : List Value).toArray) below meth c H locs 0 0 Q (F0 m 35 ls []) := by
          intro H locs hP hD hS ls hl
          clear hqJ_1
          obtain ⟨v5_3, ev5_3⟩ : ∃ z : Int32, z = v5_2 + 1 := ⟨_, rfl⟩
          replace hm := lt_go ev5_3 hm
          refine lv_iinc (v := v5_3) (lv' := [(5, .int v5_3), (0, .ref h_t), (2, .int a2), (3, .int v3_1), (4, .int v4_4)]) hx hb dX1_countTwinsBehind_35 hl (k := 4) rfl (by rw [ev5_3]; rfl) (by decide) rfl (fun ls hl => ?_)
          refine lv_goto (tgt := 15) hx hb dX1_countTwinsBehind_38 (by decide) ?_
          exact ih _ _ _ hm _ _ hP hD hS _ (lv_sub hl [1, 2, 3, 4, 0] rfl) KK
        clear hm
        refine lv_icmp_ne (tgt := 35) hx hb dX1_countTwinsBehind_29 (by decide) (fun c29 => ?_) (fun c29 => ?_)
        · replace hqJ_1 := if_f c29 hqJ_1
          cases hqJ_1
          exact J_1 _ _ hP hD hS _ (lv_sub hl [0, 1, 2, 3, 4] rfl)
        · replace hqJ_1 := if_t c29 hqJ_1
          obtain ⟨v4_5, ev4_5⟩ : ∃ z : Int32, z = v4_2 + 1 := ⟨_, rfl⟩
          replace hqJ_1 := lt_go ev4_5 hqJ_1
          refine lv_iinc (v := v4_5) (lv' := [(4, .int v4_5), (0, .ref h_t), (2, .int a2), (3, .int v3_1), (5, .int v5_2)]) hx hb dX1_countTwinsBehind_32 hl (k := 3) rfl (by rw [ev4_5]; rfl) (by decide) rfl (fun ls hl => ?_)
          cases hqJ_1
          exact J_1 _ _ hP hD hS _ (lv_sub hl [1, 2, 3, 0, 4] rfl)
  obtain ⟨v4_6, hl15, hm⟩ := bd1_go hm
  refine L15 _ _ _ _ hl15 _ _ hP hD hS _ (lv_sub hl [3, 5, 2, 1, 0] rfl) (fun H locs hP hD hS ls hl => ?_)
  refine lv_iload hx hb dX1_countTwinsBehind_41 (lv_at hl 0 rfl) ?_
  cases hm
  exact W_mono hQ (W.iret hx hb hr (fun t ht hW => ⟨⟨_, (), rfl, rfl, by rw [ht]; exact hP, va_K.moved hW.alike hK, hD⟩, hS.F ht⟩) hS.2.2 dX1_countTwinsBehind_43)
abbrev rmX1_countTwinPairs : Room := { frames := 6, cells := 0, slots := 0, locals := 133 }
set_option maxHeartbeats 40000000 in
set_option maxRecDepth 100000 in
theorem c_Forms_countTwinPairs (l : Launch) (dC : Nat → ClassId) (dI : Nat → Nat → Nat) (cA : ClassId) (fu : Nat) (h_t h_t_seen h_t_rising h_t_sorted h_t_rows h_t_starts h_t_seen_bits : Nat) (f_t_builtSize : Int32) (f_t_all : Int32) (f_t_rising : Nat → Int32) (f_t_rows : Nat → Int32) (f_t_seen_bits : Nat → Int32) (f_t_sorted : Nat → Int32) (f_t_starts : Nat → Int32) (a1 : Int32) (r0 : Int32) (f_t_all_z : Int32) (f_t_builtSize_z : Int32) (f_t_rising_z : Nat → Int32) (f_t_rows_z : Nat → Int32) (f_t_seen_bits_z : Nat → Int32) (f_t_sorted_z : Nat → Int32) (f_t_starts_z : Nat → Int32) (hm : m_Forms_countTwinPairs fu f_t_all f_t_builtSize f_t_rising f_t_rows f_t_seen_bits f_t_sorted f_t_starts a1 = some (r0, f_t_all_z, f_t_builtSize_z, f_t_rising_z, f_t_rows_z, f_t_seen_bits_z, f_t_sorted_z, f_t_starts_z)) (sz : Nat) : Met l yX1_countTwinPairs wsX1_countTwinPairs rmX1_countTwinPairs (mPre (dC, dI) cA [.ref h_t, .int a1] sz [(h_t, .inr (1, [.int f_t_builtSize, .int f_t_all, .ref h_t_rising, .ref h_t_sorted, .ref h_t_rows, .ref h_t_starts, .ref h_t_seen])), (h_t_seen, .inr (5, [.ref h_t_seen_bits])), (h_t_rising, .inl (cA, 224, .inl f_t_rising)), (h_t_rows, .inl (cA, 224, .inl f_t_rows)), (h_t_seen_bits, .inl (cA, 128, .inl f_t_seen_bits)), (h_t_sorted, .inl (cA, 224, .inl f_t_sorted)), (h_t_starts, .inl (cA, 14, .inl f_t_starts))]) (mPosI (dC, dI) cA r0 (va_A [(h_t, .inr (1, [.int f_t_builtSize, .int f_t_all, .ref h_t_rising, .ref h_t_sorted, .ref h_t_rows, .ref h_t_starts, .ref h_t_seen])), (h_t_seen, .inr (5, [.ref h_t_seen_bits])), (h_t_rising, .inl (cA, 224, .inl f_t_rising)), (h_t_rows, .inl (cA, 224, .inl f_t_rows)), (h_t_seen_bits, .inl (cA, 128, .inl f_t_seen_bits)), (h_t_sorted, .inl (cA, 224, .inl f_t_sorted)), (h_t_starts, .inl (cA, 14, .inl f_t_starts))] sz) [(h_t, .inr (1, [.int f_t_builtSize_z, .int f_t_all_z, .ref h_t_rising, .ref h_t_sorted, .ref h_t_rows, .ref h_t_starts, .ref h_t_seen])), (h_t_seen, .inr (5, [.ref h_t_seen_bits])), (h_t_rising, .inl (cA, 224, .inl f_t_rising_z)), (h_t_rows, .inl (cA, 224, .inl f_t_rows_z)), (h_t_seen_bits, .inl (cA, 128, .inl f_t_seen_bits_z)), (h_t_sorted, .inl (cA, 224, .inl f_t_sorted_z)), (h_t_starts, .inl (cA, 14, .inl f_t_starts_z))]) 0 0 (va_A [(h_t, .inr (1, [.int f_t_builtSize, .int f_t_all, .ref h_t_rising, .ref h_t_sorted, .ref h_t_rows, .ref h_t_starts, .ref h_t_seen])), (h_t_seen, .inr (5, [.ref h_t_seen_bits])), (h_t_rising, .inl (cA, 224, .inl f_t_rising)), (h_t_rows, .inl (cA, 224, .inl f_t_rows)), (h_t_seen_bits, .inl (cA, 128, .inl f_t_seen_bits)), (h_t_sorted, .inl (cA, 224, .inl f_t_sorted)), (h_t_starts, .inl (cA, 14, .inl f_t_starts))] sz) := by
  refine Met.ofW (cc := cX1_countTwinPairs) (maxL := 5) (ret := (some .int)) (by decide) rfl ?_
  intro p e s m args below meth c s₁ B hml hv
  obtain ⟨rfl, hsz, hP, hK, hD0⟩ := hv
  refine W_gen (fun Q hQ => ?_)
  have hx := B.exec
  have hb := B.bytes
  have hr := B.returns
  have hts := atoms_spec (ws := wsX1_countTwinPairs) B.pre
  have hown : s.vm.findClass RX1 = some m.cls := findClass_of_methodNamed B.named
  have hlocks := B.notSynchronized
  subst hsz
  have hD := hD0.self (sz := s.heap.size)
  clear hD0
  generalize hAe : va_A [(h_t, .inr (1, [.int f_t_builtSize, .int f_t_all, .ref h_t_rising, .ref h_t_sorted, .ref h_t_rows, .ref h_t_starts, .ref h_t_seen])), (h_t_seen, .inr (5, [.ref h_t_seen_bits])), (h_t_rising, .inl (cA, 224, .inl f_t_rising)), (h_t_rows, .inl (cA, 224, .inl f_t_rows)), (h_t_seen_bits, .inl (cA, 128, .inl f_t_seen_bits)), (h_t_sorted, .inl (cA, 224, .inl f_t_sorted)), (h_t_starts, .inl (cA, 14, .inl f_t_starts))] s.heap.size = A at hD hQ
  have hA : ∀ q : Nat, s.heap.size ≤ q → A q := fun q h => by rw [← hAe]; exact Or.inr h
  clear hAe
  have hS : va_S A s.heap s.heap [] := va_S.rf
  have hl := lv_entry ([.ref h_t, .int a1]) (n := 5) (Nat.le_of_ble_eq_true rfl)
  rw [lg_entry_eq]
  generalize (lg_sl ([.ref h_t, .int a1]) ++ List.replicate (5 - (lg_sl ([.ref h_t, .int a1])).length) Slot.unset).toArray = ls at hl ⊢
  have hl : lv_has ls 5 [(0, .ref h_t), (1, .int a1)] := hl
  unfold m_Forms_countTwinPairs at hm
  refine lv_aload_n hx hb dX1_countTwinPairs_0 rfl (lv_at hl 0 rfl) ?_
  refine lv_iload_n hx hb dX1_countTwinPairs_1 rfl (lv_at hl 1 rfl) ?_
  obtain ⟨f_t_all_1, f_t_builtSize_1, f_t_rising_1, f_t_rows_1, f_t_seen_bits_1, f_t_sorted_1, f_t_starts_1, hc2, hm⟩ := bd7_go hm
  refine my_cVv (As := [.int a1]) (rest := []) (WC := [(h_t, .inr (1, [.int f_t_builtSize, .int f_t_all, .ref h_t_rising, .ref h_t_sorted, .ref h_t_rows, .ref h_t_starts, .ref h_t_seen])), (h_t_seen, .inr (5, [.ref h_t_seen_bits])), (h_t_rising, .inl (cA, 224, .inl f_t_rising)), (h_t_rows, .inl (cA, 224, .inl f_t_rows)), (h_t_seen_bits, .inl (cA, 128, .inl f_t_seen_bits)), (h_t_sorted, .inl (cA, 224, .inl f_t_sorted)), (h_t_starts, .inl (cA, 14, .inl f_t_starts))]) (WC' := [(h_t, .inr (1, [.int f_t_builtSize_1, .int f_t_all_1, .ref h_t_rising, .ref h_t_sorted, .ref h_t_rows, .ref h_t_starts, .ref h_t_seen])), (h_t_seen, .inr (5, [.ref h_t_seen_bits])), (h_t_rising, .inl (cA, 224, .inl f_t_rising_1)), (h_t_rows, .inl (cA, 224, .inl f_t_rows_1)), (h_t_seen_bits, .inl (cA, 128, .inl f_t_seen_bits_1)), (h_t_sorted, .inl (cA, 224, .inl f_t_sorted_1)), (h_t_starts, .inl (cA, 14, .inl f_t_starts_1))]) (WR := []) (W' := [(h_t, .inr (1, [.int f_t_builtSize_1, .int f_t_all_1, .ref h_t_rising, .ref h_t_sorted, .ref h_t_rows, .ref h_t_starts, .ref h_t_seen])), (h_t_seen, .inr (5, [.ref h_t_seen_bits])), (h_t_rising, .inl (cA, 224, .inl f_t_rising_1)), (h_t_rows, .inl (cA, 224, .inl f_t_rows_1)), (h_t_seen_bits, .inl (cA, 128, .inl f_t_seen_bits_1)), (h_t_sorted, .inl (cA, 224, .inl f_t_sorted_1)), (h_t_starts, .inl (cA, 14, .inl f_t_starts_1))]) ⟨hx, hb, hml, hown, hts⟩ hK hP hD hS hA (c_Forms_build l dC dI cA fu h_t h_t_seen h_t_rising h_t_sorted h_t_rows h_t_starts h_t_seen_bits f_t_builtSize f_t_all f_t_rising f_t_rows f_t_seen_bits f_t_sorted f_t_starts a1 f_t_all_1 f_t_builtSize_1 f_t_rising_1 f_t_rows_1 f_t_seen_bits_1 f_t_sorted_1 f_t_starts_1 hc2) (cwV 1 hts gX1_countTwinPairs_X1_build rfl rfl rfl (by decide +kernel) ⟨Nat.le_of_ble_eq_true rfl, Nat.le_of_ble_eq_true rfl⟩) [0, 1, 2, 3, 4, 5, 6] [] [0, 1, 2, 3, 4, 5, 6] rfl rfl rfl rfl (ci := 1) (q0 := 0) rfl rfl rfl rfl hl.1 (Nat.le_of_ble_eq_true rfl) dX1_countTwinPairs_2 ⟨Nat.zero_le _, Nat.zero_le _⟩ (fun H locs hP hD hS => ?_)
  refine lv_iconst (v := 0) hx hb dX1_countTwinPairs_5 (by decide) ?_
  refine lv_topi (fun v2_1 ev2_1 => ?_)
  replace hm := lt_go ev2_1 hm
  refine lv_istore_n (lv' := [(2, .int v2_1), (0, .ref h_t), (1, .int a1)]) hx hb dX1_countTwinPairs_6 rfl hl (by decide) rfl (fun ls hl => ?_)
  refine lv_iconst (v := 0) hx hb dX1_countTwinPairs_7 (by decide) ?_
  refine lv_topi (fun v3_1 ev3_1 => ?_)
  replace hm := lt_go ev3_1 hm
  refine lv_istore_n (lv' := [(3, .int v3_1), (2, .int v2_1), (0, .ref h_t), (1, .int a1)]) hx hb dX1_countTwinPairs_8 rfl hl (by decide) rfl (fun ls hl => ?_)
  have L9 : ∀ (n : Nat) (v2_2 : Int32) (v3_2 : Int32) (v2_3 : Int32), m_Forms_countTwinPairs_L9 fu a1 f_t_starts_1 f_t_rows_1 n v2_2 v3_2 = some v2_3 → ∀ (H : Heap) (locs : List Loc), va_P (dC, dI) vwCl [(h_t, .inr (1, [.int f_t_builtSize_1, .int f_t_all_1, .ref h_t_rising, .ref h_t_sorted, .ref h_t_rows, .ref h_t_starts, .ref h_t_seen])), (h_t_seen, .inr (5, [.ref h_t_seen_bits])), (h_t_rising, .inl (cA, 224, .inl f_t_rising_1)), (h_t_rows, .inl (cA, 224, .inl f_t_rows_1)), (h_t_seen_bits, .inl (cA, 128, .inl f_t_seen_bits_1)), (h_t_sorted, .inl (cA, 224, .inl f_t_sorted_1)), (h_t_starts, .inl (cA, 14, .inl f_t_starts_1))] H → va_D A [(h_t, .inr (1, [.int f_t_builtSize_1, .int f_t_all_1, .ref h_t_rising, .ref h_t_sorted, .ref h_t_rows, .ref h_t_starts, .ref h_t_seen])), (h_t_seen, .inr (5, [.ref h_t_seen_bits])), (h_t_rising, .inl (cA, 224, .inl f_t_rising_1)), (h_t_rows, .inl (cA, 224, .inl f_t_rows_1)), (h_t_seen_bits, .inl (cA, 128, .inl f_t_seen_bits_1)), (h_t_sorted, .inl (cA, 224, .inl f_t_sorted_1)), (h_t_starts, .inl (cA, 14, .inl f_t_starts_1))] → va_S A s.heap H locs → ∀ ls : Array Slot, lv_has ls 5 [(0, .ref h_t), (1, .int a1), (2, .int v2_2), (3, .int v3_2)] → (∀ (H : Heap) (locs : List Loc), va_P (dC, dI) vwCl [(h_t, .inr (1, [.int f_t_builtSize_1, .int f_t_all_1, .ref h_t_rising, .ref h_t_sorted, .ref h_t_rows, .ref h_t_starts, .ref h_t_seen])), (h_t_seen, .inr (5, [.ref h_t_seen_bits])), (h_t_rising, .inl (cA, 224, .inl f_t_rising_1)), (h_t_rows, .inl (cA, 224, .inl f_t_rows_1)), (h_t_seen_bits, .inl (cA, 128, .inl f_t_seen_bits_1)), (h_t_sorted, .inl (cA, 224, .inl f_t_sorted_1)), (h_t_starts, .inl (cA, 14, .inl f_t_starts_1))] H → va_D A [(h_t, .inr (1, [.int f_t_builtSize_1, .int f_t_all_1, .ref h_t_rising, .ref h_t_sorted, .ref h_t_rows, .ref h_t_starts, .ref h_t_seen])), (h_t_seen, .inr (5, [.ref h_t_seen_bits])), (h_t_rising, .inl (cA, 224, .inl f_t_rising_1)), (h_t_rows, .inl (cA, 224, .inl f_t_rows_1)), (h_t_seen_bits, .inl (cA, 128, .inl f_t_seen_bits_1)), (h_t_sorted, .inl (cA, 224, .inl f_t_sorted_1)), (h_t_starts, .inl (cA, 14, .inl f_t_starts_1))] → va_S A s.heap H locs → ∀ ls : Array Slot, lv_has ls 5 [(2, .int v2_3)] → W p l e (headSpec wsX1_countTwinPairs rmX1_countTwinPairs).room s m (([.ref h_t, .int a1] : List Value).toArray) below meth c H locs 0 0 Q (F0 m 57 ls [])) → W p l e (headSpec wsX1_countTwinPairs rmX1_countTwinPairs).room s m (([.ref h_t, .int a1] : List Value).toArray) below meth c H locs 0 0 Q (F0 m 9 ls []) := by
    clear hm hP hD hS hl
    intro n
    induction n with
    | zero => intro _ _ _ hm; exact nomatch (show none = some _ from hm)
    | succ n ih =>
      intro v2_2 v3_2 v2_3 hm H locs hP hD hS ls hl KK
      unfold m_Forms_countTwinPairs_L9 at hm
      refine lv_iload_n hx hb dX1_countTwinPairs_9 rfl (lv_at hl 3 rfl) ?_
      refine lv_iload_n hx hb dX1_countTwinPairs_10 rfl (lv_at hl 1 rfl) ?_
      refine lv_icmp_gt (tgt := 57) hx hb dX1_countTwinPairs_11 (by decide) (fun c11 => ?_) (fun c11 => ?_)
      · replace hm := if_t c11 hm
        cases hm
        exact KK _ _ hP hD hS _ (lv_sub hl [2] rfl)
      · replace hm := if_f c11 hm
        refine lv_aload_n hx hb dX1_countTwinPairs_14 rfl (lv_at hl 0 rfl) ?_
        refine lv_iload_n hx hb dX1_countTwinPairs_15 rfl (lv_at hl 3 rfl) ?_
        obtain ⟨r_1, hc16, hm⟩ := bd1_go hm
        refine my_cVi (As := [.int v3_2]) (rest := []) (WC := [(h_t, .inr (1, [.int f_t_builtSize_1, .int f_t_all_1, .ref h_t_rising, .ref h_t_sorted, .ref h_t_rows, .ref h_t_starts, .ref h_t_seen])), (h_t_starts, .inl (cA, 14, .inl f_t_starts_1))]) (WC' := [(h_t, .inr (1, [.int f_t_builtSize_1, .int f_t_all_1, .ref h_t_rising, .ref h_t_sorted, .ref h_t_rows, .ref h_t_starts, .ref h_t_seen])), (h_t_starts, .inl (cA, 14, .inl f_t_starts_1))]) (WR := [(h_t_seen, .inr (5, [.ref h_t_seen_bits])), (h_t_rising, .inl (cA, 224, .inl f_t_rising_1)), (h_t_rows, .inl (cA, 224, .inl f_t_rows_1)), (h_t_seen_bits, .inl (cA, 128, .inl f_t_seen_bits_1)), (h_t_sorted, .inl (cA, 224, .inl f_t_sorted_1))]) (W' := [(h_t, .inr (1, [.int f_t_builtSize_1, .int f_t_all_1, .ref h_t_rising, .ref h_t_sorted, .ref h_t_rows, .ref h_t_starts, .ref h_t_seen])), (h_t_seen, .inr (5, [.ref h_t_seen_bits])), (h_t_rising, .inl (cA, 224, .inl f_t_rising_1)), (h_t_rows, .inl (cA, 224, .inl f_t_rows_1)), (h_t_seen_bits, .inl (cA, 128, .inl f_t_seen_bits_1)), (h_t_sorted, .inl (cA, 224, .inl f_t_sorted_1)), (h_t_starts, .inl (cA, 14, .inl f_t_starts_1))]) ⟨hx, hb, hml, hown, hts⟩ hK hP hD hS hA (c_Forms_start l dC dI cA h_t h_t_rising h_t_sorted h_t_rows h_t_starts h_t_seen f_t_builtSize_1 f_t_all_1 f_t_starts_1 v3_2 r_1 hc16) (cwV 1 hts gX1_countTwinPairs_X1_start rfl rfl rfl (by decide +kernel) ⟨Nat.le_of_ble_eq_true rfl, Nat.le_of_ble_eq_true rfl⟩) [0, 6] [1, 2, 3, 4, 5] [5, 0, 1, 2, 3, 4, 6] rfl rfl rfl rfl (ci := 1) (q0 := 0) rfl rfl rfl rfl hl.1 (Nat.le_of_ble_eq_true rfl) dX1_countTwinPairs_16 ⟨Nat.zero_le _, Nat.zero_le _⟩ (fun H locs hP hD hS => ?_)
        refine lv_topi (fun v4_1 ev4_1 => ?_)
        replace hm := lt_go ev4_1 hm
        refine lv_istore (lv' := [(4, .int v4_1), (0, .ref h_t), (1, .int a1), (2, .int v2_2), (3, .int v3_2)]) hx hb dX1_countTwinPairs_19 hl (by decide) rfl (fun ls hl => ?_)
        have L21 : ∀ (n : Nat) (v2_4 : Int32) (v4_2 : Int32) (v2_5 : Int32), m_Forms_countTwinPairs_L21 fu f_t_starts_1 v3_2 f_t_rows_1 n v2_4 v4_2 = some v2_5 → ∀ (H : Heap) (locs : List Loc), va_P (dC, dI) vwCl [(h_t, .inr (1, [.int f_t_builtSize_1, .int f_t_all_1, .ref h_t_rising, .ref h_t_sorted, .ref h_t_rows, .ref h_t_starts, .ref h_t_seen])), (h_t_seen, .inr (5, [.ref h_t_seen_bits])), (h_t_rising, .inl (cA, 224, .inl f_t_rising_1)), (h_t_rows, .inl (cA, 224, .inl f_t_rows_1)), (h_t_seen_bits, .inl (cA, 128, .inl f_t_seen_bits_1)), (h_t_sorted, .inl (cA, 224, .inl f_t_sorted_1)), (h_t_starts, .inl (cA, 14, .inl f_t_starts_1))] H → va_D A [(h_t, .inr (1, [.int f_t_builtSize_1, .int f_t_all_1, .ref h_t_rising, .ref h_t_sorted, .ref h_t_rows, .ref h_t_starts, .ref h_t_seen])), (h_t_seen, .inr (5, [.ref h_t_seen_bits])), (h_t_rising, .inl (cA, 224, .inl f_t_rising_1)), (h_t_rows, .inl (cA, 224, .inl f_t_rows_1)), (h_t_seen_bits, .inl (cA, 128, .inl f_t_seen_bits_1)), (h_t_sorted, .inl (cA, 224, .inl f_t_sorted_1)), (h_t_starts, .inl (cA, 14, .inl f_t_starts_1))] → va_S A s.heap H locs → ∀ ls : Array Slot, lv_has ls 5 [(0, .ref h_t), (1, .int a1), (2, .int v2_4), (3, .int v3_2), (4, .int v4_2)] → (∀ (H : Heap) (locs : List Loc), va_P (dC, dI) vwCl [(h_t, .inr (1, [.int f_t_builtSize_1, .int f_t_all_1, .ref h_t_rising, .ref h_t_sorted, .ref h_t_rows, .ref h_t_starts, .ref h_t_seen])), (h_t_seen, .inr (5, [.ref h_t_seen_bits])), (h_t_rising, .inl (cA, 224, .inl f_t_rising_1)), (h_t_rows, .inl (cA, 224, .inl f_t_rows_1)), (h_t_seen_bits, .inl (cA, 128, .inl f_t_seen_bits_1)), (h_t_sorted, .inl (cA, 224, .inl f_t_sorted_1)), (h_t_starts, .inl (cA, 14, .inl f_t_starts_1))] H → va_D A [(h_t, .inr (1, [.int f_t_builtSize_1, .int f_t_all_1, .ref h_t_rising, .ref h_t_sorted, .ref h_t_rows, .ref h_t_starts, .ref h_t_seen])), (h_t_seen, .inr (5, [.ref h_t_seen_bits])), (h_t_rising, .inl (cA, 224, .inl f_t_rising_1)), (h_t_rows, .inl (cA, 224, .inl f_t_rows_1)), (h_t_seen_bits, .inl (cA, 128, .inl f_t_seen_bits_1)), (h_t_sorted, .inl (cA, 224, .inl f_t_sorted_1)), (h_t_starts, .inl (cA, 14, .inl f_t_starts_1))] → va_S A s.heap H locs → ∀ ls : Array Slot, lv_has ls 5 [(0, .ref h_t), (1, .int a1), (2, .int v2_5), (3, .int v3_2)] → W p l e (headSpec wsX1_countTwinPairs rmX1_countTwinPairs).room s m (([.ref h_t, .int a1] : List Value).toArray) below meth c H locs 0 0 Q (F0 m 51 ls [])) → W p l e (headSpec wsX1_countTwinPairs rmX1_countTwinPairs).room s m (([.ref h_t, .int a1] : List Value).toArray) below meth c H locs 0 0 Q (F0 m 21 ls []) := by
          clear hm hP hD hS hl
          intro n
          induction n with
          | zero => intro _ _ _ hm; exact nomatch (show none = some _ from hm)
          | succ n ih =>
            intro v2_4 v4_2 v2_5 hm H locs hP hD hS ls hl KK
            unfold m_Forms_countTwinPairs_L21 at hm
            refine lv_iload hx hb dX1_countTwinPairs_21 (lv_at hl 4 rfl) ?_
            refine lv_aload_n hx hb dX1_countTwinPairs_23 rfl (lv_at hl 0 rfl) ?_
            refine lv_iload_n hx hb dX1_countTwinPairs_24 rfl (lv_at hl 3 rfl) ?_
            obtain ⟨r_2, hc25, hm⟩ := bd1_go hm
            refine my_cVi (As := [.int v3_2]) (rest := [.int v4_2]) (WC := [(h_t, .inr (1, [.int f_t_builtSize_1, .int f_t_all_1, .ref h_t_rising, .ref h_t_sorted, .ref h_t_rows, .ref h_t_starts, .ref h_t_seen])), (h_t_starts, .inl (cA, 14, .inl f_t_starts_1))]) (WC' := [(h_t, .inr (1, [.int f_t_builtSize_1, .int f_t_all_1, .ref h_t_rising, .ref h_t_sorted, .ref h_t_rows, .ref h_t_starts, .ref h_t_seen])), (h_t_starts, .inl (cA, 14, .inl f_t_starts_1))]) (WR := [(h_t_seen, .inr (5, [.ref h_t_seen_bits])), (h_t_rising, .inl (cA, 224, .inl f_t_rising_1)), (h_t_rows, .inl (cA, 224, .inl f_t_rows_1)), (h_t_seen_bits, .inl (cA, 128, .inl f_t_seen_bits_1)), (h_t_sorted, .inl (cA, 224, .inl f_t_sorted_1))]) (W' := [(h_t, .inr (1, [.int f_t_builtSize_1, .int f_t_all_1, .ref h_t_rising, .ref h_t_sorted, .ref h_t_rows, .ref h_t_starts, .ref h_t_seen])), (h_t_seen, .inr (5, [.ref h_t_seen_bits])), (h_t_rising, .inl (cA, 224, .inl f_t_rising_1)), (h_t_rows, .inl (cA, 224, .inl f_t_rows_1)), (h_t_seen_bits, .inl (cA, 128, .inl f_t_seen_bits_1)), (h_t_sorted, .inl (cA, 224, .inl f_t_sorted_1)), (h_t_starts, .inl (cA, 14, .inl f_t_starts_1))]) ⟨hx, hb, hml, hown, hts⟩ hK hP hD hS hA (c_Forms_end l dC dI cA h_t h_t_rising h_t_sorted h_t_rows h_t_starts h_t_seen f_t_builtSize_1 f_t_all_1 f_t_starts_1 v3_2 r_2 hc25) (cwV 1 hts gX1_countTwinPairs_X1_end rfl rfl rfl (by decide +kernel) ⟨Nat.le_of_ble_eq_true rfl, Nat.le_of_ble_eq_true rfl⟩) [0, 6] [1, 2, 3, 4, 5] [5, 0, 1, 2, 3, 4, 6] rfl rfl rfl rfl (ci := 1) (q0 := 0) rfl rfl rfl rfl hl.1 (Nat.le_of_ble_eq_true rfl) dX1_countTwinPairs_25 ⟨Nat.zero_le _, Nat.zero_le _⟩ (fun H locs hP hD hS => ?_)
            refine lv_icmp_ge (tgt := 51) hx hb dX1_countTwinPairs_28 (by decide) (fun c28 => ?_) (fun c28 => ?_)
            · replace hm := if_t c28 hm
              cases hm
              exact KK _ _ hP hD hS _ (lv_sub hl [0, 1, 2, 3] rfl)
            · replace hm := if_f c28 hm
              refine lv_iload_n hx hb dX1_countTwinPairs_31 rfl (lv_at hl 2 rfl) ?_
              refine lv_aload_n hx hb dX1_countTwinPairs_32 rfl (lv_at hl 0 rfl) ?_
              refine lv_iload hx hb dX1_countTwinPairs_33 (lv_at hl 4 rfl) ?_
              refine lv_aload_n hx hb dX1_countTwinPairs_35 rfl (lv_at hl 0 rfl) ?_
              refine lv_iload_n hx hb dX1_countTwinPairs_36 rfl (lv_at hl 3 rfl) ?_
              obtain ⟨r_3, hc37, hm⟩ := bd1_go hm
              refine my_cVi (As := [.int v3_2]) (rest := [.int v4_2, .ref h_t, .int v2_4]) (WC := [(h_t, .inr (1, [.int f_t_builtSize_1, .int f_t_all_1, .ref h_t_rising, .ref h_t_sorted, .ref h_t_rows, .ref h_t_starts, .ref h_t_seen])), (h_t_starts, .inl (cA, 14, .inl f_t_starts_1))]) (WC' := [(h_t, .inr (1, [.int f_t_builtSize_1, .int f_t_all_1, .ref h_t_rising, .ref h_t_sorted, .ref h_t_rows, .ref h_t_starts, .ref h_t_seen])), (h_t_starts, .inl (cA, 14, .inl f_t_starts_1))]) (WR := [(h_t_seen, .inr (5, [.ref h_t_seen_bits])), (h_t_rising, .inl (cA, 224, .inl f_t_rising_1)), (h_t_rows, .inl (cA, 224, .inl f_t_rows_1)), (h_t_seen_bits, .inl (cA, 128, .inl f_t_seen_bits_1)), (h_t_sorted, .inl (cA, 224, .inl f_t_sorted_1))]) (W' := [(h_t, .inr (1, [.int f_t_builtSize_1, .int f_t_all_1, .ref h_t_rising, .ref h_t_sorted, .ref h_t_rows, .ref h_t_starts, .ref h_t_seen])), (h_t_seen, .inr (5, [.ref h_t_seen_bits])), (h_t_rising, .inl (cA, 224, .inl f_t_rising_1)), (h_t_rows, .inl (cA, 224, .inl f_t_rows_1)), (h_t_seen_bits, .inl (cA, 128, .inl f_t_seen_bits_1)), (h_t_sorted, .inl (cA, 224, .inl f_t_sorted_1)), (h_t_starts, .inl (cA, 14, .inl f_t_starts_1))]) ⟨hx, hb, hml, hown, hts⟩ hK hP hD hS hA (c_Forms_end l dC dI cA h_t h_t_rising h_t_sorted h_t_rows h_t_starts h_t_seen f_t_builtSize_1 f_t_all_1 f_t_starts_1 v3_2 r_3 hc37) (cwV 1 hts gX1_countTwinPairs_X1_end rfl rfl rfl (by decide +kernel) ⟨Nat.le_of_ble_eq_true rfl, Nat.le_of_ble_eq_true rfl⟩) [0, 6] [1, 2, 3, 4, 5] [5, 0, 1, 2, 3, 4, 6] rfl rfl rfl rfl (ci := 1) (q0 := 0) rfl rfl rfl rfl hl.1 (Nat.le_of_ble_eq_true rfl) dX1_countTwinPairs_37 ⟨Nat.zero_le _, Nat.zero_le _⟩ (fun H locs hP hD hS => ?_)
              obtain ⟨r_4, hc40, hm⟩ := bd1_go hm
              refine my_cVi (As := [.int v4_2, .int r_3]) (rest := [.int v2_4]) (WC := [(h_t, .inr (1, [.int f_t_builtSize_1, .int f_t_all_1, .ref h_t_rising, .ref h_t_sorted, .ref h_t_rows, .ref h_t_starts, .ref h_t_seen])), (h_t_rows, .inl (cA, 224, .inl f_t_rows_1))]) (WC' := [(h_t, .inr (1, [.int f_t_builtSize_1, .int f_t_all_1, .ref h_t_rising, .ref h_t_sorted, .ref h_t_rows, .ref h_t_starts, .ref h_t_seen])), (h_t_rows, .inl (cA, 224, .inl f_t_rows_1))]) (WR := [(h_t_seen, .inr (5, [.ref h_t_seen_bits])), (h_t_rising, .inl (cA, 224, .inl f_t_rising_1)), (h_t_seen_bits, .inl (cA, 128, .inl f_t_seen_bits_1)), (h_t_sorted, .inl (cA, 224, .inl f_t_sorted_1)), (h_t_starts, .inl (cA, 14, .inl f_t_starts_1))]) (W' := [(h_t, .inr (1, [.int f_t_builtSize_1, .int f_t_all_1, .ref h_t_rising, .ref h_t_sorted, .ref h_t_rows, .ref h_t_starts, .ref h_t_seen])), (h_t_seen, .inr (5, [.ref h_t_seen_bits])), (h_t_rising, .inl (cA, 224, .inl f_t_rising_1)), (h_t_rows, .inl (cA, 224, .inl f_t_rows_1)), (h_t_seen_bits, .inl (cA, 128, .inl f_t_seen_bits_1)), (h_t_sorted, .inl (cA, 224, .inl f_t_sorted_1)), (h_t_starts, .inl (cA, 14, .inl f_t_starts_1))]) ⟨hx, hb, hml, hown, hts⟩ hK hP hD hS hA (c_Forms_countTwinsBehind l dC dI cA fu h_t h_t_rising h_t_sorted h_t_rows h_t_starts h_t_seen f_t_builtSize_1 f_t_all_1 f_t_rows_1 v4_2 r_3 r_4 hc40) (cwV 2 hts gX1_countTwinPairs_X1_countTwinsBehind rfl rfl rfl (by decide +kernel) ⟨Nat.le_of_ble_eq_true rfl, Nat.le_of_ble_eq_true rfl⟩) [0, 3] [1, 2, 4, 5, 6] [5, 0, 1, 6, 2, 3, 4] rfl rfl rfl rfl (ci := 1) (q0 := 0) rfl rfl rfl rfl hl.1 (Nat.le_of_ble_eq_true rfl) dX1_countTwinPairs_40 ⟨Nat.zero_le _, Nat.zero_le _⟩ (fun H locs hP hD hS => ?_)
              refine lv_iadd hx hb dX1_countTwinPairs_43 ?_
              refine lv_topi (fun v2_6 ev2_6 => ?_)
              replace hm := lt_go ev2_6 hm
              refine lv_istore_n (lv' := [(2, .int v2_6), (0, .ref h_t), (1, .int a1), (3, .int v3_2), (4, .int v4_2)]) hx hb dX1_countTwinPairs_44 rfl hl (by decide) rfl (fun ls hl => ?_)
              obtain ⟨v4_3, ev4_3⟩ : ∃ z : Int32, z = v4_2 + 1 := ⟨_, rfl⟩
              replace hm := lt_go ev4_3 hm
              refine lv_iinc (v := v4_3) (lv' := [(4, .int v4_3), (2, .int v2_6), (0, .ref h_t), (1, .int a1), (3, .int v3_2)]) hx hb dX1_countTwinPairs_45 hl (k := 4) rfl (by rw [ev4_3]; rfl) (by decide) rfl (fun ls hl => ?_)
              refine lv_goto (tgt := 21) hx hb dX1_countTwinPairs_48 (by decide) ?_
              exact ih _ _ _ hm _ _ hP hD hS _ (lv_sub hl [2, 3, 1, 4, 0] rfl) KK
        obtain ⟨v2_7, hl21, hm⟩ := bd1_go hm
        refine L21 _ _ _ _ hl21 _ _ hP hD hS _ (lv_sub hl [1, 2, 3, 4, 0] rfl) (fun H locs hP hD hS ls hl => ?_)
        obtain ⟨v3_3, ev3_3⟩ : ∃ z : Int32, z = v3_2 + 1 := ⟨_, rfl⟩
        replace hm := lt_go ev3_3 hm
        refine lv_iinc (v := v3_3) (lv' := [(3, .int v3_3), (0, .ref h_t), (1, .int a1), (2, .int v2_7)]) hx hb dX1_countTwinPairs_51 hl (k := 3) rfl (by rw [ev3_3]; rfl) (by decide) rfl (fun ls hl => ?_)
        refine lv_goto (tgt := 9) hx hb dX1_countTwinPairs_54 (by decide) ?_
        exact ih _ _ _ hm _ _ hP hD hS _ (lv_sub hl [1, 2, 3, 0] rfl) KK
  obtain ⟨v2_8, hl9, hm⟩ := bd1_go hm
  refine L9 _ _ _ _ hl9 _ _ hP hD hS _ (lv_sub hl [2, 3, 1, 0] rfl) (fun H locs hP hD hS ls hl => ?_)
  refine lv_iload_n hx hb dX1_countTwinPairs_57 rfl (lv_at hl 0 rfl) ?_
  cases hm
  exact W_mono hQ (W.iret hx hb hr (fun t ht hW => ⟨⟨_, (), rfl, rfl, by rw [ht]; exact hP, va_K.moved hW.alike hK, hD⟩, hS.F ht⟩) hS.2.2 dX1_countTwinPairs_58)
abbrev rmX1_countTwins : Room := { frames := 6, cells := 0, slots := 0, locals := 133 }
theorem uX1_X1_countTwins : ∀ w ∈ wsX10, w ∈ wsX1_countTwins := fun _ h => List.mem_cons_of_mem _ (List.mem_append_left _ (List.mem_append_right _ (h)))
set_option maxHeartbeats 40000000 in
set_option maxRecDepth 100000 in
theorem c_Forms_countTwins (l : Launch) (dC : Nat → ClassId) (dI : Nat → Nat → Nat) (cA : ClassId) (fu : Nat) (h_t h_t_seen h_t_rising h_t_sorted h_t_rows h_t_starts h_t_seen_bits : Nat) (f_t_builtSize : Int32) (f_t_all : Int32) (f_t_rising : Nat → Int32) (f_t_rows : Nat → Int32) (f_t_seen_bits : Nat → Int32) (f_t_sorted : Nat → Int32) (f_t_starts : Nat → Int32) (a1 : Int32) (a2 : Int32) (r0 : Int32) (f_t_all_z : Int32) (f_t_builtSize_z : Int32) (f_t_rising_z : Nat → Int32) (f_t_rows_z : Nat → Int32) (f_t_seen_bits_z : Nat → Int32) (f_t_sorted_z : Nat → Int32) (f_t_starts_z : Nat → Int32) (hm : m_Forms_countTwins fu f_t_all f_t_builtSize f_t_rising f_t_rows f_t_seen_bits f_t_sorted f_t_starts a1 a2 = some (r0, f_t_all_z, f_t_builtSize_z, f_t_rising_z, f_t_rows_z, f_t_seen_bits_z, f_t_sorted_z, f_t_starts_z)) (sz : Nat) : Met l yX1_countTwins wsX1_countTwins rmX1_countTwins (mPre (dC, dI) cA [.ref h_t, .int a1, .int a2] sz [(h_t, .inr (1, [.int f_t_builtSize, .int f_t_all, .ref h_t_rising, .ref h_t_sorted, .ref h_t_rows, .ref h_t_starts, .ref h_t_seen])), (h_t_seen, .inr (5, [.ref h_t_seen_bits])), (h_t_rising, .inl (cA, 224, .inl f_t_rising)), (h_t_rows, .inl (cA, 224, .inl f_t_rows)), (h_t_seen_bits, .inl (cA, 128, .inl f_t_seen_bits)), (h_t_sorted, .inl (cA, 224, .inl f_t_sorted)), (h_t_starts, .inl (cA, 14, .inl f_t_starts))]) (mPosI (dC, dI) cA r0 (va_A [(h_t, .inr (1, [.int f_t_builtSize, .int f_t_all, .ref h_t_rising, .ref h_t_sorted, .ref h_t_rows, .ref h_t_starts, .ref h_t_seen])), (h_t_seen, .inr (5, [.ref h_t_seen_bits])), (h_t_rising, .inl (cA, 224, .inl f_t_rising)), (h_t_rows, .inl (cA, 224, .inl f_t_rows)), (h_t_seen_bits, .inl (cA, 128, .inl f_t_seen_bits)), (h_t_sorted, .inl (cA, 224, .inl f_t_sorted)), (h_t_starts, .inl (cA, 14, .inl f_t_starts))] sz) [(h_t, .inr (1, [.int f_t_builtSize_z, .int f_t_all_z, .ref h_t_rising, .ref h_t_sorted, .ref h_t_rows, .ref h_t_starts, .ref h_t_seen])), (h_t_seen, .inr (5, [.ref h_t_seen_bits])), (h_t_rising, .inl (cA, 224, .inl f_t_rising_z)), (h_t_rows, .inl (cA, 224, .inl f_t_rows_z)), (h_t_seen_bits, .inl (cA, 128, .inl f_t_seen_bits_z)), (h_t_sorted, .inl (cA, 224, .inl f_t_sorted_z)), (h_t_starts, .inl (cA, 14, .inl f_t_starts_z))]) 0 0 (va_A [(h_t, .inr (1, [.int f_t_builtSize, .int f_t_all, .ref h_t_rising, .ref h_t_sorted, .ref h_t_rows, .ref h_t_starts, .ref h_t_seen])), (h_t_seen, .inr (5, [.ref h_t_seen_bits])), (h_t_rising, .inl (cA, 224, .inl f_t_rising)), (h_t_rows, .inl (cA, 224, .inl f_t_rows)), (h_t_seen_bits, .inl (cA, 128, .inl f_t_seen_bits)), (h_t_sorted, .inl (cA, 224, .inl f_t_sorted)), (h_t_starts, .inl (cA, 14, .inl f_t_starts))] sz) := by
  refine Met.ofW (cc := cX1_countTwins) (maxL := 7) (ret := (some .int)) (by decide) rfl ?_
  intro p e s m args below meth c s₁ B hml hv
  obtain ⟨rfl, hsz, hP, hK, hD0⟩ := hv
  refine W_gen (fun Q hQ => ?_)
  have hx := B.exec
  have hb := B.bytes
  have hr := B.returns
  have hts := atoms_spec (ws := wsX1_countTwins) B.pre
  have hown : s.vm.findClass RX1 = some m.cls := findClass_of_methodNamed B.named
  have hlocks := B.notSynchronized
  subst hsz
  have hD := hD0.self (sz := s.heap.size)
  clear hD0
  generalize hAe : va_A [(h_t, .inr (1, [.int f_t_builtSize, .int f_t_all, .ref h_t_rising, .ref h_t_sorted, .ref h_t_rows, .ref h_t_starts, .ref h_t_seen])), (h_t_seen, .inr (5, [.ref h_t_seen_bits])), (h_t_rising, .inl (cA, 224, .inl f_t_rising)), (h_t_rows, .inl (cA, 224, .inl f_t_rows)), (h_t_seen_bits, .inl (cA, 128, .inl f_t_seen_bits)), (h_t_sorted, .inl (cA, 224, .inl f_t_sorted)), (h_t_starts, .inl (cA, 14, .inl f_t_starts))] s.heap.size = A at hD hQ
  have hA : ∀ q : Nat, s.heap.size ≤ q → A q := fun q h => by rw [← hAe]; exact Or.inr h
  clear hAe
  have hS : va_S A s.heap s.heap [] := va_S.rf
  have hl := lv_entry ([.ref h_t, .int a1, .int a2]) (n := 7) (Nat.le_of_ble_eq_true rfl)
  rw [lg_entry_eq]
  generalize (lg_sl ([.ref h_t, .int a1, .int a2]) ++ List.replicate (7 - (lg_sl ([.ref h_t, .int a1, .int a2])).length) Slot.unset).toArray = ls at hl ⊢
  have hl : lv_has ls 7 [(0, .ref h_t), (1, .int a1), (2, .int a2)] := hl
  have k1 := hts (.fieldLink RX1 25 "ToneSets$Forms" "rows" "[I") (List.mem_of_getElem? (i := 1) rfl)
  have k2 := hts (.fieldLink RX1 22 "ToneSets$Forms" "sorted" "[I") (List.mem_of_getElem? (i := 2) rfl)
  have uX1 := uX1_X1_countTwins
  unfold m_Forms_countTwins at hm
  refine lv_aload_n hx hb dX1_countTwins_0 rfl (lv_at hl 0 rfl) ?_
  refine lv_iload_n hx hb dX1_countTwins_1 rfl (lv_at hl 2 rfl) ?_
  obtain ⟨f_t_all_1, f_t_builtSize_1, f_t_rising_1, f_t_rows_1, f_t_seen_bits_1, f_t_sorted_1, f_t_starts_1, hc2, hm⟩ := bd7_go hm
  refine my_cVv (As := [.int a2]) (rest := []) (WC := [(h_t, .inr (1, [.int f_t_builtSize, .int f_t_all, .ref h_t_rising, .ref h_t_sorted, .ref h_t_rows, .ref h_t_starts, .ref h_t_seen])), (h_t_seen, .inr (5, [.ref h_t_seen_bits])), (h_t_rising, .inl (cA, 224, .inl f_t_rising)), (h_t_rows, .inl (cA, 224, .inl f_t_rows)), (h_t_seen_bits, .inl (cA, 128, .inl f_t_seen_bits)), (h_t_sorted, .inl (cA, 224, .inl f_t_sorted)), (h_t_starts, .inl (cA, 14, .inl f_t_starts))]) (WC' := [(h_t, .inr (1, [.int f_t_builtSize_1, .int f_t_all_1, .ref h_t_rising, .ref h_t_sorted, .ref h_t_rows, .ref h_t_starts, .ref h_t_seen])), (h_t_seen, .inr (5, [.ref h_t_seen_bits])), (h_t_rising, .inl (cA, 224, .inl f_t_rising_1)), (h_t_rows, .inl (cA, 224, .inl f_t_rows_1)), (h_t_seen_bits, .inl (cA, 128, .inl f_t_seen_bits_1)), (h_t_sorted, .inl (cA, 224, .inl f_t_sorted_1)), (h_t_starts, .inl (cA, 14, .inl f_t_starts_1))]) (WR := []) (W' := [(h_t, .inr (1, [.int f_t_builtSize_1, .int f_t_all_1, .ref h_t_rising, .ref h_t_sorted, .ref h_t_rows, .ref h_t_starts, .ref h_t_seen])), (h_t_seen, .inr (5, [.ref h_t_seen_bits])), (h_t_rising, .inl (cA, 224, .inl f_t_rising_1)), (h_t_rows, .inl (cA, 224, .inl f_t_rows_1)), (h_t_seen_bits, .inl (cA, 128, .inl f_t_seen_bits_1)), (h_t_sorted, .inl (cA, 224, .inl f_t_sorted_1)), (h_t_starts, .inl (cA, 14, .inl f_t_starts_1))]) ⟨hx, hb, hml, hown, hts⟩ hK hP hD hS hA (c_Forms_build l dC dI cA fu h_t h_t_seen h_t_rising h_t_sorted h_t_rows h_t_starts h_t_seen_bits f_t_builtSize f_t_all f_t_rising f_t_rows f_t_seen_bits f_t_sorted f_t_starts a2 f_t_all_1 f_t_builtSize_1 f_t_rising_1 f_t_rows_1 f_t_seen_bits_1 f_t_sorted_1 f_t_starts_1 hc2) (cwV 1 hts gX1_countTwins_X1_build rfl rfl rfl (by decide +kernel) ⟨Nat.le_of_ble_eq_true rfl, Nat.le_of_ble_eq_true rfl⟩) [0, 1, 2, 3, 4, 5, 6] [] [0, 1, 2, 3, 4, 5, 6] rfl rfl rfl rfl (ci := 1) (q0 := 0) rfl rfl rfl rfl hl.1 (Nat.le_of_ble_eq_true rfl) dX1_countTwins_2 ⟨Nat.zero_le _, Nat.zero_le _⟩ (fun H locs hP hD hS => ?_)
  refine lv_iload_n hx hb dX1_countTwins_5 rfl (lv_at hl 1 rfl) ?_
  obtain ⟨r_1, hc6, hm⟩ := bd1_go hm
  refine my_cSi (As := [.int a1]) (rest := []) (WC := []) (WC' := []) (WR := [(h_t, .inr (1, [.int f_t_builtSize_1, .int f_t_all_1, .ref h_t_rising, .ref h_t_sorted, .ref h_t_rows, .ref h_t_starts, .ref h_t_seen])), (h_t_seen, .inr (5, [.ref h_t_seen_bits])), (h_t_rising, .inl (cA, 224, .inl f_t_rising_1)), (h_t_rows, .inl (cA, 224, .inl f_t_rows_1)), (h_t_seen_bits, .inl (cA, 128, .inl f_t_seen_bits_1)), (h_t_sorted, .inl (cA, 224, .inl f_t_sorted_1)), (h_t_starts, .inl (cA, 14, .inl f_t_starts_1))]) (W' := [(h_t, .inr (1, [.int f_t_builtSize_1, .int f_t_all_1, .ref h_t_rising, .ref h_t_sorted, .ref h_t_rows, .ref h_t_starts, .ref h_t_seen])), (h_t_seen, .inr (5, [.ref h_t_seen_bits])), (h_t_rising, .inl (cA, 224, .inl f_t_rising_1)), (h_t_rows, .inl (cA, 224, .inl f_t_rows_1)), (h_t_seen_bits, .inl (cA, 128, .inl f_t_seen_bits_1)), (h_t_sorted, .inl (cA, 224, .inl f_t_sorted_1)), (h_t_starts, .inl (cA, 14, .inl f_t_starts_1))]) ⟨hx, hb, hml, hown, hts⟩ hK hP hD hS hA (c_Ji_bitCount l dC dI cA a1 r_1 hc6) (va_cwS 1 hts gX1_countTwins_J6_bitCount_0f7a4 rfl rfl rfl (by decide +kernel) ⟨Nat.le_of_ble_eq_true rfl, Nat.le_of_ble_eq_true rfl⟩) [] [0, 1, 2, 3, 4, 5, 6] [0, 1, 2, 3, 4, 5, 6] rfl rfl rfl rfl rfl rfl hl.1 (Nat.le_of_ble_eq_true rfl) dX1_countTwins_6 ⟨Nat.zero_le _, Nat.zero_le _⟩ (fun H locs hP hD hS => ?_)
  refine lv_topi (fun v3_1 ev3_1 => ?_)
  replace hm := lt_go ev3_1 hm
  refine lv_istore_n (lv' := [(3, .int v3_1), (0, .ref h_t), (1, .int a1), (2, .int a2)]) hx hb dX1_countTwins_9 rfl hl (by decide) rfl (fun ls hl => ?_)
  refine lv_iload_n hx hb dX1_countTwins_10 rfl (lv_at hl 2 rfl) ?_
  refine lv_iload_n hx hb dX1_countTwins_11 rfl (lv_at hl 3 rfl) ?_
  obtain ⟨r_2, hc12, hm⟩ := bd1_go hm
  refine my_cSi (As := [.int a1, .int a2]) (rest := []) (WC := []) (WC' := []) (WR := [(h_t, .inr (1, [.int f_t_builtSize_1, .int f_t_all_1, .ref h_t_rising, .ref h_t_sorted, .ref h_t_rows, .ref h_t_starts, .ref h_t_seen])), (h_t_seen, .inr (5, [.ref h_t_seen_bits])), (h_t_rising, .inl (cA, 224, .inl f_t_rising_1)), (h_t_rows, .inl (cA, 224, .inl f_t_rows_1)), (h_t_seen_bits, .inl (cA, 128, .inl f_t_seen_bits_1)), (h_t_sorted, .inl (cA, 224, .inl f_t_sorted_1)), (h_t_starts, .inl (cA, 14, .inl f_t_starts_1))]) (W' := [(h_t, .inr (1, [.int f_t_builtSize_1, .int f_t_all_1, .ref h_t_rising, .ref h_t_sorted, .ref h_t_rows, .ref h_t_starts, .ref h_t_seen])), (h_t_seen, .inr (5, [.ref h_t_seen_bits])), (h_t_rising, .inl (cA, 224, .inl f_t_rising_1)), (h_t_rows, .inl (cA, 224, .inl f_t_rows_1)), (h_t_seen_bits, .inl (cA, 128, .inl f_t_seen_bits_1)), (h_t_sorted, .inl (cA, 224, .inl f_t_sorted_1)), (h_t_starts, .inl (cA, 14, .inl f_t_starts_1))]) ⟨hx, hb, hml, hown, hts⟩ hK hP hD hS hA (c_Ring_intervalRow l dC dI cA fu a1 a2 r_2 hc12) (va_cwS 2 hts gX1_countTwins_X3_intervalRow rfl rfl rfl (by decide +kernel) ⟨Nat.le_of_ble_eq_true rfl, Nat.le_of_ble_eq_true rfl⟩) [] [0, 1, 2, 3, 4, 5, 6] [0, 1, 2, 3, 4, 5, 6] rfl rfl rfl rfl rfl rfl hl.1 (Nat.le_of_ble_eq_true rfl) dX1_countTwins_12 ⟨Nat.zero_le _, Nat.zero_le _⟩ (fun H locs hP hD hS => ?_)
  refine lv_topi (fun v4_1 ev4_1 => ?_)
  replace hm := lt_go ev4_1 hm
  refine lv_istore (lv' := [(4, .int v4_1), (3, .int v3_1), (0, .ref h_t), (1, .int a1), (2, .int a2)]) hx hb dX1_countTwins_15 hl (by decide) rfl (fun ls hl => ?_)
  refine lv_iconst (v := 0) hx hb dX1_countTwins_17 (by decide) ?_
  refine lv_topi (fun v5_1 ev5_1 => ?_)
  replace hm := lt_go ev5_1 hm
  refine lv_istore (lv' := [(5, .int v5_1), (4, .int v4_1), (3, .int v3_1), (0, .ref h_t), (1, .int a1), (2, .int a2)]) hx hb dX1_countTwins_18 hl (by decide) rfl (fun ls hl => ?_)
  refine lv_aload_n hx hb dX1_countTwins_20 rfl (lv_at hl 3 rfl) ?_
  refine lv_iload_n hx hb dX1_countTwins_21 rfl (lv_at hl 2 rfl) ?_
  obtain ⟨r_3, hc22, hm⟩ := bd1_go hm
  refine my_cVi (As := [.int v3_1]) (rest := []) (WC := [(h_t, .inr (1, [.int f_t_builtSize_1, .int f_t_all_1, .ref h_t_rising, .ref h_t_sorted, .ref h_t_rows, .ref h_t_starts, .ref h_t_seen])), (h_t_starts, .inl (cA, 14, .inl f_t_starts_1))]) (WC' := [(h_t, .inr (1, [.int f_t_builtSize_1, .int f_t_all_1, .ref h_t_rising, .ref h_t_sorted, .ref h_t_rows, .ref h_t_starts, .ref h_t_seen])), (h_t_starts, .inl (cA, 14, .inl f_t_starts_1))]) (WR := [(h_t_seen, .inr (5, [.ref h_t_seen_bits])), (h_t_rising, .inl (cA, 224, .inl f_t_rising_1)), (h_t_rows, .inl (cA, 224, .inl f_t_rows_1)), (h_t_seen_bits, .inl (cA, 128, .inl f_t_seen_bits_1)), (h_t_sorted, .inl (cA, 224, .inl f_t_sorted_1))]) (W' := [(h_t, .inr (1, [.int f_t_builtSize_1, .int f_t_all_1, .ref h_t_rising, .ref h_t_sorted, .ref h_t_rows, .ref h_t_starts, .ref h_t_seen])), (h_t_seen, .inr (5, [.ref h_t_seen_bits])), (h_t_rising, .inl (cA, 224, .inl f_t_rising_1)), (h_t_rows, .inl (cA, 224, .inl f_t_rows_1)), (h_t_seen_bits, .inl (cA, 128, .inl f_t_seen_bits_1)), (h_t_sorted, .inl (cA, 224, .inl f_t_sorted_1)), (h_t_starts, .inl (cA, 14, .inl f_t_starts_1))]) ⟨hx, hb, hml, hown, hts⟩ hK hP hD hS hA (c_Forms_start l dC dI cA h_t h_t_rising h_t_sorted h_t_rows h_t_starts h_t_seen f_t_builtSize_1 f_t_all_1 f_t_starts_1 v3_1 r_3 hc22) (cwV 1 hts gX1_countTwins_X1_start rfl rfl rfl (by decide +kernel) ⟨Nat.le_of_ble_eq_true rfl, Nat.le_of_ble_eq_true rfl⟩) [0, 6] [1, 2, 3, 4, 5] [5, 0, 1, 2, 3, 4, 6] rfl rfl rfl rfl (ci := 1) (q0 := 0) rfl rfl rfl rfl hl.1 (Nat.le_of_ble_eq_true rfl) dX1_countTwins_22 ⟨Nat.zero_le _, Nat.zero_le _⟩ (fun H locs hP hD hS => ?_)
  refine lv_topi (fun v6_1 ev6_1 => ?_)
  replace hm := lt_go ev6_1 hm
  refine lv_istore (lv' := [(6, .int v6_1), (5, .int v5_1), (4, .int v4_1), (3, .int v3_1), (0, .ref h_t), (1, .int a1), (2, .int a2)]) hx hb dX1_countTwins_25 hl (by decide) rfl (fun ls hl => ?_)
  have L27 : ∀ (n : Nat) (v5_2 : Int32) (v6_2 : Int32) (v5_3 : Int32), m_Forms_countTwins_L27 f_t_starts_1 v3_1 f_t_rows_1 v4_1 f_t_sorted_1 a1 n v5_2 v6_2 = some v5_3 → ∀ (H : Heap) (locs : List Loc), va_P (dC, dI) vwCl [(h_t, .inr (1, [.int f_t_builtSize_1, .int f_t_all_1, .ref h_t_rising, .ref h_t_sorted, .ref h_t_rows, .ref h_t_starts, .ref h_t_seen])), (h_t_seen, .inr (5, [.ref h_t_seen_bits])), (h_t_rising, .inl (cA, 224, .inl f_t_rising_1)), (h_t_rows, .inl (cA, 224, .inl f_t_rows_1)), (h_t_seen_bits, .inl (cA, 128, .inl f_t_seen_bits_1)), (h_t_sorted, .inl (cA, 224, .inl f_t_sorted_1)), (h_t_starts, .inl (cA, 14, .inl f_t_starts_1))] H → va_D A [(h_t, .inr (1, [.int f_t_builtSize_1, .int f_t_all_1, .ref h_t_rising, .ref h_t_sorted, .ref h_t_rows, .ref h_t_starts, .ref h_t_seen])), (h_t_seen, .inr (5, [.ref h_t_seen_bits])), (h_t_rising, .inl (cA, 224, .inl f_t_rising_1)), (h_t_rows, .inl (cA, 224, .inl f_t_rows_1)), (h_t_seen_bits, .inl (cA, 128, .inl f_t_seen_bits_1)), (h_t_sorted, .inl (cA, 224, .inl f_t_sorted_1)), (h_t_starts, .inl (cA, 14, .inl f_t_starts_1))] → va_S A s.heap H locs → ∀ ls : Array Slot, lv_has ls 7 [(0, .ref h_t), (1, .int a1), (3, .int v3_1), (4, .int v4_1), (5, .int v5_2), (6, .int v6_2)] → (∀ (H : Heap) (locs : List Loc), va_P (dC, dI) vwCl [(h_t, .inr (1, [.int f_t_builtSize_1, .int f_t_all_1, .ref h_t_rising, .ref h_t_sorted, .ref h_t_rows, .ref h_t_starts, .ref h_t_seen])), (h_t_seen, .inr (5, [.ref h_t_seen_bits])), (h_t_rising, .inl (cA, 224, .inl f_t_rising_1)), (h_t_rows, .inl (cA, 224, .inl f_t_rows_1)), (h_t_seen_bits, .inl (cA, 128, .inl f_t_seen_bits_1)), (h_t_sorted, .inl (cA, 224, .inl f_t_sorted_1)), (h_t_starts, .inl (cA, 14, .inl f_t_starts_1))] H → va_D A [(h_t, .inr (1, [.int f_t_builtSize_1, .int f_t_all_1, .ref h_t_rising, .ref h_t_sorted, .ref h_t_rows, .ref h_t_starts, .ref h_t_seen])), (h_t_seen, .inr (5, [.ref h_t_seen_bits])), (h_t_rising, .inl (cA, 224, .inl f_t_rising_1)), (h_t_rows, .inl (cA, 224, .inl f_t_rows_1)), (h_t_seen_bits, .inl (cA, 128, .inl f_t_seen_bits_1)), (h_t_sorted, .inl (cA, 224, .inl f_t_sorted_1)), (h_t_starts, .inl (cA, 14, .inl f_t_starts_1))] → va_S A s.heap H locs → ∀ ls : Array Slot, lv_has ls 7 [(5, .int v5_3)] → W p l e (headSpec wsX1_countTwins rmX1_countTwins).room s m (([.ref h_t, .int a1, .int a2] : List Value).toArray) below meth c H locs 0 0 Q (F0 m 69 ls [])) → W p l e (headSpec wsX1_countTwins rmX1_countTwins).room s m (([.ref h_t, .int a1, .int a2] : List Value).toArray) below meth c H locs 0 0 Q (F0 m 27 ls []) := by
    clear hm hP hD hS hl
    intro n
    induction n with
    | zero => intro _ _ _ hm; exact nomatch (show none = some _ from hm)
    | succ n ih =>
      intro v5_2 v6_2 v5_3 hm H locs hP hD hS ls hl KK
      unfold m_Forms_countTwins_L27 at hm
      refine lv_iload hx hb dX1_countTwins_27 (lv_at hl 5 rfl) ?_
      refine lv_aload_n hx hb dX1_countTwins_29 rfl (lv_at hl 0 rfl) ?_
      refine lv_iload_n hx hb dX1_countTwins_30 rfl (lv_at hl 2 rfl) ?_
      obtain ⟨r_4, hc31, hm⟩ := bd1_go hm
      refine my_cVi (As := [.int v3_1]) (rest := [.int v6_2]) (WC := [(h_t, .inr (1, [.int f_t_builtSize_1, .int f_t_all_1, .ref h_t_rising, .ref h_t_sorted, .ref h_t_rows, .ref h_t_starts, .ref h_t_seen])), (h_t_starts, .inl (cA, 14, .inl f_t_starts_1))]) (WC' := [(h_t, .inr (1, [.int f_t_builtSize_1, .int f_t_all_1, .ref h_t_rising, .ref h_t_sorted, .ref h_t_rows, .ref h_t_starts, .ref h_t_seen])), (h_t_starts, .inl (cA, 14, .inl f_t_starts_1))]) (WR := [(h_t_seen, .inr (5, [.ref h_t_seen_bits])), (h_t_rising, .inl (cA, 224, .inl f_t_rising_1)), (h_t_rows, .inl (cA, 224, .inl f_t_rows_1)), (h_t_seen_bits, .inl (cA, 128, .inl f_t_seen_bits_1)), (h_t_sorted, .inl (cA, 224, .inl f_t_sorted_1))]) (W' := [(h_t, .inr (1, [.int f_t_builtSize_1, .int f_t_all_1, .ref h_t_rising, .ref h_t_sorted, .ref h_t_rows, .ref h_t_starts, .ref h_t_seen])), (h_t_seen, .inr (5, [.ref h_t_seen_bits])), (h_t_rising, .inl (cA, 224, .inl f_t_rising_1)), (h_t_rows, .inl (cA, 224, .inl f_t_rows_1)), (h_t_seen_bits, .inl (cA, 128, .inl f_t_seen_bits_1)), (h_t_sorted, .inl (cA, 224, .inl f_t_sorted_1)), (h_t_starts, .inl (cA, 14, .inl f_t_starts_1))]) ⟨hx, hb, hml, hown, hts⟩ hK hP hD hS hA (c_Forms_end l dC dI cA h_t h_t_rising h_t_sorted h_t_rows h_t_starts h_t_seen f_t_builtSize_1 f_t_all_1 f_t_starts_1 v3_1 r_4 hc31) (cwV 1 hts gX1_countTwins_X1_end rfl rfl rfl (by decide +kernel) ⟨Nat.le_of_ble_eq_true rfl, Nat.le_of_ble_eq_true rfl⟩) [0, 6] [1, 2, 3, 4, 5] [5, 0, 1, 2, 3, 4, 6] rfl rfl rfl rfl (ci := 1) (q0 := 0) rfl rfl rfl rfl hl.1 (Nat.le_of_ble_eq_true rfl) dX1_countTwins_31 ⟨Nat.zero_le _, Nat.zero_le _⟩ (fun H locs hP hD hS => ?_)
      refine lv_icmp_ge (tgt := 69) hx hb dX1_countTwins_34 (by decide) (fun c34 => ?_) (fun c34 => ?_)
      · replace hm := if_t c34 hm
        cases hm
        exact KK _ _ hP hD hS _ (lv_sub hl [4] rfl)
      · replace hm := if_f c34 hm
        refine lv_aload_n hx hb dX1_countTwins_37 rfl (lv_at hl 0 rfl) ?_
        refine va_get (D := (dC, dI)) (ci := 1) (v := .ref h_t_rows) (C := RX1) (T := TX1) (N := 7) hx hb hts uX1 hown hK hP 0 rfl rfl 4 (by decide) k1 (fun _ h9 => h9) rfl dX1_countTwins_38 ?_
        refine lv_iload hx hb dX1_countTwins_41 (lv_at hl 5 rfl) ?_
        obtain ⟨b43, hm⟩ := ck_go hm
        refine va_iald hx hb hK hP 3 0 rfl rfl b43 dX1_countTwins_43 ?_
        refine lv_iload hx hb dX1_countTwins_44 (lv_at hl 3 rfl) ?_
        obtain ⟨v5_4, hqJ_1, hm⟩ := bd1_go hm
        have J_1 : ∀ (H : Heap) (locs : List Loc), va_P (dC, dI) vwCl [(h_t, .inr (1, [.int f_t_builtSize_1, .int f_t_all_1, .ref h_t_rising, .ref h_t_sorted, .ref h_t_rows, .ref h_t_starts, .ref h_t_seen])), (h_t_seen, .inr (5, [.ref h_t_seen_bits])), (h_t_rising, .inl (cA, 224, .inl f_t_rising_1)), (h_t_rows, .inl (cA, 224, .inl f_t_rows_1)), (h_t_seen_bits, .inl (cA, 128, .inl f_t_seen_bits_1)), (h_t_sorted, .inl (cA, 224, .inl f_t_sorted_1)), (h_t_starts, .inl (cA, 14, .inl f_t_starts_1))] H → va_D A [(h_t, .inr (1, [.int f_t_builtSize_1, .int f_t_all_1, .ref h_t_rising, .ref h_t_sorted, .ref h_t_rows, .ref h_t_starts, .ref h_t_seen])), (h_t_seen, .inr (5, [.ref h_t_seen_bits])), (h_t_rising, .inl (cA, 224, .inl f_t_rising_1)), (h_t_rows, .inl (cA, 224, .inl f_t_rows_1)), (h_t_seen_bits, .inl (cA, 128, .inl f_t_seen_bits_1)), (h_t_sorted, .inl (cA, 224, .inl f_t_sorted_1)), (h_t_starts, .inl (cA, 14, .inl f_t_starts_1))] → va_S A s.heap H locs → ∀ ls : Array Slot, lv_has ls 7 [(0, .ref h_t), (1, .int a1), (3, .int v3_1), (4, .int v4_1), (5, .int v5_4), (6, .int v6_2)] → W p l e (headSpec wsX1_countTwins rmX1_countTwins).room s m (([.ref h_t, .int a1, .int a2] : List Value).toArray) below meth c H locs 0 0 Q (F0 m 63 ls []) := by
          intro H locs hP hD hS ls hl
          clear hqJ_1
          obtain ⟨v6_3, ev6_3⟩ : ∃ z : Int32, z = v6_2 + 1 := ⟨_, rfl⟩
          replace hm := lt_go ev6_3 hm
          refine lv_iinc (v := v6_3) (lv' := [(6, .int v6_3), (0, .ref h_t), (1, .int a1), (3, .int v3_1), (4, .int v4_1), (5, .int v5_4)]) hx hb dX1_countTwins_63 hl (k := 5) rfl (by rw [ev6_3]; rfl) (by decide) rfl (fun ls hl => ?_)
          refine lv_goto (tgt := 27) hx hb dX1_countTwins_66 (by decide) ?_
          exact ih _ _ _ hm _ _ hP hD hS _ (lv_sub hl [1, 2, 3, 4, 5, 0] rfl) KK
        clear hm
        refine lv_icmp_ne (tgt := 63) hx hb dX1_countTwins_46 (by decide) (fun c46 => ?_) (fun c46 => ?_)
        · replace hqJ_1 := if_f c46 hqJ_1
          cases hqJ_1
          exact J_1 _ _ hP hD hS _ (lv_sub hl [0, 1, 2, 3, 4, 5] rfl)
        · replace hqJ_1 := if_t c46 hqJ_1
          refine lv_aload_n hx hb dX1_countTwins_49 rfl (lv_at hl 0 rfl) ?_
          refine va_get (D := (dC, dI)) (ci := 1) (v := .ref h_t_sorted) (C := RX1) (T := TX1) (N := 7) hx hb hts uX1 hown hK hP 0 rfl rfl 3 (by decide) k2 (fun _ h9 => h9) rfl dX1_countTwins_50 ?_
          refine lv_iload hx hb dX1_countTwins_53 (lv_at hl 5 rfl) ?_
          obtain ⟨b55, hqJ_1⟩ := ck_go hqJ_1
          refine va_iald hx hb hK hP 5 0 rfl rfl b55 dX1_countTwins_55 ?_
          refine lv_iload_n hx hb dX1_countTwins_56 rfl (lv_at hl 1 rfl) ?_
          refine lv_icmp_eq (tgt := 63) hx hb dX1_countTwins_57 (by decide) (fun c57 => ?_) (fun c57 => ?_)
          · replace hqJ_1 := if_t c57 hqJ_1
            cases hqJ_1
            exact J_1 _ _ hP hD hS _ (lv_sub hl [0, 1, 2, 3, 4, 5] rfl)
          · replace hqJ_1 := if_f c57 hqJ_1
            obtain ⟨v5_5, ev5_5⟩ : ∃ z : Int32, z = v5_2 + 1 := ⟨_, rfl⟩
            replace hqJ_1 := lt_go ev5_5 hqJ_1
            refine lv_iinc (v := v5_5) (lv' := [(5, .int v5_5), (0, .ref h_t), (1, .int a1), (3, .int v3_1), (4, .int v4_1), (6, .int v6_2)]) hx hb dX1_countTwins_60 hl (k := 4) rfl (by rw [ev5_5]; rfl) (by decide) rfl (fun ls hl => ?_)
            cases hqJ_1
            exact J_1 _ _ hP hD hS _ (lv_sub hl [1, 2, 3, 4, 0, 5] rfl)
  obtain ⟨v5_6, hl27, hm⟩ := bd1_go hm
  refine L27 _ _ _ _ hl27 _ _ hP hD hS _ (lv_sub hl [4, 5, 3, 2, 1, 0] rfl) (fun H locs hP hD hS ls hl => ?_)
  refine lv_iload hx hb dX1_countTwins_69 (lv_at hl 0 rfl) ?_
  cases hm
  exact W_mono hQ (W.iret hx hb hr (fun t ht hW => ⟨⟨_, (), rfl, rfl, by rw [ht]; exact hP, va_K.moved hW.alike hK, hD⟩, hS.F ht⟩) hS.2.2 dX1_countTwins_71)
abbrev rmX1_form : Room := { frames := 6, cells := 0, slots := 0, locals := 133 }
theorem uX1_X1_form : ∀ w ∈ wsX10, w ∈ wsX1_form := fun _ h => List.mem_cons_of_mem _ (List.mem_append_left _ (List.mem_append_right _ (h)))
set_option maxHeartbeats 40000000 in
set_option maxRecDepth 100000 in
theorem c_Forms_form (l : Launch) (dC : Nat → ClassId) (dI : Nat → Nat → Nat) (cA : ClassId) (fu : Nat) (h_t h_t_seen h_t_rising h_t_sorted h_t_rows h_t_starts h_t_seen_bits : Nat) (f_t_builtSize : Int32) (f_t_all : Int32) (f_t_rising : Nat → Int32) (f_t_rows : Nat → Int32) (f_t_seen_bits : Nat → Int32) (f_t_sorted : Nat → Int32) (f_t_starts : Nat → Int32) (a1 : Int32) (a2 : Int32) (a3 : Int32) (r0 : Int32) (f_t_all_z : Int32) (f_t_builtSize_z : Int32) (f_t_rising_z : Nat → Int32) (f_t_rows_z : Nat → Int32) (f_t_seen_bits_z : Nat → Int32) (f_t_sorted_z : Nat → Int32) (f_t_starts_z : Nat → Int32) (hm : m_Forms_form fu f_t_all f_t_builtSize f_t_rising f_t_rows f_t_seen_bits f_t_sorted f_t_starts a1 a2 a3 = some (r0, f_t_all_z, f_t_builtSize_z, f_t_rising_z, f_t_rows_z, f_t_seen_bits_z, f_t_sorted_z, f_t_starts_z)) (sz : Nat) : Met l yX1_form wsX1_form rmX1_form (mPre (dC, dI) cA [.ref h_t, .int a1, .int a2, .int a3] sz [(h_t, .inr (1, [.int f_t_builtSize, .int f_t_all, .ref h_t_rising, .ref h_t_sorted, .ref h_t_rows, .ref h_t_starts, .ref h_t_seen])), (h_t_seen, .inr (5, [.ref h_t_seen_bits])), (h_t_rising, .inl (cA, 224, .inl f_t_rising)), (h_t_rows, .inl (cA, 224, .inl f_t_rows)), (h_t_seen_bits, .inl (cA, 128, .inl f_t_seen_bits)), (h_t_sorted, .inl (cA, 224, .inl f_t_sorted)), (h_t_starts, .inl (cA, 14, .inl f_t_starts))]) (mPosI (dC, dI) cA r0 (va_A [(h_t, .inr (1, [.int f_t_builtSize, .int f_t_all, .ref h_t_rising, .ref h_t_sorted, .ref h_t_rows, .ref h_t_starts, .ref h_t_seen])), (h_t_seen, .inr (5, [.ref h_t_seen_bits])), (h_t_rising, .inl (cA, 224, .inl f_t_rising)), (h_t_rows, .inl (cA, 224, .inl f_t_rows)), (h_t_seen_bits, .inl (cA, 128, .inl f_t_seen_bits)), (h_t_sorted, .inl (cA, 224, .inl f_t_sorted)), (h_t_starts, .inl (cA, 14, .inl f_t_starts))] sz) [(h_t, .inr (1, [.int f_t_builtSize_z, .int f_t_all_z, .ref h_t_rising, .ref h_t_sorted, .ref h_t_rows, .ref h_t_starts, .ref h_t_seen])), (h_t_seen, .inr (5, [.ref h_t_seen_bits])), (h_t_rising, .inl (cA, 224, .inl f_t_rising_z)), (h_t_rows, .inl (cA, 224, .inl f_t_rows_z)), (h_t_seen_bits, .inl (cA, 128, .inl f_t_seen_bits_z)), (h_t_sorted, .inl (cA, 224, .inl f_t_sorted_z)), (h_t_starts, .inl (cA, 14, .inl f_t_starts_z))]) 0 0 (va_A [(h_t, .inr (1, [.int f_t_builtSize, .int f_t_all, .ref h_t_rising, .ref h_t_sorted, .ref h_t_rows, .ref h_t_starts, .ref h_t_seen])), (h_t_seen, .inr (5, [.ref h_t_seen_bits])), (h_t_rising, .inl (cA, 224, .inl f_t_rising)), (h_t_rows, .inl (cA, 224, .inl f_t_rows)), (h_t_seen_bits, .inl (cA, 128, .inl f_t_seen_bits)), (h_t_sorted, .inl (cA, 224, .inl f_t_sorted)), (h_t_starts, .inl (cA, 14, .inl f_t_starts))] sz) := by
  refine Met.ofW (cc := cX1_form) (maxL := 5) (ret := (some .int)) (by decide) rfl ?_
  intro p e s m args below meth c s₁ B hml hv
  obtain ⟨rfl, hsz, hP, hK, hD0⟩ := hv
  refine W_gen (fun Q hQ => ?_)
  have hx := B.exec
  have hb := B.bytes
  have hr := B.returns
  have hts := atoms_spec (ws := wsX1_form) B.pre
  have hown : s.vm.findClass RX1 = some m.cls := findClass_of_methodNamed B.named
  have hlocks := B.notSynchronized
  subst hsz
  have hD := hD0.self (sz := s.heap.size)
  clear hD0
  generalize hAe : va_A [(h_t, .inr (1, [.int f_t_builtSize, .int f_t_all, .ref h_t_rising, .ref h_t_sorted, .ref h_t_rows, .ref h_t_starts, .ref h_t_seen])), (h_t_seen, .inr (5, [.ref h_t_seen_bits])), (h_t_rising, .inl (cA, 224, .inl f_t_rising)), (h_t_rows, .inl (cA, 224, .inl f_t_rows)), (h_t_seen_bits, .inl (cA, 128, .inl f_t_seen_bits)), (h_t_sorted, .inl (cA, 224, .inl f_t_sorted)), (h_t_starts, .inl (cA, 14, .inl f_t_starts))] s.heap.size = A at hD hQ
  have hA : ∀ q : Nat, s.heap.size ≤ q → A q := fun q h => by rw [← hAe]; exact Or.inr h
  clear hAe
  have hS : va_S A s.heap s.heap [] := va_S.rf
  have hl := lv_entry ([.ref h_t, .int a1, .int a2, .int a3]) (n := 5) (Nat.le_of_ble_eq_true rfl)
  rw [lg_entry_eq]
  generalize (lg_sl ([.ref h_t, .int a1, .int a2, .int a3]) ++ List.replicate (5 - (lg_sl ([.ref h_t, .int a1, .int a2, .int a3])).length) Slot.unset).toArray = ls at hl ⊢
  have hl : lv_has ls 5 [(0, .ref h_t), (1, .int a1), (2, .int a2), (3, .int a3)] := hl
  have k1 := hts (.fieldLink RX1 22 "ToneSets$Forms" "sorted" "[I") (List.mem_of_getElem? (i := 1) rfl)
  have uX1 := uX1_X1_form
  unfold m_Forms_form at hm
  refine lv_aload_n hx hb dX1_form_0 rfl (lv_at hl 0 rfl) ?_
  refine lv_iload_n hx hb dX1_form_1 rfl (lv_at hl 3 rfl) ?_
  obtain ⟨f_t_all_1, f_t_builtSize_1, f_t_rising_1, f_t_rows_1, f_t_seen_bits_1, f_t_sorted_1, f_t_starts_1, hc2, hm⟩ := bd7_go hm
  refine my_cVv (As := [.int a3]) (rest := []) (WC := [(h_t, .inr (1, [.int f_t_builtSize, .int f_t_all, .ref h_t_rising, .ref h_t_sorted, .ref h_t_rows, .ref h_t_starts, .ref h_t_seen])), (h_t_seen, .inr (5, [.ref h_t_seen_bits])), (h_t_rising, .inl (cA, 224, .inl f_t_rising)), (h_t_rows, .inl (cA, 224, .inl f_t_rows)), (h_t_seen_bits, .inl (cA, 128, .inl f_t_seen_bits)), (h_t_sorted, .inl (cA, 224, .inl f_t_sorted)), (h_t_starts, .inl (cA, 14, .inl f_t_starts))]) (WC' := [(h_t, .inr (1, [.int f_t_builtSize_1, .int f_t_all_1, .ref h_t_rising, .ref h_t_sorted, .ref h_t_rows, .ref h_t_starts, .ref h_t_seen])), (h_t_seen, .inr (5, [.ref h_t_seen_bits])), (h_t_rising, .inl (cA, 224, .inl f_t_rising_1)), (h_t_rows, .inl (cA, 224, .inl f_t_rows_1)), (h_t_seen_bits, .inl (cA, 128, .inl f_t_seen_bits_1)), (h_t_sorted, .inl (cA, 224, .inl f_t_sorted_1)), (h_t_starts, .inl (cA, 14, .inl f_t_starts_1))]) (WR := []) (W' := [(h_t, .inr (1, [.int f_t_builtSize_1, .int f_t_all_1, .ref h_t_rising, .ref h_t_sorted, .ref h_t_rows, .ref h_t_starts, .ref h_t_seen])), (h_t_seen, .inr (5, [.ref h_t_seen_bits])), (h_t_rising, .inl (cA, 224, .inl f_t_rising_1)), (h_t_rows, .inl (cA, 224, .inl f_t_rows_1)), (h_t_seen_bits, .inl (cA, 128, .inl f_t_seen_bits_1)), (h_t_sorted, .inl (cA, 224, .inl f_t_sorted_1)), (h_t_starts, .inl (cA, 14, .inl f_t_starts_1))]) ⟨hx, hb, hml, hown, hts⟩ hK hP hD hS hA (c_Forms_build l dC dI cA fu h_t h_t_seen h_t_rising h_t_sorted h_t_rows h_t_starts h_t_seen_bits f_t_builtSize f_t_all f_t_rising f_t_rows f_t_seen_bits f_t_sorted f_t_starts a3 f_t_all_1 f_t_builtSize_1 f_t_rising_1 f_t_rows_1 f_t_seen_bits_1 f_t_sorted_1 f_t_starts_1 hc2) (cwV 1 hts gX1_form_X1_build rfl rfl rfl (by decide +kernel) ⟨Nat.le_of_ble_eq_true rfl, Nat.le_of_ble_eq_true rfl⟩) [0, 1, 2, 3, 4, 5, 6] [] [0, 1, 2, 3, 4, 5, 6] rfl rfl rfl rfl (ci := 1) (q0 := 0) rfl rfl rfl rfl hl.1 (Nat.le_of_ble_eq_true rfl) dX1_form_2 ⟨Nat.zero_le _, Nat.zero_le _⟩ (fun H locs hP hD hS => ?_)
  refine lv_aload_n hx hb dX1_form_5 rfl (lv_at hl 0 rfl) ?_
  refine lv_iload_n hx hb dX1_form_6 rfl (lv_at hl 1 rfl) ?_
  obtain ⟨r_1, hc7, hm⟩ := bd1_go hm
  refine my_cVi (As := [.int a1]) (rest := []) (WC := [(h_t, .inr (1, [.int f_t_builtSize_1, .int f_t_all_1, .ref h_t_rising, .ref h_t_sorted, .ref h_t_rows, .ref h_t_starts, .ref h_t_seen])), (h_t_starts, .inl (cA, 14, .inl f_t_starts_1))]) (WC' := [(h_t, .inr (1, [.int f_t_builtSize_1, .int f_t_all_1, .ref h_t_rising, .ref h_t_sorted, .ref h_t_rows, .ref h_t_starts, .ref h_t_seen])), (h_t_starts, .inl (cA, 14, .inl f_t_starts_1))]) (WR := [(h_t_seen, .inr (5, [.ref h_t_seen_bits])), (h_t_rising, .inl (cA, 224, .inl f_t_rising_1)), (h_t_rows, .inl (cA, 224, .inl f_t_rows_1)), (h_t_seen_bits, .inl (cA, 128, .inl f_t_seen_bits_1)), (h_t_sorted, .inl (cA, 224, .inl f_t_sorted_1))]) (W' := [(h_t, .inr (1, [.int f_t_builtSize_1, .int f_t_all_1, .ref h_t_rising, .ref h_t_sorted, .ref h_t_rows, .ref h_t_starts, .ref h_t_seen])), (h_t_seen, .inr (5, [.ref h_t_seen_bits])), (h_t_rising, .inl (cA, 224, .inl f_t_rising_1)), (h_t_rows, .inl (cA, 224, .inl f_t_rows_1)), (h_t_seen_bits, .inl (cA, 128, .inl f_t_seen_bits_1)), (h_t_sorted, .inl (cA, 224, .inl f_t_sorted_1)), (h_t_starts, .inl (cA, 14, .inl f_t_starts_1))]) ⟨hx, hb, hml, hown, hts⟩ hK hP hD hS hA (c_Forms_start l dC dI cA h_t h_t_rising h_t_sorted h_t_rows h_t_starts h_t_seen f_t_builtSize_1 f_t_all_1 f_t_starts_1 a1 r_1 hc7) (cwV 1 hts gX1_form_X1_start rfl rfl rfl (by decide +kernel) ⟨Nat.le_of_ble_eq_true rfl, Nat.le_of_ble_eq_true rfl⟩) [0, 6] [1, 2, 3, 4, 5] [5, 0, 1, 2, 3, 4, 6] rfl rfl rfl rfl (ci := 1) (q0 := 0) rfl rfl rfl rfl hl.1 (Nat.le_of_ble_eq_true rfl) dX1_form_7 ⟨Nat.zero_le _, Nat.zero_le _⟩ (fun H locs hP hD hS => ?_)
  refine lv_iload_n hx hb dX1_form_10 rfl (lv_at hl 2 rfl) ?_
  refine lv_iadd hx hb dX1_form_11 ?_
  refine lv_topi (fun v4_1 ev4_1 => ?_)
  replace hm := lt_go ev4_1 hm
  refine lv_istore (lv' := [(4, .int v4_1), (0, .ref h_t), (1, .int a1), (2, .int a2), (3, .int a3)]) hx hb dX1_form_12 hl (by decide) rfl (fun ls hl => ?_)
  refine lv_iload_n hx hb dX1_form_14 rfl (lv_at hl 3 rfl) ?_
  refine lv_if_lt (tgt := 38) hx hb dX1_form_15 (by decide) (fun c15 => ?_) (fun c15 => ?_)
  · replace hm := if_t c15 hm
    refine lv_iconst (v := (-1)) hx hb dX1_form_38 (by decide) ?_
    cases hm
    exact W_mono hQ (W.iret hx hb hr (fun t ht hW => ⟨⟨_, (), rfl, rfl, by rw [ht]; exact hP, va_K.moved hW.alike hK, hD⟩, hS.F ht⟩) hS.2.2 dX1_form_39)
  · replace hm := if_f c15 hm
    refine lv_iload hx hb dX1_form_18 (lv_at hl 0 rfl) ?_
    refine lv_aload_n hx hb dX1_form_20 rfl (lv_at hl 1 rfl) ?_
    refine lv_iload_n hx hb dX1_form_21 rfl (lv_at hl 2 rfl) ?_
    obtain ⟨r_2, hc22, hm⟩ := bd1_go hm
    refine my_cVi (As := [.int a1]) (rest := [.int v4_1]) (WC := [(h_t, .inr (1, [.int f_t_builtSize_1, .int f_t_all_1, .ref h_t_rising, .ref h_t_sorted, .ref h_t_rows, .ref h_t_starts, .ref h_t_seen])), (h_t_starts, .inl (cA, 14, .inl f_t_starts_1))]) (WC' := [(h_t, .inr (1, [.int f_t_builtSize_1, .int f_t_all_1, .ref h_t_rising, .ref h_t_sorted, .ref h_t_rows, .ref h_t_starts, .ref h_t_seen])), (h_t_starts, .inl (cA, 14, .inl f_t_starts_1))]) (WR := [(h_t_seen, .inr (5, [.ref h_t_seen_bits])), (h_t_rising, .inl (cA, 224, .inl f_t_rising_1)), (h_t_rows, .inl (cA, 224, .inl f_t_rows_1)), (h_t_seen_bits, .inl (cA, 128, .inl f_t_seen_bits_1)), (h_t_sorted, .inl (cA, 224, .inl f_t_sorted_1))]) (W' := [(h_t, .inr (1, [.int f_t_builtSize_1, .int f_t_all_1, .ref h_t_rising, .ref h_t_sorted, .ref h_t_rows, .ref h_t_starts, .ref h_t_seen])), (h_t_seen, .inr (5, [.ref h_t_seen_bits])), (h_t_rising, .inl (cA, 224, .inl f_t_rising_1)), (h_t_rows, .inl (cA, 224, .inl f_t_rows_1)), (h_t_seen_bits, .inl (cA, 128, .inl f_t_seen_bits_1)), (h_t_sorted, .inl (cA, 224, .inl f_t_sorted_1)), (h_t_starts, .inl (cA, 14, .inl f_t_starts_1))]) ⟨hx, hb, hml, hown, hts⟩ hK hP hD hS hA (c_Forms_end l dC dI cA h_t h_t_rising h_t_sorted h_t_rows h_t_starts h_t_seen f_t_builtSize_1 f_t_all_1 f_t_starts_1 a1 r_2 hc22) (cwV 1 hts gX1_form_X1_end rfl rfl rfl (by decide +kernel) ⟨Nat.le_of_ble_eq_true rfl, Nat.le_of_ble_eq_true rfl⟩) [0, 6] [1, 2, 3, 4, 5] [5, 0, 1, 2, 3, 4, 6] rfl rfl rfl rfl (ci := 1) (q0 := 0) rfl rfl rfl rfl hl.1 (Nat.le_of_ble_eq_true rfl) dX1_form_22 ⟨Nat.zero_le _, Nat.zero_le _⟩ (fun H locs hP hD hS => ?_)
    refine lv_icmp_ge (tgt := 38) hx hb dX1_form_25 (by decide) (fun c25 => ?_) (fun c25 => ?_)
    · replace hm := if_t c25 hm
      refine lv_iconst (v := (-1)) hx hb dX1_form_38 (by decide) ?_
      cases hm
      exact W_mono hQ (W.iret hx hb hr (fun t ht hW => ⟨⟨_, (), rfl, rfl, by rw [ht]; exact hP, va_K.moved hW.alike hK, hD⟩, hS.F ht⟩) hS.2.2 dX1_form_39)
    · replace hm := if_f c25 hm
      refine lv_aload_n hx hb dX1_form_28 rfl (lv_at hl 1 rfl) ?_
      refine va_get (D := (dC, dI)) (ci := 1) (v := .ref h_t_sorted) (C := RX1) (T := TX1) (N := 7) hx hb hts uX1 hown hK hP 0 rfl rfl 3 (by decide) k1 (fun _ h9 => h9) rfl dX1_form_29 ?_
      refine lv_iload hx hb dX1_form_32 (lv_at hl 0 rfl) ?_
      obtain ⟨b34, hm⟩ := ck_go hm
      refine va_iald hx hb hK hP 5 0 rfl rfl b34 dX1_form_34 ?_
      refine lv_goto (tgt := 39) hx hb dX1_form_35 (by decide) ?_
      cases hm
      exact W_mono hQ (W.iret hx hb hr (fun t ht hW => ⟨⟨_, (), rfl, rfl, by rw [ht]; exact hP, va_K.moved hW.alike hK, hD⟩, hS.F ht⟩) hS.2.2 dX1_form_39)
abbrev rmX1_numberOf : Room := { frames := 6, cells := 0, slots := 0, locals := 133 }
theorem uX1_X1_numberOf : ∀ w ∈ wsX10, w ∈ wsX1_numberOf := fun _ h => List.mem_cons_of_mem _ (List.mem_append_left _ (List.mem_append_right _ (h)))
set_option maxHeartbeats 40000000 in
set_option maxRecDepth 100000 in
theorem c_Forms_numberOf (l : Launch) (dC : Nat → ClassId) (dI : Nat → Nat → Nat) (cA : ClassId) (fu : Nat) (h_t h_t_seen h_t_rising h_t_sorted h_t_rows h_t_starts h_t_seen_bits : Nat) (f_t_builtSize : Int32) (f_t_all : Int32) (f_t_rising : Nat → Int32) (f_t_rows : Nat → Int32) (f_t_seen_bits : Nat → Int32) (f_t_sorted : Nat → Int32) (f_t_starts : Nat → Int32) (a1 : Int32) (a2 : Int32) (r0 : Int32) (f_t_all_z : Int32) (f_t_builtSize_z : Int32) (f_t_rising_z : Nat → Int32) (f_t_rows_z : Nat → Int32) (f_t_seen_bits_z : Nat → Int32) (f_t_sorted_z : Nat → Int32) (f_t_starts_z : Nat → Int32) (hm : m_Forms_numberOf fu f_t_all f_t_builtSize f_t_rising f_t_rows f_t_seen_bits f_t_sorted f_t_starts a1 a2 = some (r0, f_t_all_z, f_t_builtSize_z, f_t_rising_z, f_t_rows_z, f_t_seen_bits_z, f_t_sorted_z, f_t_starts_z)) (sz : Nat) : Met l yX1_numberOf wsX1_numberOf rmX1_numberOf (mPre (dC, dI) cA [.ref h_t, .int a1, .int a2] sz [(h_t, .inr (1, [.int f_t_builtSize, .int f_t_all, .ref h_t_rising, .ref h_t_sorted, .ref h_t_rows, .ref h_t_starts, .ref h_t_seen])), (h_t_seen, .inr (5, [.ref h_t_seen_bits])), (h_t_rising, .inl (cA, 224, .inl f_t_rising)), (h_t_rows, .inl (cA, 224, .inl f_t_rows)), (h_t_seen_bits, .inl (cA, 128, .inl f_t_seen_bits)), (h_t_sorted, .inl (cA, 224, .inl f_t_sorted)), (h_t_starts, .inl (cA, 14, .inl f_t_starts))]) (mPosI (dC, dI) cA r0 (va_A [(h_t, .inr (1, [.int f_t_builtSize, .int f_t_all, .ref h_t_rising, .ref h_t_sorted, .ref h_t_rows, .ref h_t_starts, .ref h_t_seen])), (h_t_seen, .inr (5, [.ref h_t_seen_bits])), (h_t_rising, .inl (cA, 224, .inl f_t_rising)), (h_t_rows, .inl (cA, 224, .inl f_t_rows)), (h_t_seen_bits, .inl (cA, 128, .inl f_t_seen_bits)), (h_t_sorted, .inl (cA, 224, .inl f_t_sorted)), (h_t_starts, .inl (cA, 14, .inl f_t_starts))] sz) [(h_t, .inr (1, [.int f_t_builtSize_z, .int f_t_all_z, .ref h_t_rising, .ref h_t_sorted, .ref h_t_rows, .ref h_t_starts, .ref h_t_seen])), (h_t_seen, .inr (5, [.ref h_t_seen_bits])), (h_t_rising, .inl (cA, 224, .inl f_t_rising_z)), (h_t_rows, .inl (cA, 224, .inl f_t_rows_z)), (h_t_seen_bits, .inl (cA, 128, .inl f_t_seen_bits_z)), (h_t_sorted, .inl (cA, 224, .inl f_t_sorted_z)), (h_t_starts, .inl (cA, 14, .inl f_t_starts_z))]) 0 0 (va_A [(h_t, .inr (1, [.int f_t_builtSize, .int f_t_all, .ref h_t_rising, .ref h_t_sorted, .ref h_t_rows, .ref h_t_starts, .ref h_t_seen])), (h_t_seen, .inr (5, [.ref h_t_seen_bits])), (h_t_rising, .inl (cA, 224, .inl f_t_rising)), (h_t_rows, .inl (cA, 224, .inl f_t_rows)), (h_t_seen_bits, .inl (cA, 128, .inl f_t_seen_bits)), (h_t_sorted, .inl (cA, 224, .inl f_t_sorted)), (h_t_starts, .inl (cA, 14, .inl f_t_starts))] sz) := by
  refine Met.ofW (cc := cX1_numberOf) (maxL := 5) (ret := (some .int)) (by decide) rfl ?_
  intro p e s m args below meth c s₁ B hml hv
  obtain ⟨rfl, hsz, hP, hK, hD0⟩ := hv
  refine W_gen (fun Q hQ => ?_)
  have hx := B.exec
  have hb := B.bytes
  have hr := B.returns
  have hts := atoms_spec (ws := wsX1_numberOf) B.pre
  have hown : s.vm.findClass RX1 = some m.cls := findClass_of_methodNamed B.named
  have hlocks := B.notSynchronized
  subst hsz
  have hD := hD0.self (sz := s.heap.size)
  clear hD0
  generalize hAe : va_A [(h_t, .inr (1, [.int f_t_builtSize, .int f_t_all, .ref h_t_rising, .ref h_t_sorted, .ref h_t_rows, .ref h_t_starts, .ref h_t_seen])), (h_t_seen, .inr (5, [.ref h_t_seen_bits])), (h_t_rising, .inl (cA, 224, .inl f_t_rising)), (h_t_rows, .inl (cA, 224, .inl f_t_rows)), (h_t_seen_bits, .inl (cA, 128, .inl f_t_seen_bits)), (h_t_sorted, .inl (cA, 224, .inl f_t_sorted)), (h_t_starts, .inl (cA, 14, .inl f_t_starts))] s.heap.size = A at hD hQ
  have hA : ∀ q : Nat, s.heap.size ≤ q → A q := fun q h => by rw [← hAe]; exact Or.inr h
  clear hAe
  have hS : va_S A s.heap s.heap [] := va_S.rf
  have hl := lv_entry ([.ref h_t, .int a1, .int a2]) (n := 5) (Nat.le_of_ble_eq_true rfl)
  rw [lg_entry_eq]
  generalize (lg_sl ([.ref h_t, .int a1, .int a2]) ++ List.replicate (5 - (lg_sl ([.ref h_t, .int a1, .int a2])).length) Slot.unset).toArray = ls at hl ⊢
  have hl : lv_has ls 5 [(0, .ref h_t), (1, .int a1), (2, .int a2)] := hl
  have k1 := hts (.fieldLink RX1 22 "ToneSets$Forms" "sorted" "[I") (List.mem_of_getElem? (i := 1) rfl)
  have uX1 := uX1_X1_numberOf
  unfold m_Forms_numberOf at hm
  refine lv_aload_n hx hb dX1_numberOf_0 rfl (lv_at hl 0 rfl) ?_
  refine lv_iload_n hx hb dX1_numberOf_1 rfl (lv_at hl 2 rfl) ?_
  obtain ⟨f_t_all_1, f_t_builtSize_1, f_t_rising_1, f_t_rows_1, f_t_seen_bits_1, f_t_sorted_1, f_t_starts_1, hc2, hm⟩ := bd7_go hm
  refine my_cVv (As := [.int a2]) (rest := []) (WC := [(h_t, .inr (1, [.int f_t_builtSize, .int f_t_all, .ref h_t_rising, .ref h_t_sorted, .ref h_t_rows, .ref h_t_starts, .ref h_t_seen])), (h_t_seen, .inr (5, [.ref h_t_seen_bits])), (h_t_rising, .inl (cA, 224, .inl f_t_rising)), (h_t_rows, .inl (cA, 224, .inl f_t_rows)), (h_t_seen_bits, .inl (cA, 128, .inl f_t_seen_bits)), (h_t_sorted, .inl (cA, 224, .inl f_t_sorted)), (h_t_starts, .inl (cA, 14, .inl f_t_starts))]) (WC' := [(h_t, .inr (1, [.int f_t_builtSize_1, .int f_t_all_1, .ref h_t_rising, .ref h_t_sorted, .ref h_t_rows, .ref h_t_starts, .ref h_t_seen])), (h_t_seen, .inr (5, [.ref h_t_seen_bits])), (h_t_rising, .inl (cA, 224, .inl f_t_rising_1)), (h_t_rows, .inl (cA, 224, .inl f_t_rows_1)), (h_t_seen_bits, .inl (cA, 128, .inl f_t_seen_bits_1)), (h_t_sorted, .inl (cA, 224, .inl f_t_sorted_1)), (h_t_starts, .inl (cA, 14, .inl f_t_starts_1))]) (WR := []) (W' := [(h_t, .inr (1, [.int f_t_builtSize_1, .int f_t_all_1, .ref h_t_rising, .ref h_t_sorted, .ref h_t_rows, .ref h_t_starts, .ref h_t_seen])), (h_t_seen, .inr (5, [.ref h_t_seen_bits])), (h_t_rising, .inl (cA, 224, .inl f_t_rising_1)), (h_t_rows, .inl (cA, 224, .inl f_t_rows_1)), (h_t_seen_bits, .inl (cA, 128, .inl f_t_seen_bits_1)), (h_t_sorted, .inl (cA, 224, .inl f_t_sorted_1)), (h_t_starts, .inl (cA, 14, .inl f_t_starts_1))]) ⟨hx, hb, hml, hown, hts⟩ hK hP hD hS hA (c_Forms_build l dC dI cA fu h_t h_t_seen h_t_rising h_t_sorted h_t_rows h_t_starts h_t_seen_bits f_t_builtSize f_t_all f_t_rising f_t_rows f_t_seen_bits f_t_sorted f_t_starts a2 f_t_all_1 f_t_builtSize_1 f_t_rising_1 f_t_rows_1 f_t_seen_bits_1 f_t_sorted_1 f_t_starts_1 hc2) (cwV 1 hts gX1_numberOf_X1_build rfl rfl rfl (by decide +kernel) ⟨Nat.le_of_ble_eq_true rfl, Nat.le_of_ble_eq_true rfl⟩) [0, 1, 2, 3, 4, 5, 6] [] [0, 1, 2, 3, 4, 5, 6] rfl rfl rfl rfl (ci := 1) (q0 := 0) rfl rfl rfl rfl hl.1 (Nat.le_of_ble_eq_true rfl) dX1_numberOf_2 ⟨Nat.zero_le _, Nat.zero_le _⟩ (fun H locs hP hD hS => ?_)
  refine lv_iload_n hx hb dX1_numberOf_5 rfl (lv_at hl 1 rfl) ?_
  obtain ⟨r_1, hc6, hm⟩ := bd1_go hm
  refine my_cSi (As := [.int a1]) (rest := []) (WC := []) (WC' := []) (WR := [(h_t, .inr (1, [.int f_t_builtSize_1, .int f_t_all_1, .ref h_t_rising, .ref h_t_sorted, .ref h_t_rows, .ref h_t_starts, .ref h_t_seen])), (h_t_seen, .inr (5, [.ref h_t_seen_bits])), (h_t_rising, .inl (cA, 224, .inl f_t_rising_1)), (h_t_rows, .inl (cA, 224, .inl f_t_rows_1)), (h_t_seen_bits, .inl (cA, 128, .inl f_t_seen_bits_1)), (h_t_sorted, .inl (cA, 224, .inl f_t_sorted_1)), (h_t_starts, .inl (cA, 14, .inl f_t_starts_1))]) (W' := [(h_t, .inr (1, [.int f_t_builtSize_1, .int f_t_all_1, .ref h_t_rising, .ref h_t_sorted, .ref h_t_rows, .ref h_t_starts, .ref h_t_seen])), (h_t_seen, .inr (5, [.ref h_t_seen_bits])), (h_t_rising, .inl (cA, 224, .inl f_t_rising_1)), (h_t_rows, .inl (cA, 224, .inl f_t_rows_1)), (h_t_seen_bits, .inl (cA, 128, .inl f_t_seen_bits_1)), (h_t_sorted, .inl (cA, 224, .inl f_t_sorted_1)), (h_t_starts, .inl (cA, 14, .inl f_t_starts_1))]) ⟨hx, hb, hml, hown, hts⟩ hK hP hD hS hA (c_Ji_bitCount l dC dI cA a1 r_1 hc6) (va_cwS 1 hts gX1_numberOf_J6_bitCount_0f7a4 rfl rfl rfl (by decide +kernel) ⟨Nat.le_of_ble_eq_true rfl, Nat.le_of_ble_eq_true rfl⟩) [] [0, 1, 2, 3, 4, 5, 6] [0, 1, 2, 3, 4, 5, 6] rfl rfl rfl rfl rfl rfl hl.1 (Nat.le_of_ble_eq_true rfl) dX1_numberOf_6 ⟨Nat.zero_le _, Nat.zero_le _⟩ (fun H locs hP hD hS => ?_)
  refine lv_topi (fun v3_1 ev3_1 => ?_)
  replace hm := lt_go ev3_1 hm
  refine lv_istore_n (lv' := [(3, .int v3_1), (0, .ref h_t), (1, .int a1), (2, .int a2)]) hx hb dX1_numberOf_9 rfl hl (by decide) rfl (fun ls hl => ?_)
  refine lv_aload_n hx hb dX1_numberOf_10 rfl (lv_at hl 1 rfl) ?_
  refine lv_iload_n hx hb dX1_numberOf_11 rfl (lv_at hl 0 rfl) ?_
  obtain ⟨r_2, hc12, hm⟩ := bd1_go hm
  refine my_cVi (As := [.int v3_1]) (rest := []) (WC := [(h_t, .inr (1, [.int f_t_builtSize_1, .int f_t_all_1, .ref h_t_rising, .ref h_t_sorted, .ref h_t_rows, .ref h_t_starts, .ref h_t_seen])), (h_t_starts, .inl (cA, 14, .inl f_t_starts_1))]) (WC' := [(h_t, .inr (1, [.int f_t_builtSize_1, .int f_t_all_1, .ref h_t_rising, .ref h_t_sorted, .ref h_t_rows, .ref h_t_starts, .ref h_t_seen])), (h_t_starts, .inl (cA, 14, .inl f_t_starts_1))]) (WR := [(h_t_seen, .inr (5, [.ref h_t_seen_bits])), (h_t_rising, .inl (cA, 224, .inl f_t_rising_1)), (h_t_rows, .inl (cA, 224, .inl f_t_rows_1)), (h_t_seen_bits, .inl (cA, 128, .inl f_t_seen_bits_1)), (h_t_sorted, .inl (cA, 224, .inl f_t_sorted_1))]) (W' := [(h_t, .inr (1, [.int f_t_builtSize_1, .int f_t_all_1, .ref h_t_rising, .ref h_t_sorted, .ref h_t_rows, .ref h_t_starts, .ref h_t_seen])), (h_t_seen, .inr (5, [.ref h_t_seen_bits])), (h_t_rising, .inl (cA, 224, .inl f_t_rising_1)), (h_t_rows, .inl (cA, 224, .inl f_t_rows_1)), (h_t_seen_bits, .inl (cA, 128, .inl f_t_seen_bits_1)), (h_t_sorted, .inl (cA, 224, .inl f_t_sorted_1)), (h_t_starts, .inl (cA, 14, .inl f_t_starts_1))]) ⟨hx, hb, hml, hown, hts⟩ hK hP hD hS hA (c_Forms_start l dC dI cA h_t h_t_rising h_t_sorted h_t_rows h_t_starts h_t_seen f_t_builtSize_1 f_t_all_1 f_t_starts_1 v3_1 r_2 hc12) (cwV 1 hts gX1_numberOf_X1_start rfl rfl rfl (by decide +kernel) ⟨Nat.le_of_ble_eq_true rfl, Nat.le_of_ble_eq_true rfl⟩) [0, 6] [1, 2, 3, 4, 5] [5, 0, 1, 2, 3, 4, 6] rfl rfl rfl rfl (ci := 1) (q0 := 0) rfl rfl rfl rfl hl.1 (Nat.le_of_ble_eq_true rfl) dX1_numberOf_12 ⟨Nat.zero_le _, Nat.zero_le _⟩ (fun H locs hP hD hS => ?_)
  refine lv_topi (fun v4_1 ev4_1 => ?_)
  replace hm := lt_go ev4_1 hm
  refine lv_istore (lv' := [(4, .int v4_1), (3, .int v3_1), (0, .ref h_t), (1, .int a1), (2, .int a2)]) hx hb dX1_numberOf_15 hl (by decide) rfl (fun ls hl => ?_)
  have L17 : ∀ (n : Nat) (v4_2 : Int32), m_Forms_numberOf_L17 f_t_starts_1 v3_1 f_t_all_1 f_t_builtSize_1 f_t_rising_1 f_t_rows_1 f_t_seen_bits_1 f_t_sorted_1 a1 n v4_2 = some (r0, f_t_all_z, f_t_builtSize_z, f_t_rising_z, f_t_rows_z, f_t_seen_bits_z, f_t_sorted_z, f_t_starts_z) → ∀ (H : Heap) (locs : List Loc), va_P (dC, dI) vwCl [(h_t, .inr (1, [.int f_t_builtSize_1, .int f_t_all_1, .ref h_t_rising, .ref h_t_sorted, .ref h_t_rows, .ref h_t_starts, .ref h_t_seen])), (h_t_seen, .inr (5, [.ref h_t_seen_bits])), (h_t_rising, .inl (cA, 224, .inl f_t_rising_1)), (h_t_rows, .inl (cA, 224, .inl f_t_rows_1)), (h_t_seen_bits, .inl (cA, 128, .inl f_t_seen_bits_1)), (h_t_sorted, .inl (cA, 224, .inl f_t_sorted_1)), (h_t_starts, .inl (cA, 14, .inl f_t_starts_1))] H → va_D A [(h_t, .inr (1, [.int f_t_builtSize_1, .int f_t_all_1, .ref h_t_rising, .ref h_t_sorted, .ref h_t_rows, .ref h_t_starts, .ref h_t_seen])), (h_t_seen, .inr (5, [.ref h_t_seen_bits])), (h_t_rising, .inl (cA, 224, .inl f_t_rising_1)), (h_t_rows, .inl (cA, 224, .inl f_t_rows_1)), (h_t_seen_bits, .inl (cA, 128, .inl f_t_seen_bits_1)), (h_t_sorted, .inl (cA, 224, .inl f_t_sorted_1)), (h_t_starts, .inl (cA, 14, .inl f_t_starts_1))] → va_S A s.heap H locs → ∀ ls : Array Slot, lv_has ls 5 [(0, .ref h_t), (1, .int a1), (3, .int v3_1), (4, .int v4_2)] → W p l e (headSpec wsX1_numberOf rmX1_numberOf).room s m (([.ref h_t, .int a1, .int a2] : List Value).toArray) below meth c H locs 0 0 Q (F0 m 17 ls []) := by
    clear hm hP hD hS hl
    intro n
    induction n with
    | zero => intro _ hm; exact nomatch (show none = some _ from hm)
    | succ n ih =>
      intro v4_2 hm H locs hP hD hS ls hl
      unfold m_Forms_numberOf_L17 at hm
      refine lv_iload hx hb dX1_numberOf_17 (lv_at hl 3 rfl) ?_
      refine lv_aload_n hx hb dX1_numberOf_19 rfl (lv_at hl 0 rfl) ?_
      refine lv_iload_n hx hb dX1_numberOf_20 rfl (lv_at hl 2 rfl) ?_
      obtain ⟨r_3, hc21, hm⟩ := bd1_go hm
      refine my_cVi (As := [.int v3_1]) (rest := [.int v4_2]) (WC := [(h_t, .inr (1, [.int f_t_builtSize_1, .int f_t_all_1, .ref h_t_rising, .ref h_t_sorted, .ref h_t_rows, .ref h_t_starts, .ref h_t_seen])), (h_t_starts, .inl (cA, 14, .inl f_t_starts_1))]) (WC' := [(h_t, .inr (1, [.int f_t_builtSize_1, .int f_t_all_1, .ref h_t_rising, .ref h_t_sorted, .ref h_t_rows, .ref h_t_starts, .ref h_t_seen])), (h_t_starts, .inl (cA, 14, .inl f_t_starts_1))]) (WR := [(h_t_seen, .inr (5, [.ref h_t_seen_bits])), (h_t_rising, .inl (cA, 224, .inl f_t_rising_1)), (h_t_rows, .inl (cA, 224, .inl f_t_rows_1)), (h_t_seen_bits, .inl (cA, 128, .inl f_t_seen_bits_1)), (h_t_sorted, .inl (cA, 224, .inl f_t_sorted_1))]) (W' := [(h_t, .inr (1, [.int f_t_builtSize_1, .int f_t_all_1, .ref h_t_rising, .ref h_t_sorted, .ref h_t_rows, .ref h_t_starts, .ref h_t_seen])), (h_t_seen, .inr (5, [.ref h_t_seen_bits])), (h_t_rising, .inl (cA, 224, .inl f_t_rising_1)), (h_t_rows, .inl (cA, 224, .inl f_t_rows_1)), (h_t_seen_bits, .inl (cA, 128, .inl f_t_seen_bits_1)), (h_t_sorted, .inl (cA, 224, .inl f_t_sorted_1)), (h_t_starts, .inl (cA, 14, .inl f_t_starts_1))]) ⟨hx, hb, hml, hown, hts⟩ hK hP hD hS hA (c_Forms_end l dC dI cA h_t h_t_rising h_t_sorted h_t_rows h_t_starts h_t_seen f_t_builtSize_1 f_t_all_1 f_t_starts_1 v3_1 r_3 hc21) (cwV 1 hts gX1_numberOf_X1_end rfl rfl rfl (by decide +kernel) ⟨Nat.le_of_ble_eq_true rfl, Nat.le_of_ble_eq_true rfl⟩) [0, 6] [1, 2, 3, 4, 5] [5, 0, 1, 2, 3, 4, 6] rfl rfl rfl rfl (ci := 1) (q0 := 0) rfl rfl rfl rfl hl.1 (Nat.le_of_ble_eq_true rfl) dX1_numberOf_21 ⟨Nat.zero_le _, Nat.zero_le _⟩ (fun H locs hP hD hS => ?_)
      refine lv_icmp_ge (tgt := 53) hx hb dX1_numberOf_24 (by decide) (fun c24 => ?_) (fun c24 => ?_)
      · replace hm := if_t c24 hm
        refine lv_iconst (v := (-1)) hx hb dX1_numberOf_53 (by decide) ?_
        cases hm
        exact W_mono hQ (W.iret hx hb hr (fun t ht hW => ⟨⟨_, (), rfl, rfl, by rw [ht]; exact hP, va_K.moved hW.alike hK, hD⟩, hS.F ht⟩) hS.2.2 dX1_numberOf_54)
      · replace hm := if_f c24 hm
        refine lv_aload_n hx hb dX1_numberOf_27 rfl (lv_at hl 0 rfl) ?_
        refine va_get (D := (dC, dI)) (ci := 1) (v := .ref h_t_sorted) (C := RX1) (T := TX1) (N := 7) hx hb hts uX1 hown hK hP 0 rfl rfl 3 (by decide) k1 (fun _ h9 => h9) rfl dX1_numberOf_28 ?_
        refine lv_iload hx hb dX1_numberOf_31 (lv_at hl 3 rfl) ?_
        obtain ⟨b33, hm⟩ := ck_go hm
        refine va_iald hx hb hK hP 5 0 rfl rfl b33 dX1_numberOf_33 ?_
        refine lv_iload_n hx hb dX1_numberOf_34 rfl (lv_at hl 1 rfl) ?_
        refine lv_icmp_ne (tgt := 47) hx hb dX1_numberOf_35 (by decide) (fun c35 => ?_) (fun c35 => ?_)
        · replace hm := if_f c35 hm
          obtain ⟨v4_3, ev4_3⟩ : ∃ z : Int32, z = v4_2 + 1 := ⟨_, rfl⟩
          replace hm := lt_go ev4_3 hm
          refine lv_iinc (v := v4_3) (lv' := [(4, .int v4_3), (0, .ref h_t), (1, .int a1), (3, .int v3_1)]) hx hb dX1_numberOf_47 hl (k := 3) rfl (by rw [ev4_3]; rfl) (by decide) rfl (fun ls hl => ?_)
          refine lv_goto (tgt := 17) hx hb dX1_numberOf_50 (by decide) ?_
          exact ih _ hm _ _ hP hD hS _ (lv_sub hl [1, 2, 3, 0] rfl)
        · replace hm := if_t c35 hm
          refine lv_iload hx hb dX1_numberOf_38 (lv_at hl 3 rfl) ?_
          refine lv_aload_n hx hb dX1_numberOf_40 rfl (lv_at hl 0 rfl) ?_
          refine lv_iload_n hx hb dX1_numberOf_41 rfl (lv_at hl 2 rfl) ?_
          obtain ⟨r_4, hc42, hm⟩ := bd1_go hm
          refine my_cVi (As := [.int v3_1]) (rest := [.int v4_2]) (WC := [(h_t, .inr (1, [.int f_t_builtSize_1, .int f_t_all_1, .ref h_t_rising, .ref h_t_sorted, .ref h_t_rows, .ref h_t_starts, .ref h_t_seen])), (h_t_starts, .inl (cA, 14, .inl f_t_starts_1))]) (WC' := [(h_t, .inr (1, [.int f_t_builtSize_1, .int f_t_all_1, .ref h_t_rising, .ref h_t_sorted, .ref h_t_rows, .ref h_t_starts, .ref h_t_seen])), (h_t_starts, .inl (cA, 14, .inl f_t_starts_1))]) (WR := [(h_t_seen, .inr (5, [.ref h_t_seen_bits])), (h_t_rising, .inl (cA, 224, .inl f_t_rising_1)), (h_t_rows, .inl (cA, 224, .inl f_t_rows_1)), (h_t_seen_bits, .inl (cA, 128, .inl f_t_seen_bits_1)), (h_t_sorted, .inl (cA, 224, .inl f_t_sorted_1))]) (W' := [(h_t, .inr (1, [.int f_t_builtSize_1, .int f_t_all_1, .ref h_t_rising, .ref h_t_sorted, .ref h_t_rows, .ref h_t_starts, .ref h_t_seen])), (h_t_seen, .inr (5, [.ref h_t_seen_bits])), (h_t_rising, .inl (cA, 224, .inl f_t_rising_1)), (h_t_rows, .inl (cA, 224, .inl f_t_rows_1)), (h_t_seen_bits, .inl (cA, 128, .inl f_t_seen_bits_1)), (h_t_sorted, .inl (cA, 224, .inl f_t_sorted_1)), (h_t_starts, .inl (cA, 14, .inl f_t_starts_1))]) ⟨hx, hb, hml, hown, hts⟩ hK hP hD hS hA (c_Forms_start l dC dI cA h_t h_t_rising h_t_sorted h_t_rows h_t_starts h_t_seen f_t_builtSize_1 f_t_all_1 f_t_starts_1 v3_1 r_4 hc42) (cwV 1 hts gX1_numberOf_X1_start rfl rfl rfl (by decide +kernel) ⟨Nat.le_of_ble_eq_true rfl, Nat.le_of_ble_eq_true rfl⟩) [0, 6] [1, 2, 3, 4, 5] [5, 0, 1, 2, 3, 4, 6] rfl rfl rfl rfl (ci := 1) (q0 := 0) rfl rfl rfl rfl hl.1 (Nat.le_of_ble_eq_true rfl) dX1_numberOf_42 ⟨Nat.zero_le _, Nat.zero_le _⟩ (fun H locs hP hD hS => ?_)
          refine lv_isub hx hb dX1_numberOf_45 ?_
          cases hm
          exact W_mono hQ (W.iret hx hb hr (fun t ht hW => ⟨⟨_, (), rfl, rfl, by rw [ht]; exact hP, va_K.moved hW.alike hK, hD⟩, hS.F ht⟩) hS.2.2 dX1_numberOf_46)
  exact L17 _ _ hm _ _ hP hD hS _ (lv_sub hl [2, 3, 1, 0] rfl)
abbrev rmX5_has : Room := { frames := 0, cells := 0, slots := 0, locals := 0 }
theorem uX5_X5_has : ∀ w ∈ wsX50, w ∈ wsX5_has := fun _ h => List.mem_cons_of_mem _ (List.mem_append_right _ (h))
set_option maxHeartbeats 40000000 in
set_option maxRecDepth 100000 in
theorem c_Rows_has (l : Launch) (dC : Nat → ClassId) (dI : Nat → Nat → Nat) (cA : ClassId) (h_t h_t_cells : Nat) (f_t_count : Int32) (a1 : Int32) (r0 : Int32) (hm : m_Rows_has f_t_count a1 = some r0) (sz : Nat) : Met l yX5_has wsX5_has rmX5_has (mPre (dC, dI) cA [.ref h_t, .int a1] sz [(h_t, .inr (4, [.int f_t_count, .ref h_t_cells]))]) (mPosI (dC, dI) cA r0 (va_A [(h_t, .inr (4, [.int f_t_count, .ref h_t_cells]))] sz) [(h_t, .inr (4, [.int f_t_count, .ref h_t_cells]))]) 0 0 (va_A [(h_t, .inr (4, [.int f_t_count, .ref h_t_cells]))] sz) := by
  refine Met.ofW (cc := cX5_has) (maxL := 2) (ret := (some .boolean)) (by decide) rfl ?_
  intro p e s m args below meth c s₁ B hml hv
  obtain ⟨rfl, hsz, hP, hK, hD0⟩ := hv
  refine W_gen (fun Q hQ => ?_)
  have hx := B.exec
  have hb := B.bytes
  have hr := B.returns
  have hts := atoms_spec (ws := wsX5_has) B.pre
  have hown : s.vm.findClass RX5 = some m.cls := findClass_of_methodNamed B.named
  have hlocks := B.notSynchronized
  subst hsz
  have hD := hD0.self (sz := s.heap.size)
  clear hD0
  generalize hAe : va_A [(h_t, .inr (4, [.int f_t_count, .ref h_t_cells]))] s.heap.size = A at hD hQ
  have hA : ∀ q : Nat, s.heap.size ≤ q → A q := fun q h => by rw [← hAe]; exact Or.inr h
  clear hAe
  have hS : va_S A s.heap s.heap [] := va_S.rf
  have hl := lv_entry ([.ref h_t, .int a1]) (n := 2) (Nat.le_of_ble_eq_true rfl)
  rw [lg_entry_eq]
  generalize (lg_sl ([.ref h_t, .int a1]) ++ List.replicate (2 - (lg_sl ([.ref h_t, .int a1])).length) Slot.unset).toArray = ls at hl ⊢
  have hl : lv_has ls 2 [(0, .ref h_t), (1, .int a1)] := hl
  have k1 := hts (.fieldLink RX5 20 "ToneSets$Rows" "count" "I") (List.mem_of_getElem? (i := 1) rfl)
  have uX5 := uX5_X5_has
  unfold m_Rows_has at hm
  refine lv_iload_n hx hb dX5_has_0 rfl (lv_at hl 1 rfl) ?_
  refine lv_if_lt (tgt := 16) hx hb dX5_has_1 (by decide) (fun c1 => ?_) (fun c1 => ?_)
  · replace hm := if_t c1 hm
    refine lv_iconst (v := 0) hx hb dX5_has_16 (by decide) ?_
    cases hm
    exact W_mono hQ (W.zret hx hb hr rfl (fun t ht hW => ⟨⟨_, (), rfl, rfl, by rw [ht]; exact hP, va_K.moved hW.alike hK, hD⟩, hS.F ht⟩) hS.2.2 dX5_has_17)
  · replace hm := if_f c1 hm
    refine lv_iload_n hx hb dX5_has_4 rfl (lv_at hl 1 rfl) ?_
    refine lv_aload_n hx hb dX5_has_5 rfl (lv_at hl 0 rfl) ?_
    refine va_get (D := (dC, dI)) (ci := 4) (v := .int f_t_count) (C := RX5) (T := TX5) (N := 2) hx hb hts uX5 hown hK hP 0 rfl rfl 0 (by decide) k1 (fun _ h9 => h9) rfl dX5_has_6 ?_
    refine lv_icmp_ge (tgt := 16) hx hb dX5_has_9 (by decide) (fun c9 => ?_) (fun c9 => ?_)
    · replace hm := if_t c9 hm
      refine lv_iconst (v := 0) hx hb dX5_has_16 (by decide) ?_
      cases hm
      exact W_mono hQ (W.zret hx hb hr rfl (fun t ht hW => ⟨⟨_, (), rfl, rfl, by rw [ht]; exact hP, va_K.moved hW.alike hK, hD⟩, hS.F ht⟩) hS.2.2 dX5_has_17)
    · replace hm := if_f c9 hm
      refine lv_iconst (v := 1) hx hb dX5_has_12 (by decide) ?_
      refine lv_goto (tgt := 17) hx hb dX5_has_13 (by decide) ?_
      cases hm
      exact W_mono hQ (W.zret hx hb hr rfl (fun t ht hW => ⟨⟨_, (), rfl, rfl, by rw [ht]; exact hP, va_K.moved hW.alike hK, hD⟩, hS.F ht⟩) hS.2.2 dX5_has_17)
abbrev rmX5_isStored : Room := { frames := 1, cells := 0, slots := 0, locals := 21 }
theorem uX5_X5_isStored : ∀ w ∈ wsX50, w ∈ wsX5_isStored := fun _ h => List.mem_cons_of_mem _ (List.mem_append_right _ (h))
set_option maxHeartbeats 40000000 in
set_option maxRecDepth 100000 in
theorem c_Rows_isStored (l : Launch) (dC : Nat → ClassId) (dI : Nat → Nat → Nat) (cA : ClassId) (h_t h_t_cells : Nat) (n_t_cells : Nat) (f_t_count : Int32) (f_t_cells : Nat → Int32) (a1 : Int32) (r0 : Int32) (hm : m_Rows_isStored n_t_cells f_t_cells f_t_count a1 = some r0) (sz : Nat) : Met l yX5_isStored wsX5_isStored rmX5_isStored (mPre (dC, dI) cA [.ref h_t, .int a1] sz [(h_t, .inr (4, [.int f_t_count, .ref h_t_cells])), (h_t_cells, .inl (cA, n_t_cells, .inl f_t_cells))]) (mPosI (dC, dI) cA r0 (va_A [(h_t, .inr (4, [.int f_t_count, .ref h_t_cells])), (h_t_cells, .inl (cA, n_t_cells, .inl f_t_cells))] sz) [(h_t, .inr (4, [.int f_t_count, .ref h_t_cells])), (h_t_cells, .inl (cA, n_t_cells, .inl f_t_cells))]) 0 0 (va_A [(h_t, .inr (4, [.int f_t_count, .ref h_t_cells])), (h_t_cells, .inl (cA, n_t_cells, .inl f_t_cells))] sz) := by
  refine Met.ofW (cc := cX5_isStored) (maxL := 2) (ret := (some .boolean)) (by decide) rfl ?_
  intro p e s m args below meth c s₁ B hml hv
  obtain ⟨rfl, hsz, hP, hK, hD0⟩ := hv
  refine W_gen (fun Q hQ => ?_)
  have hx := B.exec
  have hb := B.bytes
  have hr := B.returns
  have hts := atoms_spec (ws := wsX5_isStored) B.pre
  have hown : s.vm.findClass RX5 = some m.cls := findClass_of_methodNamed B.named
  have hlocks := B.notSynchronized
  subst hsz
  have hD := hD0.self (sz := s.heap.size)
  clear hD0
  generalize hAe : va_A [(h_t, .inr (4, [.int f_t_count, .ref h_t_cells])), (h_t_cells, .inl (cA, n_t_cells, .inl f_t_cells))] s.heap.size = A at hD hQ
  have hA : ∀ q : Nat, s.heap.size ≤ q → A q := fun q h => by rw [← hAe]; exact Or.inr h
  clear hAe
  have hS : va_S A s.heap s.heap [] := va_S.rf
  have hl := lv_entry ([.ref h_t, .int a1]) (n := 2) (Nat.le_of_ble_eq_true rfl)
  rw [lg_entry_eq]
  generalize (lg_sl ([.ref h_t, .int a1]) ++ List.replicate (2 - (lg_sl ([.ref h_t, .int a1])).length) Slot.unset).toArray = ls at hl ⊢
  have hl : lv_has ls 2 [(0, .ref h_t), (1, .int a1)] := hl
  have k1 := hts (.fieldLink RX5 24 "ToneSets$Rows" "cells" "[I") (List.mem_of_getElem? (i := 1) rfl)
  have uX5 := uX5_X5_isStored
  unfold m_Rows_isStored at hm
  refine lv_aload_n hx hb dX5_isStored_0 rfl (lv_at hl 0 rfl) ?_
  refine lv_iload_n hx hb dX5_isStored_1 rfl (lv_at hl 1 rfl) ?_
  obtain ⟨r_1, hc2, hm⟩ := bd1_go hm
  refine my_cVi (As := [.int a1]) (rest := []) (WC := [(h_t, .inr (4, [.int f_t_count, .ref h_t_cells]))]) (WC' := [(h_t, .inr (4, [.int f_t_count, .ref h_t_cells]))]) (WR := [(h_t_cells, .inl (cA, n_t_cells, .inl f_t_cells))]) (W' := [(h_t, .inr (4, [.int f_t_count, .ref h_t_cells])), (h_t_cells, .inl (cA, n_t_cells, .inl f_t_cells))]) ⟨hx, hb, hml, hown, hts⟩ hK hP hD hS hA (c_Rows_has l dC dI cA h_t h_t_cells f_t_count a1 r_1 hc2) (cwV 1 hts gX5_isStored_X5_has rfl rfl rfl (by decide +kernel) ⟨Nat.le_of_ble_eq_true rfl, Nat.le_of_ble_eq_true rfl⟩) [0] [1] [1, 0] rfl rfl rfl rfl (ci := 4) (q0 := 0) rfl rfl rfl rfl hl.1 (Nat.le_of_ble_eq_true rfl) dX5_isStored_2 ⟨Nat.zero_le _, Nat.zero_le _⟩ (fun H locs hP hD hS => ?_)
  refine lv_if_eq (tgt := 26) hx hb dX5_isStored_5 (by decide) (fun c5 => ?_) (fun c5 => ?_)
  · replace hm := if_t c5 hm
    refine lv_iconst (v := 0) hx hb dX5_isStored_26 (by decide) ?_
    cases hm
    exact W_mono hQ (W.zret hx hb hr rfl (fun t ht hW => ⟨⟨_, (), rfl, rfl, by rw [ht]; exact hP, va_K.moved hW.alike hK, hD⟩, hS.F ht⟩) hS.2.2 dX5_isStored_27)
  · replace hm := if_f c5 hm
    refine lv_aload_n hx hb dX5_isStored_8 rfl (lv_at hl 0 rfl) ?_
    refine va_get (D := (dC, dI)) (ci := 4) (v := .ref h_t_cells) (C := RX5) (T := TX5) (N := 2) hx hb hts uX5 hown hK hP 0 rfl rfl 1 (by decide) k1 (fun _ h9 => h9) rfl dX5_isStored_9 ?_
    refine lv_iload_n hx hb dX5_isStored_12 rfl (lv_at hl 1 rfl) ?_
    refine lv_bipush (v := 11) hx hb dX5_isStored_13 (by decide) ?_
    refine lv_imul hx hb dX5_isStored_15 ?_
    refine lv_iconst (v := 0) hx hb dX5_isStored_16 (by decide) ?_
    refine lv_iadd hx hb dX5_isStored_17 ?_
    obtain ⟨b18, hm⟩ := ck_go hm
    refine va_iald hx hb hK hP 1 0 rfl rfl b18 dX5_isStored_18 ?_
    refine lv_if_eq (tgt := 26) hx hb dX5_isStored_19 (by decide) (fun c19 => ?_) (fun c19 => ?_)
    · replace hm := if_t c19 hm
      refine lv_iconst (v := 0) hx hb dX5_isStored_26 (by decide) ?_
      cases hm
      exact W_mono hQ (W.zret hx hb hr rfl (fun t ht hW => ⟨⟨_, (), rfl, rfl, by rw [ht]; exact hP, va_K.moved hW.alike hK, hD⟩, hS.F ht⟩) hS.2.2 dX5_isStored_27)
    · replace hm := if_f c19 hm
      refine lv_iconst (v := 1) hx hb dX5_isStored_22 (by decide) ?_
      refine lv_goto (tgt := 27) hx hb dX5_isStored_23 (by decide) ?_
      cases hm
      exact W_mono hQ (W.zret hx hb hr rfl (fun t ht hW => ⟨⟨_, (), rfl, rfl, by rw [ht]; exact hP, va_K.moved hW.alike hK, hD⟩, hS.F ht⟩) hS.2.2 dX5_isStored_27)
