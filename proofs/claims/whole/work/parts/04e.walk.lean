abbrev rmX4_leastTo : Room := { frames := 1, cells := 0, slots := 0, locals := 21 }
theorem uX4_X4_leastTo : ∀ w ∈ wsX40, w ∈ wsX4_leastTo := fun _ h => List.mem_cons_of_mem _ (List.mem_append_right _ (h))
set_option maxHeartbeats 40000000 in
set_option maxRecDepth 100000 in
theorem c_Round_leastTo (l : Launch) (dC : Nat → ClassId) (dI : Nat → Nat → Nat) (cA : ClassId) (fu : Nat) (h_t h_t_stopSets h_t_lengths h_t_best : Nat) (f_t_stops : Int32) (f_t_best : Nat → Int32) (f_t_lengths : Nat → Int32) (a1 : Int32) (a2 : Int32) (a3 : Int32) (r0 : Int32) (hm : m_Round_leastTo fu f_t_best f_t_lengths a1 a2 a3 = some r0) (sz : Nat) : Met l yX4_leastTo wsX4_leastTo rmX4_leastTo (mPre (dC, dI) cA [.ref h_t, .int a1, .int a2, .int a3] sz [(h_t, .inr (3, [.int f_t_stops, .ref h_t_stopSets, .ref h_t_lengths, .ref h_t_best])), (h_t_best, .inl (cA, 896, .inl f_t_best)), (h_t_lengths, .inl (cA, 64, .inl f_t_lengths))]) (mPosI (dC, dI) cA r0 (va_A [(h_t, .inr (3, [.int f_t_stops, .ref h_t_stopSets, .ref h_t_lengths, .ref h_t_best])), (h_t_best, .inl (cA, 896, .inl f_t_best)), (h_t_lengths, .inl (cA, 64, .inl f_t_lengths))] sz) [(h_t, .inr (3, [.int f_t_stops, .ref h_t_stopSets, .ref h_t_lengths, .ref h_t_best])), (h_t_best, .inl (cA, 896, .inl f_t_best)), (h_t_lengths, .inl (cA, 64, .inl f_t_lengths))]) 0 0 (va_A [(h_t, .inr (3, [.int f_t_stops, .ref h_t_stopSets, .ref h_t_lengths, .ref h_t_best])), (h_t_best, .inl (cA, 896, .inl f_t_best)), (h_t_lengths, .inl (cA, 64, .inl f_t_lengths))] sz) := by
  refine Met.ofW (cc := cX4_leastTo) (maxL := 7) (ret := (some .int)) (by decide) rfl ?_
  intro p e s m args below meth c s₁ B hml hv
  obtain ⟨rfl, hsz, hP, hK, hD0⟩ := hv
  refine W_gen (fun Q hQ => ?_)
  have hx := B.exec
  have hb := B.bytes
  have hr := B.returns
  have hts := atoms_spec (ws := wsX4_leastTo) B.pre
  have hown : s.vm.findClass RX4 = some m.cls := findClass_of_methodNamed B.named
  have hlocks := B.notSynchronized
  subst hsz
  have hD := hD0.self (sz := s.heap.size)
  clear hD0
  generalize hAe : va_A [(h_t, .inr (3, [.int f_t_stops, .ref h_t_stopSets, .ref h_t_lengths, .ref h_t_best])), (h_t_best, .inl (cA, 896, .inl f_t_best)), (h_t_lengths, .inl (cA, 64, .inl f_t_lengths))] s.heap.size = A at hD hQ
  have hA : ∀ q : Nat, s.heap.size ≤ q → A q := fun q h => by rw [← hAe]; exact Or.inr h
  clear hAe
  have hS : va_S A s.heap s.heap [] := va_S.rf
  have hl := lv_entry ([.ref h_t, .int a1, .int a2, .int a3]) (n := 7) (Nat.le_of_ble_eq_true rfl)
  rw [lg_entry_eq]
  generalize (lg_sl ([.ref h_t, .int a1, .int a2, .int a3]) ++ List.replicate (7 - (lg_sl ([.ref h_t, .int a1, .int a2, .int a3])).length) Slot.unset).toArray = ls at hl ⊢
  have hl : lv_has ls 7 [(0, .ref h_t), (1, .int a1), (2, .int a2), (3, .int a3)] := hl
  have k2 := hts (.constant RX4 60 (1000000)) (List.mem_of_getElem? (i := 2) rfl)
  have k3 := hts (.fieldLink RX4 22 "ToneSets$Round" "best" "[I") (List.mem_of_getElem? (i := 3) rfl)
  have k1 := hts (.fieldLink RX4 19 "ToneSets$Round" "lengths" "[I") (List.mem_of_getElem? (i := 1) rfl)
  have k4 := hts (.methodLink RX4 42 Lib.Math.min.name) (List.mem_of_getElem? (i := 4) rfl)
  have k5 := hts (.static Lib.Math.min.name) (List.mem_of_getElem? (i := 5) rfl)
  have k6 := hts (.initialized "java/lang/Math") (List.mem_of_getElem? (i := 6) rfl)
  have k7 := hts (.code Lib.Math.min.name Lib.Math.min.code 2 (some .int)) (List.mem_of_getElem? (i := 7) rfl)
  have uX4 := uX4_X4_leastTo
  unfold m_Round_leastTo at hm
  refine lv_iload_n hx hb dX4_leastTo_0 rfl (lv_at hl 2 rfl) ?_
  refine lv_if_ne (tgt := 13) hx hb dX4_leastTo_1 (by decide) (fun c1 => ?_) (fun c1 => ?_)
  · replace hm := if_f c1 hm
    refine lv_ldc (v := 1000000) hx hb hown k2 dX4_leastTo_13 ?_
    refine lv_topi (fun v4_1 ev4_1 => ?_)
    replace hm := lt_go ev4_1 hm
    refine lv_istore (lv' := [(4, .int v4_1), (0, .ref h_t), (1, .int a1), (2, .int a2), (3, .int a3)]) hx hb dX4_leastTo_15 hl (by decide) rfl (fun ls hl => ?_)
    refine lv_iconst (v := 0) hx hb dX4_leastTo_17 (by decide) ?_
    refine lv_topi (fun v5_1 ev5_1 => ?_)
    replace hm := lt_go ev5_1 hm
    refine lv_istore (lv' := [(5, .int v5_1), (4, .int v4_1), (0, .ref h_t), (1, .int a1), (2, .int a2), (3, .int a3)]) hx hb dX4_leastTo_18 hl (by decide) rfl (fun ls hl => ?_)
    have L20 : ∀ (n : Nat) (v4_2 : Int32) (v5_2 : Int32) (v4_3 : Int32), m_Round_leastTo_L20 a3 a2 a1 f_t_best f_t_lengths n v4_2 v5_2 = some v4_3 → ∀ (H : Heap) (locs : List Loc), va_P (dC, dI) vwCl [(h_t, .inr (3, [.int f_t_stops, .ref h_t_stopSets, .ref h_t_lengths, .ref h_t_best])), (h_t_best, .inl (cA, 896, .inl f_t_best)), (h_t_lengths, .inl (cA, 64, .inl f_t_lengths))] H → va_D A [(h_t, .inr (3, [.int f_t_stops, .ref h_t_stopSets, .ref h_t_lengths, .ref h_t_best])), (h_t_best, .inl (cA, 896, .inl f_t_best)), (h_t_lengths, .inl (cA, 64, .inl f_t_lengths))] → va_S A s.heap H locs → ∀ ls : Array Slot, lv_has ls 7 [(0, .ref h_t), (1, .int a1), (2, .int a2), (3, .int a3), (4, .int v4_2), (5, .int v5_2)] → (∀ (H : Heap) (locs : List Loc), va_P (dC, dI) vwCl [(h_t, .inr (3, [.int f_t_stops, .ref h_t_stopSets, .ref h_t_lengths, .ref h_t_best])), (h_t_best, .inl (cA, 896, .inl f_t_best)), (h_t_lengths, .inl (cA, 64, .inl f_t_lengths))] H → va_D A [(h_t, .inr (3, [.int f_t_stops, .ref h_t_stopSets, .ref h_t_lengths, .ref h_t_best])), (h_t_best, .inl (cA, 896, .inl f_t_best)), (h_t_lengths, .inl (cA, 64, .inl f_t_lengths))] → va_S A s.heap H locs → ∀ ls : Array Slot, lv_has ls 7 [(4, .int v4_3)] → W p l e (headSpec wsX4_leastTo rmX4_leastTo).room s m (([.ref h_t, .int a1, .int a2, .int a3] : List Value).toArray) below meth c H locs 0 0 Q (F0 m 81 ls [])) → W p l e (headSpec wsX4_leastTo rmX4_leastTo).room s m (([.ref h_t, .int a1, .int a2, .int a3] : List Value).toArray) below meth c H locs 0 0 Q (F0 m 20 ls []) := by
      clear hm hP hD hS hl
      intro n
      induction n with
      | zero => intro _ _ _ hm; exact nomatch (show none = some _ from hm)
      | succ n ih =>
        intro v4_2 v5_2 v4_3 hm H locs hP hD hS ls hl KK
        unfold m_Round_leastTo_L20 at hm
        refine lv_iload hx hb dX4_leastTo_20 (lv_at hl 5 rfl) ?_
        refine lv_iload_n hx hb dX4_leastTo_22 rfl (lv_at hl 3 rfl) ?_
        refine lv_icmp_ge (tgt := 81) hx hb dX4_leastTo_23 (by decide) (fun c23 => ?_) (fun c23 => ?_)
        · replace hm := if_t c23 hm
          cases hm
          exact KK _ _ hP hD hS _ (lv_sub hl [4] rfl)
        · replace hm := if_f c23 hm
          refine lv_iload_n hx hb dX4_leastTo_26 rfl (lv_at hl 2 rfl) ?_
          refine lv_iconst (v := 1) hx hb dX4_leastTo_27 (by decide) ?_
          refine lv_iload hx hb dX4_leastTo_28 (lv_at hl 5 rfl) ?_
          refine lv_ishl hx hb dX4_leastTo_30 ?_
          refine lv_iand hx hb dX4_leastTo_31 ?_
          obtain ⟨v4_4, hqJ_1, hm⟩ := bd1_go hm
          have J_1 : ∀ (H : Heap) (locs : List Loc), va_P (dC, dI) vwCl [(h_t, .inr (3, [.int f_t_stops, .ref h_t_stopSets, .ref h_t_lengths, .ref h_t_best])), (h_t_best, .inl (cA, 896, .inl f_t_best)), (h_t_lengths, .inl (cA, 64, .inl f_t_lengths))] H → va_D A [(h_t, .inr (3, [.int f_t_stops, .ref h_t_stopSets, .ref h_t_lengths, .ref h_t_best])), (h_t_best, .inl (cA, 896, .inl f_t_best)), (h_t_lengths, .inl (cA, 64, .inl f_t_lengths))] → va_S A s.heap H locs → ∀ ls : Array Slot, lv_has ls 7 [(0, .ref h_t), (1, .int a1), (2, .int a2), (3, .int a3), (4, .int v4_4), (5, .int v5_2)] → W p l e (headSpec wsX4_leastTo rmX4_leastTo).room s m (([.ref h_t, .int a1, .int a2, .int a3] : List Value).toArray) below meth c H locs 0 0 Q (F0 m 75 ls []) := by
            intro H locs hP hD hS ls hl
            clear hqJ_1
            obtain ⟨v5_3, ev5_3⟩ : ∃ z : Int32, z = v5_2 + 1 := ⟨_, rfl⟩
            replace hm := lt_go ev5_3 hm
            refine lv_iinc (v := v5_3) (lv' := [(5, .int v5_3), (0, .ref h_t), (1, .int a1), (2, .int a2), (3, .int a3), (4, .int v4_4)]) hx hb dX4_leastTo_75 hl (k := 5) rfl (by rw [ev5_3]; rfl) (by decide) rfl (fun ls hl => ?_)
            refine lv_goto (tgt := 20) hx hb dX4_leastTo_78 (by decide) ?_
            exact ih _ _ _ hm _ _ hP hD hS _ (lv_sub hl [1, 2, 3, 4, 5, 0] rfl) KK
          clear hm
          refine lv_if_eq (tgt := 75) hx hb dX4_leastTo_32 (by decide) (fun c32 => ?_) (fun c32 => ?_)
          · replace hqJ_1 := if_t c32 hqJ_1
            cases hqJ_1
            exact J_1 _ _ hP hD hS _ (lv_sub hl [0, 1, 2, 3, 4, 5] rfl)
          · replace hqJ_1 := if_f c32 hqJ_1
            refine lv_aload_n hx hb dX4_leastTo_35 rfl (lv_at hl 0 rfl) ?_
            refine va_get (D := (dC, dI)) (ci := 3) (v := .ref h_t_best) (C := RX4) (T := TX4) (N := 4) hx hb hts uX4 hown hK hP 0 rfl rfl 3 (by decide) k3 (fun _ h9 => h9) rfl dX4_leastTo_36 ?_
            refine lv_iload_n hx hb dX4_leastTo_39 rfl (lv_at hl 2 rfl) ?_
            refine lv_bipush (v := 7) hx hb dX4_leastTo_40 (by decide) ?_
            refine lv_imul hx hb dX4_leastTo_42 ?_
            refine lv_iload hx hb dX4_leastTo_43 (lv_at hl 5 rfl) ?_
            refine lv_iadd hx hb dX4_leastTo_45 ?_
            obtain ⟨b46, hqJ_1⟩ := ck_go hqJ_1
            refine va_iald hx hb hK hP 1 0 rfl rfl b46 dX4_leastTo_46 ?_
            refine lv_aload_n hx hb dX4_leastTo_47 rfl (lv_at hl 0 rfl) ?_
            refine va_get (D := (dC, dI)) (ci := 3) (v := .ref h_t_lengths) (C := RX4) (T := TX4) (N := 4) hx hb hts uX4 hown hK hP 0 rfl rfl 2 (by decide) k1 (fun _ h9 => h9) rfl dX4_leastTo_48 ?_
            refine lv_iload hx hb dX4_leastTo_51 (lv_at hl 5 rfl) ?_
            refine lv_iconst (v := 1) hx hb dX4_leastTo_53 (by decide) ?_
            refine lv_iadd hx hb dX4_leastTo_54 ?_
            refine lv_bipush (v := 8) hx hb dX4_leastTo_55 (by decide) ?_
            refine lv_imul hx hb dX4_leastTo_57 ?_
            refine lv_iload_n hx hb dX4_leastTo_58 rfl (lv_at hl 1 rfl) ?_
            refine lv_iadd hx hb dX4_leastTo_59 ?_
            refine lv_iconst (v := 1) hx hb dX4_leastTo_60 (by decide) ?_
            refine lv_iadd hx hb dX4_leastTo_61 ?_
            obtain ⟨b62, hqJ_1⟩ := ck_go hqJ_1
            refine va_iald hx hb hK hP 2 0 rfl rfl b62 dX4_leastTo_62 ?_
            refine lv_iadd hx hb dX4_leastTo_63 ?_
            refine lv_topi (fun v6_1 ev6_1 => ?_)
            replace hqJ_1 := lt_go ev6_1 hqJ_1
            refine lv_istore (lv' := [(6, .int v6_1), (0, .ref h_t), (1, .int a1), (2, .int a2), (3, .int a3), (4, .int v4_2), (5, .int v5_2)]) hx hb dX4_leastTo_64 hl (by decide) rfl (fun ls hl => ?_)
            refine lv_iload hx hb dX4_leastTo_66 (lv_at hl 5 rfl) ?_
            refine lv_iload hx hb dX4_leastTo_68 (lv_at hl 0 rfl) ?_
            refine va_mmin hx hb (hml.trans hl.1.symm) hown k4 k5 k6 k7 (Nat.le_of_ble_eq_true rfl) (Nat.le_of_ble_eq_true rfl) (Nat.zero_le _) (Nat.zero_le _) dX4_leastTo_70 ?_
            refine lv_topi (fun v4_5 ev4_5 => ?_)
            replace hqJ_1 := lt_go ev4_5 hqJ_1
            refine lv_istore (lv' := [(4, .int v4_5), (6, .int v6_1), (0, .ref h_t), (1, .int a1), (2, .int a2), (3, .int a3), (5, .int v5_2)]) hx hb dX4_leastTo_73 hl (by decide) rfl (fun ls hl => ?_)
            cases hqJ_1
            exact J_1 _ _ hP hD hS _ (lv_sub hl [2, 3, 4, 5, 0, 6] rfl)
    obtain ⟨v4_6, hl20, hm⟩ := bd1_go hm
    refine L20 _ _ _ _ hl20 _ _ hP hD hS _ (lv_sub hl [2, 3, 4, 5, 1, 0] rfl) (fun H locs hP hD hS ls hl => ?_)
    refine lv_iload hx hb dX4_leastTo_81 (lv_at hl 0 rfl) ?_
    cases hm
    exact W_mono hQ (W.iret hx hb hr (fun t ht hW => ⟨⟨_, (), rfl, rfl, by rw [ht]; exact hP, va_K.moved hW.alike hK, hD⟩, hS.F ht⟩) hS.2.2 dX4_leastTo_83)
  · replace hm := if_t c1 hm
    refine lv_aload_n hx hb dX4_leastTo_4 rfl (lv_at hl 0 rfl) ?_
    refine va_get (D := (dC, dI)) (ci := 3) (v := .ref h_t_lengths) (C := RX4) (T := TX4) (N := 4) hx hb hts uX4 hown hK hP 0 rfl rfl 2 (by decide) k1 (fun _ h9 => h9) rfl dX4_leastTo_5 ?_
    refine lv_iload_n hx hb dX4_leastTo_8 rfl (lv_at hl 1 rfl) ?_
    refine lv_iconst (v := 1) hx hb dX4_leastTo_9 (by decide) ?_
    refine lv_iadd hx hb dX4_leastTo_10 ?_
    obtain ⟨b11, hm⟩ := ck_go hm
    refine va_iald hx hb hK hP 2 0 rfl rfl b11 dX4_leastTo_11 ?_
    cases hm
    exact W_mono hQ (W.iret hx hb hr (fun t ht hW => ⟨⟨_, (), rfl, rfl, by rw [ht]; exact hP, va_K.moved hW.alike hK, hD⟩, hS.F ht⟩) hS.2.2 dX4_leastTo_12)
abbrev rmX4_least : Room := { frames := 5, cells := 0, slots := 0, locals := 122 }
theorem uX4_X4_least : ∀ w ∈ wsX40, w ∈ wsX4_least := fun _ h => List.mem_cons_of_mem _ (List.mem_append_left _ (List.mem_append_left _ (List.mem_append_right _ (h))))
theorem uX7_X4_least : ∀ w ∈ wsX70, w ∈ wsX4_least := fun _ h => List.mem_cons_of_mem _ (List.mem_append_left _ (List.mem_append_right _ (h)))
set_option maxHeartbeats 40000000 in
set_option maxRecDepth 100000 in
theorem c_Round_least (l : Launch) (dC : Nat → ClassId) (dI : Nat → Nat → Nat) (cA : ClassId) (fu : Nat) (h_p1 h_p2 h_t h_p1_sets h_p2_goalTones h_p2_goerTones h_p2_extra h_p2_goalPrices h_p2_goerPrices h_p2_goalOfGoer h_p2_cameFrom h_p2_slack h_t_stopSets h_t_lengths h_t_best : Nat) (f_p1_size : Int32) (f_p1_places : Int32) (f_p1_drawn : Int32) (f_p2_nearestNumber : Int32) (f_p2_nearestLength : Int32) (f_p2_goals : Int32) (f_p2_goers : Int32) (f_p2_reached : Int32) (f_t_stops : Int32) (f_p1_sets : Nat → Int32) (f_p2_cameFrom : Nat → Int32) (f_p2_extra : Nat → Int32) (f_p2_goalOfGoer : Nat → Int32) (f_p2_goalPrices : Nat → Int32) (f_p2_goalTones : Nat → Int32) (f_p2_goerPrices : Nat → Int32) (f_p2_goerTones : Nat → Int32) (f_p2_slack : Nat → Int32) (f_t_best : Nat → Int32) (f_t_lengths : Nat → Int32) (f_t_stopSets : Nat → Int32) (r0 : Int32) (f_p2_cameFrom_z : Nat → Int32) (f_p2_extra_z : Nat → Int32) (f_p2_goalOfGoer_z : Nat → Int32) (f_p2_goalPrices_z : Nat → Int32) (f_p2_goalTones_z : Nat → Int32) (f_p2_goals_z : Int32) (f_p2_goerPrices_z : Nat → Int32) (f_p2_goerTones_z : Nat → Int32) (f_p2_goers_z : Int32) (f_p2_reached_z : Int32) (f_p2_slack_z : Nat → Int32) (f_t_best_z : Nat → Int32) (f_t_lengths_z : Nat → Int32) (f_t_stopSets_z : Nat → Int32) (f_t_stops_z : Int32) (hm : m_Round_least fu f_p1_places f_p1_sets f_p1_size f_p2_cameFrom f_p2_extra f_p2_goalOfGoer f_p2_goalPrices f_p2_goalTones f_p2_goals f_p2_goerPrices f_p2_goerTones f_p2_goers f_p2_reached f_p2_slack f_t_best f_t_lengths f_t_stopSets f_t_stops = some (r0, f_p2_cameFrom_z, f_p2_extra_z, f_p2_goalOfGoer_z, f_p2_goalPrices_z, f_p2_goalTones_z, f_p2_goals_z, f_p2_goerPrices_z, f_p2_goerTones_z, f_p2_goers_z, f_p2_reached_z, f_p2_slack_z, f_t_best_z, f_t_lengths_z, f_t_stopSets_z, f_t_stops_z)) (sz : Nat) : Met l yX4_least wsX4_least rmX4_least (mPre (dC, dI) cA [.ref h_t, .ref h_p1, .ref h_p2] sz [(h_p1, .inr (6, [.int f_p1_size, .int f_p1_places, .int f_p1_drawn, .ref h_p1_sets])), (h_p2, .inr (8, [.int f_p2_nearestNumber, .int f_p2_nearestLength, .int f_p2_goals, .int f_p2_goers, .int f_p2_reached, .ref h_p2_goalTones, .ref h_p2_goerTones, .ref h_p2_extra, .ref h_p2_goalPrices, .ref h_p2_goerPrices, .ref h_p2_goalOfGoer, .ref h_p2_cameFrom, .ref h_p2_slack])), (h_t, .inr (3, [.int f_t_stops, .ref h_t_stopSets, .ref h_t_lengths, .ref h_t_best])), (h_p1_sets, .inl (cA, 8, .inl f_p1_sets)), (h_p2_cameFrom, .inl (cA, 13, .inl f_p2_cameFrom)), (h_p2_extra, .inl (cA, 169, .inl f_p2_extra)), (h_p2_goalOfGoer, .inl (cA, 13, .inl f_p2_goalOfGoer)), (h_p2_goalPrices, .inl (cA, 13, .inl f_p2_goalPrices)), (h_p2_goalTones, .inl (cA, 13, .inl f_p2_goalTones)), (h_p2_goerPrices, .inl (cA, 13, .inl f_p2_goerPrices)), (h_p2_goerTones, .inl (cA, 13, .inl f_p2_goerTones)), (h_p2_slack, .inl (cA, 13, .inl f_p2_slack)), (h_t_best, .inl (cA, 896, .inl f_t_best)), (h_t_lengths, .inl (cA, 64, .inl f_t_lengths)), (h_t_stopSets, .inl (cA, 8, .inl f_t_stopSets))]) (mPosI (dC, dI) cA r0 (va_A [(h_p1, .inr (6, [.int f_p1_size, .int f_p1_places, .int f_p1_drawn, .ref h_p1_sets])), (h_p2, .inr (8, [.int f_p2_nearestNumber, .int f_p2_nearestLength, .int f_p2_goals, .int f_p2_goers, .int f_p2_reached, .ref h_p2_goalTones, .ref h_p2_goerTones, .ref h_p2_extra, .ref h_p2_goalPrices, .ref h_p2_goerPrices, .ref h_p2_goalOfGoer, .ref h_p2_cameFrom, .ref h_p2_slack])), (h_t, .inr (3, [.int f_t_stops, .ref h_t_stopSets, .ref h_t_lengths, .ref h_t_best])), (h_p1_sets, .inl (cA, 8, .inl f_p1_sets)), (h_p2_cameFrom, .inl (cA, 13, .inl f_p2_cameFrom)), (h_p2_extra, .inl (cA, 169, .inl f_p2_extra)), (h_p2_goalOfGoer, .inl (cA, 13, .inl f_p2_goalOfGoer)), (h_p2_goalPrices, .inl (cA, 13, .inl f_p2_goalPrices)), (h_p2_goalTones, .inl (cA, 13, .inl f_p2_goalTones)), (h_p2_goerPrices, .inl (cA, 13, .inl f_p2_goerPrices)), (h_p2_goerTones, .inl (cA, 13, .inl f_p2_goerTones)), (h_p2_slack, .inl (cA, 13, .inl f_p2_slack)), (h_t_best, .inl (cA, 896, .inl f_t_best)), (h_t_lengths, .inl (cA, 64, .inl f_t_lengths)), (h_t_stopSets, .inl (cA, 8, .inl f_t_stopSets))] sz) [(h_p1, .inr (6, [.int f_p1_size, .int f_p1_places, .int f_p1_drawn, .ref h_p1_sets])), (h_p2, .inr (8, [.int f_p2_nearestNumber, .int f_p2_nearestLength, .int f_p2_goals_z, .int f_p2_goers_z, .int f_p2_reached_z, .ref h_p2_goalTones, .ref h_p2_goerTones, .ref h_p2_extra, .ref h_p2_goalPrices, .ref h_p2_goerPrices, .ref h_p2_goalOfGoer, .ref h_p2_cameFrom, .ref h_p2_slack])), (h_t, .inr (3, [.int f_t_stops_z, .ref h_t_stopSets, .ref h_t_lengths, .ref h_t_best])), (h_p1_sets, .inl (cA, 8, .inl f_p1_sets)), (h_p2_cameFrom, .inl (cA, 13, .inl f_p2_cameFrom_z)), (h_p2_extra, .inl (cA, 169, .inl f_p2_extra_z)), (h_p2_goalOfGoer, .inl (cA, 13, .inl f_p2_goalOfGoer_z)), (h_p2_goalPrices, .inl (cA, 13, .inl f_p2_goalPrices_z)), (h_p2_goalTones, .inl (cA, 13, .inl f_p2_goalTones_z)), (h_p2_goerPrices, .inl (cA, 13, .inl f_p2_goerPrices_z)), (h_p2_goerTones, .inl (cA, 13, .inl f_p2_goerTones_z)), (h_p2_slack, .inl (cA, 13, .inl f_p2_slack_z)), (h_t_best, .inl (cA, 896, .inl f_t_best_z)), (h_t_lengths, .inl (cA, 64, .inl f_t_lengths_z)), (h_t_stopSets, .inl (cA, 8, .inl f_t_stopSets_z))]) 0 0 (va_A [(h_p1, .inr (6, [.int f_p1_size, .int f_p1_places, .int f_p1_drawn, .ref h_p1_sets])), (h_p2, .inr (8, [.int f_p2_nearestNumber, .int f_p2_nearestLength, .int f_p2_goals, .int f_p2_goers, .int f_p2_reached, .ref h_p2_goalTones, .ref h_p2_goerTones, .ref h_p2_extra, .ref h_p2_goalPrices, .ref h_p2_goerPrices, .ref h_p2_goalOfGoer, .ref h_p2_cameFrom, .ref h_p2_slack])), (h_t, .inr (3, [.int f_t_stops, .ref h_t_stopSets, .ref h_t_lengths, .ref h_t_best])), (h_p1_sets, .inl (cA, 8, .inl f_p1_sets)), (h_p2_cameFrom, .inl (cA, 13, .inl f_p2_cameFrom)), (h_p2_extra, .inl (cA, 169, .inl f_p2_extra)), (h_p2_goalOfGoer, .inl (cA, 13, .inl f_p2_goalOfGoer)), (h_p2_goalPrices, .inl (cA, 13, .inl f_p2_goalPrices)), (h_p2_goalTones, .inl (cA, 13, .inl f_p2_goalTones)), (h_p2_goerPrices, .inl (cA, 13, .inl f_p2_goerPrices)), (h_p2_goerTones, .inl (cA, 13, .inl f_p2_goerTones)), (h_p2_slack, .inl (cA, 13, .inl f_p2_slack)), (h_t_best, .inl (cA, 896, .inl f_t_best)), (h_t_lengths, .inl (cA, 64, .inl f_t_lengths)), (h_t_stopSets, .inl (cA, 8, .inl f_t_stopSets))] sz) := by
  refine Met.ofW (cc := cX4_least) (maxL := 7) (ret := (some .int)) (by decide) rfl ?_
  intro p e s m args below meth c s₁ B hml hv
  obtain ⟨rfl, hsz, hP, hK, hD0⟩ := hv
  refine W_gen (fun Q hQ => ?_)
  have hx := B.exec
  have hb := B.bytes
  have hr := B.returns
  have hts := atoms_spec (ws := wsX4_least) B.pre
  have hown : s.vm.findClass RX4 = some m.cls := findClass_of_methodNamed B.named
  have hlocks := B.notSynchronized
  subst hsz
  have hD := hD0.self (sz := s.heap.size)
  clear hD0
  generalize hAe : va_A [(h_p1, .inr (6, [.int f_p1_size, .int f_p1_places, .int f_p1_drawn, .ref h_p1_sets])), (h_p2, .inr (8, [.int f_p2_nearestNumber, .int f_p2_nearestLength, .int f_p2_goals, .int f_p2_goers, .int f_p2_reached, .ref h_p2_goalTones, .ref h_p2_goerTones, .ref h_p2_extra, .ref h_p2_goalPrices, .ref h_p2_goerPrices, .ref h_p2_goalOfGoer, .ref h_p2_cameFrom, .ref h_p2_slack])), (h_t, .inr (3, [.int f_t_stops, .ref h_t_stopSets, .ref h_t_lengths, .ref h_t_best])), (h_p1_sets, .inl (cA, 8, .inl f_p1_sets)), (h_p2_cameFrom, .inl (cA, 13, .inl f_p2_cameFrom)), (h_p2_extra, .inl (cA, 169, .inl f_p2_extra)), (h_p2_goalOfGoer, .inl (cA, 13, .inl f_p2_goalOfGoer)), (h_p2_goalPrices, .inl (cA, 13, .inl f_p2_goalPrices)), (h_p2_goalTones, .inl (cA, 13, .inl f_p2_goalTones)), (h_p2_goerPrices, .inl (cA, 13, .inl f_p2_goerPrices)), (h_p2_goerTones, .inl (cA, 13, .inl f_p2_goerTones)), (h_p2_slack, .inl (cA, 13, .inl f_p2_slack)), (h_t_best, .inl (cA, 896, .inl f_t_best)), (h_t_lengths, .inl (cA, 64, .inl f_t_lengths)), (h_t_stopSets, .inl (cA, 8, .inl f_t_stopSets))] s.heap.size = A at hD hQ
  have hA : ∀ q : Nat, s.heap.size ≤ q → A q := fun q h => by rw [← hAe]; exact Or.inr h
  clear hAe
  have hS : va_S A s.heap s.heap [] := va_S.rf
  have hl := lv_entry ([.ref h_t, .ref h_p1, .ref h_p2]) (n := 7) (Nat.le_of_ble_eq_true rfl)
  rw [lg_entry_eq]
  generalize (lg_sl ([.ref h_t, .ref h_p1, .ref h_p2]) ++ List.replicate (7 - (lg_sl ([.ref h_t, .ref h_p1, .ref h_p2])).length) Slot.unset).toArray = ls at hl ⊢
  have hl : lv_has ls 7 [(0, .ref h_t), (1, .ref h_p1), (2, .ref h_p2)] := hl
  have k1 := hts (.fieldLink RX4 9 "ToneSets$Round" "stops" "I") (List.mem_of_getElem? (i := 1) rfl)
  have k2 := hts (.fieldLink RX4 29 "ToneSets$Shelf" "size" "I") (List.mem_of_getElem? (i := 2) rfl)
  have k3 := hts (.fieldLink RX4 22 "ToneSets$Round" "best" "[I") (List.mem_of_getElem? (i := 3) rfl)
  have k4 := hts (.methodLink RX4 42 Lib.Math.min.name) (List.mem_of_getElem? (i := 4) rfl)
  have k5 := hts (.static Lib.Math.min.name) (List.mem_of_getElem? (i := 5) rfl)
  have k6 := hts (.initialized "java/lang/Math") (List.mem_of_getElem? (i := 6) rfl)
  have k7 := hts (.code Lib.Math.min.name Lib.Math.min.code 2 (some .int)) (List.mem_of_getElem? (i := 7) rfl)
  have uX4 := uX4_X4_least
  have uX7 := uX7_X4_least
  unfold m_Round_least at hm
  refine lv_aload_n hx hb dX4_least_0 rfl (lv_at hl 0 rfl) ?_
  refine lv_aload_n hx hb dX4_least_1 rfl (lv_at hl 1 rfl) ?_
  obtain ⟨f_t_stopSets_1, f_t_stops_1, hc2, hm⟩ := bd2_go hm
  refine my_cVv (As := [.ref h_p1]) (rest := []) (WC := [(h_p1, .inr (6, [.int f_p1_size, .int f_p1_places, .int f_p1_drawn, .ref h_p1_sets])), (h_t, .inr (3, [.int f_t_stops, .ref h_t_stopSets, .ref h_t_lengths, .ref h_t_best])), (h_p1_sets, .inl (cA, 8, .inl f_p1_sets)), (h_t_stopSets, .inl (cA, 8, .inl f_t_stopSets))]) (WC' := [(h_p1, .inr (6, [.int f_p1_size, .int f_p1_places, .int f_p1_drawn, .ref h_p1_sets])), (h_t, .inr (3, [.int f_t_stops_1, .ref h_t_stopSets, .ref h_t_lengths, .ref h_t_best])), (h_p1_sets, .inl (cA, 8, .inl f_p1_sets)), (h_t_stopSets, .inl (cA, 8, .inl f_t_stopSets_1))]) (WR := [(h_p2, .inr (8, [.int f_p2_nearestNumber, .int f_p2_nearestLength, .int f_p2_goals, .int f_p2_goers, .int f_p2_reached, .ref h_p2_goalTones, .ref h_p2_goerTones, .ref h_p2_extra, .ref h_p2_goalPrices, .ref h_p2_goerPrices, .ref h_p2_goalOfGoer, .ref h_p2_cameFrom, .ref h_p2_slack])), (h_p2_cameFrom, .inl (cA, 13, .inl f_p2_cameFrom)), (h_p2_extra, .inl (cA, 169, .inl f_p2_extra)), (h_p2_goalOfGoer, .inl (cA, 13, .inl f_p2_goalOfGoer)), (h_p2_goalPrices, .inl (cA, 13, .inl f_p2_goalPrices)), (h_p2_goalTones, .inl (cA, 13, .inl f_p2_goalTones)), (h_p2_goerPrices, .inl (cA, 13, .inl f_p2_goerPrices)), (h_p2_goerTones, .inl (cA, 13, .inl f_p2_goerTones)), (h_p2_slack, .inl (cA, 13, .inl f_p2_slack)), (h_t_best, .inl (cA, 896, .inl f_t_best)), (h_t_lengths, .inl (cA, 64, .inl f_t_lengths))]) (W' := [(h_p1, .inr (6, [.int f_p1_size, .int f_p1_places, .int f_p1_drawn, .ref h_p1_sets])), (h_p2, .inr (8, [.int f_p2_nearestNumber, .int f_p2_nearestLength, .int f_p2_goals, .int f_p2_goers, .int f_p2_reached, .ref h_p2_goalTones, .ref h_p2_goerTones, .ref h_p2_extra, .ref h_p2_goalPrices, .ref h_p2_goerPrices, .ref h_p2_goalOfGoer, .ref h_p2_cameFrom, .ref h_p2_slack])), (h_t, .inr (3, [.int f_t_stops_1, .ref h_t_stopSets, .ref h_t_lengths, .ref h_t_best])), (h_p1_sets, .inl (cA, 8, .inl f_p1_sets)), (h_p2_cameFrom, .inl (cA, 13, .inl f_p2_cameFrom)), (h_p2_extra, .inl (cA, 169, .inl f_p2_extra)), (h_p2_goalOfGoer, .inl (cA, 13, .inl f_p2_goalOfGoer)), (h_p2_goalPrices, .inl (cA, 13, .inl f_p2_goalPrices)), (h_p2_goalTones, .inl (cA, 13, .inl f_p2_goalTones)), (h_p2_goerPrices, .inl (cA, 13, .inl f_p2_goerPrices)), (h_p2_goerTones, .inl (cA, 13, .inl f_p2_goerTones)), (h_p2_slack, .inl (cA, 13, .inl f_p2_slack)), (h_t_best, .inl (cA, 896, .inl f_t_best)), (h_t_lengths, .inl (cA, 64, .inl f_t_lengths)), (h_t_stopSets, .inl (cA, 8, .inl f_t_stopSets_1))]) ⟨hx, hb, hml, hown, hts⟩ hK hP hD hS hA (c_Round_listStops l dC dI cA fu h_p1 h_t h_p1_sets h_t_stopSets h_t_lengths h_t_best f_p1_size f_p1_places f_p1_drawn f_t_stops f_p1_sets f_t_stopSets f_t_stopSets_1 f_t_stops_1 hc2) (cwV 1 hts gX4_least_X4_listStops rfl rfl rfl (by decide +kernel) ⟨Nat.le_of_ble_eq_true rfl, Nat.le_of_ble_eq_true rfl⟩) [0, 2, 3, 14] [1, 4, 5, 6, 7, 8, 9, 10, 11, 12, 13] [11, 0, 12, 13, 1, 2, 3, 4, 5, 6, 7, 8, 9, 10, 14] rfl rfl rfl rfl (ci := 3) (q0 := 1) rfl rfl rfl rfl hl.1 (Nat.le_of_ble_eq_true rfl) dX4_least_2 ⟨Nat.zero_le _, Nat.zero_le _⟩ (fun H locs hP hD hS => ?_)
  refine lv_aload_n hx hb dX4_least_5 rfl (lv_at hl 0 rfl) ?_
  refine va_get (D := (dC, dI)) (ci := 3) (v := .int f_t_stops_1) (C := RX4) (T := TX4) (N := 4) hx hb hts uX4 hown hK hP 2 rfl rfl 0 (by decide) k1 (fun _ h9 => h9) rfl dX4_least_6 ?_
  refine lv_iconst (v := 2) hx hb dX4_least_9 (by decide) ?_
  refine lv_icmp_ge (tgt := 15) hx hb dX4_least_10 (by decide) (fun c10 => ?_) (fun c10 => ?_)
  · replace hm := if_t c10 hm
    refine lv_aload_n hx hb dX4_least_15 rfl (lv_at hl 0 rfl) ?_
    refine lv_aload_n hx hb dX4_least_16 rfl (lv_at hl 1 rfl) ?_
    refine va_get (D := (dC, dI)) (ci := 6) (v := .int f_p1_size) (C := RX7) (T := TX7) (N := 4) hx hb hts uX7 hown hK hP 0 rfl rfl 0 (by decide) k2 (fun _ h9 => h9) rfl dX4_least_17 ?_
    refine lv_aload_n hx hb dX4_least_20 rfl (lv_at hl 2 rfl) ?_
    obtain ⟨f_p2_cameFrom_1, f_p2_extra_1, f_p2_goalOfGoer_1, f_p2_goalPrices_1, f_p2_goalTones_1, f_p2_goals_1, f_p2_goerPrices_1, f_p2_goerTones_1, f_p2_goers_1, f_p2_reached_1, f_p2_slack_1, f_t_lengths_1, hc21, hm⟩ := bd12_go hm
    refine my_cVv (As := [.int f_p1_size, .ref h_p2]) (rest := []) (WC := [(h_p2, .inr (8, [.int f_p2_nearestNumber, .int f_p2_nearestLength, .int f_p2_goals, .int f_p2_goers, .int f_p2_reached, .ref h_p2_goalTones, .ref h_p2_goerTones, .ref h_p2_extra, .ref h_p2_goalPrices, .ref h_p2_goerPrices, .ref h_p2_goalOfGoer, .ref h_p2_cameFrom, .ref h_p2_slack])), (h_t, .inr (3, [.int f_t_stops_1, .ref h_t_stopSets, .ref h_t_lengths, .ref h_t_best])), (h_p2_cameFrom, .inl (cA, 13, .inl f_p2_cameFrom)), (h_p2_extra, .inl (cA, 169, .inl f_p2_extra)), (h_p2_goalOfGoer, .inl (cA, 13, .inl f_p2_goalOfGoer)), (h_p2_goalPrices, .inl (cA, 13, .inl f_p2_goalPrices)), (h_p2_goalTones, .inl (cA, 13, .inl f_p2_goalTones)), (h_p2_goerPrices, .inl (cA, 13, .inl f_p2_goerPrices)), (h_p2_goerTones, .inl (cA, 13, .inl f_p2_goerTones)), (h_p2_slack, .inl (cA, 13, .inl f_p2_slack)), (h_t_lengths, .inl (cA, 64, .inl f_t_lengths)), (h_t_stopSets, .inl (cA, 8, .inl f_t_stopSets_1))]) (WC' := [(h_p2, .inr (8, [.int f_p2_nearestNumber, .int f_p2_nearestLength, .int f_p2_goals_1, .int f_p2_goers_1, .int f_p2_reached_1, .ref h_p2_goalTones, .ref h_p2_goerTones, .ref h_p2_extra, .ref h_p2_goalPrices, .ref h_p2_goerPrices, .ref h_p2_goalOfGoer, .ref h_p2_cameFrom, .ref h_p2_slack])), (h_t, .inr (3, [.int f_t_stops_1, .ref h_t_stopSets, .ref h_t_lengths, .ref h_t_best])), (h_p2_cameFrom, .inl (cA, 13, .inl f_p2_cameFrom_1)), (h_p2_extra, .inl (cA, 169, .inl f_p2_extra_1)), (h_p2_goalOfGoer, .inl (cA, 13, .inl f_p2_goalOfGoer_1)), (h_p2_goalPrices, .inl (cA, 13, .inl f_p2_goalPrices_1)), (h_p2_goalTones, .inl (cA, 13, .inl f_p2_goalTones_1)), (h_p2_goerPrices, .inl (cA, 13, .inl f_p2_goerPrices_1)), (h_p2_goerTones, .inl (cA, 13, .inl f_p2_goerTones_1)), (h_p2_slack, .inl (cA, 13, .inl f_p2_slack_1)), (h_t_lengths, .inl (cA, 64, .inl f_t_lengths_1)), (h_t_stopSets, .inl (cA, 8, .inl f_t_stopSets_1))]) (WR := [(h_p1, .inr (6, [.int f_p1_size, .int f_p1_places, .int f_p1_drawn, .ref h_p1_sets])), (h_p1_sets, .inl (cA, 8, .inl f_p1_sets)), (h_t_best, .inl (cA, 896, .inl f_t_best))]) (W' := [(h_p1, .inr (6, [.int f_p1_size, .int f_p1_places, .int f_p1_drawn, .ref h_p1_sets])), (h_p2, .inr (8, [.int f_p2_nearestNumber, .int f_p2_nearestLength, .int f_p2_goals_1, .int f_p2_goers_1, .int f_p2_reached_1, .ref h_p2_goalTones, .ref h_p2_goerTones, .ref h_p2_extra, .ref h_p2_goalPrices, .ref h_p2_goerPrices, .ref h_p2_goalOfGoer, .ref h_p2_cameFrom, .ref h_p2_slack])), (h_t, .inr (3, [.int f_t_stops_1, .ref h_t_stopSets, .ref h_t_lengths, .ref h_t_best])), (h_p1_sets, .inl (cA, 8, .inl f_p1_sets)), (h_p2_cameFrom, .inl (cA, 13, .inl f_p2_cameFrom_1)), (h_p2_extra, .inl (cA, 169, .inl f_p2_extra_1)), (h_p2_goalOfGoer, .inl (cA, 13, .inl f_p2_goalOfGoer_1)), (h_p2_goalPrices, .inl (cA, 13, .inl f_p2_goalPrices_1)), (h_p2_goalTones, .inl (cA, 13, .inl f_p2_goalTones_1)), (h_p2_goerPrices, .inl (cA, 13, .inl f_p2_goerPrices_1)), (h_p2_goerTones, .inl (cA, 13, .inl f_p2_goerTones_1)), (h_p2_slack, .inl (cA, 13, .inl f_p2_slack_1)), (h_t_best, .inl (cA, 896, .inl f_t_best)), (h_t_lengths, .inl (cA, 64, .inl f_t_lengths_1)), (h_t_stopSets, .inl (cA, 8, .inl f_t_stopSets_1))]) ⟨hx, hb, hml, hown, hts⟩ hK hP hD hS hA (c_Round_measure l dC dI cA fu h_p2 h_t h_p2_goalTones h_p2_goerTones h_p2_extra h_p2_goalPrices h_p2_goerPrices h_p2_goalOfGoer h_p2_cameFrom h_p2_slack h_t_stopSets h_t_lengths h_t_best f_p2_nearestNumber f_p2_nearestLength f_p2_goals f_p2_goers f_p2_reached f_t_stops_1 f_p2_cameFrom f_p2_extra f_p2_goalOfGoer f_p2_goalPrices f_p2_goalTones f_p2_goerPrices f_p2_goerTones f_p2_slack f_t_lengths f_t_stopSets_1 f_p1_size f_p2_cameFrom_1 f_p2_extra_1 f_p2_goalOfGoer_1 f_p2_goalPrices_1 f_p2_goalTones_1 f_p2_goals_1 f_p2_goerPrices_1 f_p2_goerTones_1 f_p2_goers_1 f_p2_reached_1 f_p2_slack_1 f_t_lengths_1 hc21) (cwV 2 hts gX4_least_X4_measure rfl rfl rfl (by decide +kernel) ⟨Nat.le_of_ble_eq_true rfl, Nat.le_of_ble_eq_true rfl⟩) [1, 2, 4, 5, 6, 7, 8, 9, 10, 11, 13, 14] [0, 3, 12] [0, 3, 4, 1, 5, 6, 7, 8, 9, 10, 11, 12, 2, 13, 14] rfl rfl rfl rfl (ci := 3) (q0 := 1) rfl rfl rfl rfl hl.1 (Nat.le_of_ble_eq_true rfl) dX4_least_21 ⟨Nat.zero_le _, Nat.zero_le _⟩ (fun H locs hP hD hS => ?_)
    refine lv_aload_n hx hb dX4_least_24 rfl (lv_at hl 0 rfl) ?_
    refine va_get (D := (dC, dI)) (ci := 3) (v := .int f_t_stops_1) (C := RX4) (T := TX4) (N := 4) hx hb hts uX4 hown hK hP 2 rfl rfl 0 (by decide) k1 (fun _ h9 => h9) rfl dX4_least_25 ?_
    refine lv_iconst (v := 1) hx hb dX4_least_28 (by decide) ?_
    refine lv_isub hx hb dX4_least_29 ?_
    refine lv_topi (fun v3_1 ev3_1 => ?_)
    replace hm := lt_go ev3_1 hm
    refine lv_istore_n (lv' := [(3, .int v3_1), (0, .ref h_t), (1, .ref h_p1), (2, .ref h_p2)]) hx hb dX4_least_30 rfl hl (by decide) rfl (fun ls hl => ?_)
    refine lv_iconst (v := 1) hx hb dX4_least_31 (by decide) ?_
    refine lv_iload_n hx hb dX4_least_32 rfl (lv_at hl 0 rfl) ?_
    refine lv_ishl hx hb dX4_least_33 ?_
    refine lv_iconst (v := 1) hx hb dX4_least_34 (by decide) ?_
    refine lv_isub hx hb dX4_least_35 ?_
    refine lv_topi (fun v4_1 ev4_1 => ?_)
    replace hm := lt_go ev4_1 hm
    refine lv_istore (lv' := [(4, .int v4_1), (3, .int v3_1), (0, .ref h_t), (1, .ref h_p1), (2, .ref h_p2)]) hx hb dX4_least_36 hl (by decide) rfl (fun ls hl => ?_)
    refine lv_iconst (v := 1) hx hb dX4_least_38 (by decide) ?_
    refine lv_topi (fun v5_1 ev5_1 => ?_)
    replace hm := lt_go ev5_1 hm
    refine lv_istore (lv' := [(5, .int v5_1), (4, .int v4_1), (3, .int v3_1), (0, .ref h_t), (1, .ref h_p1), (2, .ref h_p2)]) hx hb dX4_least_39 hl (by decide) rfl (fun ls hl => ?_)
    have L41 : ∀ (n : Nat) (v5_2 : Int32) (f_t_best_1 : Nat → Int32) (f_t_best_2 : Nat → Int32), m_Round_least_L41 fu v4_1 v3_1 f_t_lengths_1 n v5_2 f_t_best_1 = some f_t_best_2 → ∀ (H : Heap) (locs : List Loc), va_P (dC, dI) vwCl [(h_p1, .inr (6, [.int f_p1_size, .int f_p1_places, .int f_p1_drawn, .ref h_p1_sets])), (h_p2, .inr (8, [.int f_p2_nearestNumber, .int f_p2_nearestLength, .int f_p2_goals_1, .int f_p2_goers_1, .int f_p2_reached_1, .ref h_p2_goalTones, .ref h_p2_goerTones, .ref h_p2_extra, .ref h_p2_goalPrices, .ref h_p2_goerPrices, .ref h_p2_goalOfGoer, .ref h_p2_cameFrom, .ref h_p2_slack])), (h_t, .inr (3, [.int f_t_stops_1, .ref h_t_stopSets, .ref h_t_lengths, .ref h_t_best])), (h_p1_sets, .inl (cA, 8, .inl f_p1_sets)), (h_p2_cameFrom, .inl (cA, 13, .inl f_p2_cameFrom_1)), (h_p2_extra, .inl (cA, 169, .inl f_p2_extra_1)), (h_p2_goalOfGoer, .inl (cA, 13, .inl f_p2_goalOfGoer_1)), (h_p2_goalPrices, .inl (cA, 13, .inl f_p2_goalPrices_1)), (h_p2_goalTones, .inl (cA, 13, .inl f_p2_goalTones_1)), (h_p2_goerPrices, .inl (cA, 13, .inl f_p2_goerPrices_1)), (h_p2_goerTones, .inl (cA, 13, .inl f_p2_goerTones_1)), (h_p2_slack, .inl (cA, 13, .inl f_p2_slack_1)), (h_t_best, .inl (cA, 896, .inl f_t_best_1)), (h_t_lengths, .inl (cA, 64, .inl f_t_lengths_1)), (h_t_stopSets, .inl (cA, 8, .inl f_t_stopSets_1))] H → va_D A [(h_p1, .inr (6, [.int f_p1_size, .int f_p1_places, .int f_p1_drawn, .ref h_p1_sets])), (h_p2, .inr (8, [.int f_p2_nearestNumber, .int f_p2_nearestLength, .int f_p2_goals_1, .int f_p2_goers_1, .int f_p2_reached_1, .ref h_p2_goalTones, .ref h_p2_goerTones, .ref h_p2_extra, .ref h_p2_goalPrices, .ref h_p2_goerPrices, .ref h_p2_goalOfGoer, .ref h_p2_cameFrom, .ref h_p2_slack])), (h_t, .inr (3, [.int f_t_stops_1, .ref h_t_stopSets, .ref h_t_lengths, .ref h_t_best])), (h_p1_sets, .inl (cA, 8, .inl f_p1_sets)), (h_p2_cameFrom, .inl (cA, 13, .inl f_p2_cameFrom_1)), (h_p2_extra, .inl (cA, 169, .inl f_p2_extra_1)), (h_p2_goalOfGoer, .inl (cA, 13, .inl f_p2_goalOfGoer_1)), (h_p2_goalPrices, .inl (cA, 13, .inl f_p2_goalPrices_1)), (h_p2_goalTones, .inl (cA, 13, .inl f_p2_goalTones_1)), (h_p2_goerPrices, .inl (cA, 13, .inl f_p2_goerPrices_1)), (h_p2_goerTones, .inl (cA, 13, .inl f_p2_goerTones_1)), (h_p2_slack, .inl (cA, 13, .inl f_p2_slack_1)), (h_t_best, .inl (cA, 896, .inl f_t_best_1)), (h_t_lengths, .inl (cA, 64, .inl f_t_lengths_1)), (h_t_stopSets, .inl (cA, 8, .inl f_t_stopSets_1))] → va_S A s.heap H locs → ∀ ls : Array Slot, lv_has ls 7 [(0, .ref h_t), (3, .int v3_1), (4, .int v4_1), (5, .int v5_2)] → (∀ (H : Heap) (locs : List Loc), va_P (dC, dI) vwCl [(h_p1, .inr (6, [.int f_p1_size, .int f_p1_places, .int f_p1_drawn, .ref h_p1_sets])), (h_p2, .inr (8, [.int f_p2_nearestNumber, .int f_p2_nearestLength, .int f_p2_goals_1, .int f_p2_goers_1, .int f_p2_reached_1, .ref h_p2_goalTones, .ref h_p2_goerTones, .ref h_p2_extra, .ref h_p2_goalPrices, .ref h_p2_goerPrices, .ref h_p2_goalOfGoer, .ref h_p2_cameFrom, .ref h_p2_slack])), (h_t, .inr (3, [.int f_t_stops_1, .ref h_t_stopSets, .ref h_t_lengths, .ref h_t_best])), (h_p1_sets, .inl (cA, 8, .inl f_p1_sets)), (h_p2_cameFrom, .inl (cA, 13, .inl f_p2_cameFrom_1)), (h_p2_extra, .inl (cA, 169, .inl f_p2_extra_1)), (h_p2_goalOfGoer, .inl (cA, 13, .inl f_p2_goalOfGoer_1)), (h_p2_goalPrices, .inl (cA, 13, .inl f_p2_goalPrices_1)), (h_p2_goalTones, .inl (cA, 13, .inl f_p2_goalTones_1)), (h_p2_goerPrices, .inl (cA, 13, .inl f_p2_goerPrices_1)), (h_p2_goerTones, .inl (cA, 13, .inl f_p2_goerTones_1)), (h_p2_slack, .inl (cA, 13, .inl f_p2_slack_1)), (h_t_best, .inl (cA, 896, .inl f_t_best_2)), (h_t_lengths, .inl (cA, 64, .inl f_t_lengths_1)), (h_t_stopSets, .inl (cA, 8, .inl f_t_stopSets_1))] H → va_D A [(h_p1, .inr (6, [.int f_p1_size, .int f_p1_places, .int f_p1_drawn, .ref h_p1_sets])), (h_p2, .inr (8, [.int f_p2_nearestNumber, .int f_p2_nearestLength, .int f_p2_goals_1, .int f_p2_goers_1, .int f_p2_reached_1, .ref h_p2_goalTones, .ref h_p2_goerTones, .ref h_p2_extra, .ref h_p2_goalPrices, .ref h_p2_goerPrices, .ref h_p2_goalOfGoer, .ref h_p2_cameFrom, .ref h_p2_slack])), (h_t, .inr (3, [.int f_t_stops_1, .ref h_t_stopSets, .ref h_t_lengths, .ref h_t_best])), (h_p1_sets, .inl (cA, 8, .inl f_p1_sets)), (h_p2_cameFrom, .inl (cA, 13, .inl f_p2_cameFrom_1)), (h_p2_extra, .inl (cA, 169, .inl f_p2_extra_1)), (h_p2_goalOfGoer, .inl (cA, 13, .inl f_p2_goalOfGoer_1)), (h_p2_goalPrices, .inl (cA, 13, .inl f_p2_goalPrices_1)), (h_p2_goalTones, .inl (cA, 13, .inl f_p2_goalTones_1)), (h_p2_goerPrices, .inl (cA, 13, .inl f_p2_goerPrices_1)), (h_p2_goerTones, .inl (cA, 13, .inl f_p2_goerTones_1)), (h_p2_slack, .inl (cA, 13, .inl f_p2_slack_1)), (h_t_best, .inl (cA, 896, .inl f_t_best_2)), (h_t_lengths, .inl (cA, 64, .inl f_t_lengths_1)), (h_t_stopSets, .inl (cA, 8, .inl f_t_stopSets_1))] → va_S A s.heap H locs → ∀ ls : Array Slot, lv_has ls 7 [(0, .ref h_t), (3, .int v3_1), (4, .int v4_1)] → W p l e (headSpec wsX4_least rmX4_least).room s m (([.ref h_t, .ref h_p1, .ref h_p2] : List Value).toArray) below meth c H locs 0 0 Q (F0 m 108 ls [])) → W p l e (headSpec wsX4_least rmX4_least).room s m (([.ref h_t, .ref h_p1, .ref h_p2] : List Value).toArray) below meth c H locs 0 0 Q (F0 m 41 ls []) := by
      clear hm hP hD hS hl
      intro n
      induction n with
      | zero => intro _ _ _ hm; exact nomatch (show none = some _ from hm)
      | succ n ih =>
        intro v5_2 f_t_best_1 f_t_best_2 hm H locs hP hD hS ls hl KK
        unfold m_Round_least_L41 at hm
        refine lv_iload hx hb dX4_least_41 (lv_at hl 3 rfl) ?_
        refine lv_iload hx hb dX4_least_43 (lv_at hl 2 rfl) ?_
        refine lv_icmp_gt (tgt := 108) hx hb dX4_least_45 (by decide) (fun c45 => ?_) (fun c45 => ?_)
        · replace hm := if_t c45 hm
          cases hm
          exact KK _ _ hP hD hS _ (lv_sub hl [0, 1, 2] rfl)
        · replace hm := if_f c45 hm
          refine lv_iconst (v := 0) hx hb dX4_least_48 (by decide) ?_
          refine lv_topi (fun v6_1 ev6_1 => ?_)
          replace hm := lt_go ev6_1 hm
          refine lv_istore (lv' := [(6, .int v6_1), (0, .ref h_t), (3, .int v3_1), (4, .int v4_1), (5, .int v5_2)]) hx hb dX4_least_49 hl (by decide) rfl (fun ls hl => ?_)
          have L51 : ∀ (n : Nat) (v6_2 : Int32) (f_t_best_3 : Nat → Int32) (f_t_best_4 : Nat → Int32), m_Round_least_L51 fu v3_1 v5_2 f_t_lengths_1 n v6_2 f_t_best_3 = some f_t_best_4 → ∀ (H : Heap) (locs : List Loc), va_P (dC, dI) vwCl [(h_p1, .inr (6, [.int f_p1_size, .int f_p1_places, .int f_p1_drawn, .ref h_p1_sets])), (h_p2, .inr (8, [.int f_p2_nearestNumber, .int f_p2_nearestLength, .int f_p2_goals_1, .int f_p2_goers_1, .int f_p2_reached_1, .ref h_p2_goalTones, .ref h_p2_goerTones, .ref h_p2_extra, .ref h_p2_goalPrices, .ref h_p2_goerPrices, .ref h_p2_goalOfGoer, .ref h_p2_cameFrom, .ref h_p2_slack])), (h_t, .inr (3, [.int f_t_stops_1, .ref h_t_stopSets, .ref h_t_lengths, .ref h_t_best])), (h_p1_sets, .inl (cA, 8, .inl f_p1_sets)), (h_p2_cameFrom, .inl (cA, 13, .inl f_p2_cameFrom_1)), (h_p2_extra, .inl (cA, 169, .inl f_p2_extra_1)), (h_p2_goalOfGoer, .inl (cA, 13, .inl f_p2_goalOfGoer_1)), (h_p2_goalPrices, .inl (cA, 13, .inl f_p2_goalPrices_1)), (h_p2_goalTones, .inl (cA, 13, .inl f_p2_goalTones_1)), (h_p2_goerPrices, .inl (cA, 13, .inl f_p2_goerPrices_1)), (h_p2_goerTones, .inl (cA, 13, .inl f_p2_goerTones_1)), (h_p2_slack, .inl (cA, 13, .inl f_p2_slack_1)), (h_t_best, .inl (cA, 896, .inl f_t_best_3)), (h_t_lengths, .inl (cA, 64, .inl f_t_lengths_1)), (h_t_stopSets, .inl (cA, 8, .inl f_t_stopSets_1))] H → va_D A [(h_p1, .inr (6, [.int f_p1_size, .int f_p1_places, .int f_p1_drawn, .ref h_p1_sets])), (h_p2, .inr (8, [.int f_p2_nearestNumber, .int f_p2_nearestLength, .int f_p2_goals_1, .int f_p2_goers_1, .int f_p2_reached_1, .ref h_p2_goalTones, .ref h_p2_goerTones, .ref h_p2_extra, .ref h_p2_goalPrices, .ref h_p2_goerPrices, .ref h_p2_goalOfGoer, .ref h_p2_cameFrom, .ref h_p2_slack])), (h_t, .inr (3, [.int f_t_stops_1, .ref h_t_stopSets, .ref h_t_lengths, .ref h_t_best])), (h_p1_sets, .inl (cA, 8, .inl f_p1_sets)), (h_p2_cameFrom, .inl (cA, 13, .inl f_p2_cameFrom_1)), (h_p2_extra, .inl (cA, 169, .inl f_p2_extra_1)), (h_p2_goalOfGoer, .inl (cA, 13, .inl f_p2_goalOfGoer_1)), (h_p2_goalPrices, .inl (cA, 13, .inl f_p2_goalPrices_1)), (h_p2_goalTones, .inl (cA, 13, .inl f_p2_goalTones_1)), (h_p2_goerPrices, .inl (cA, 13, .inl f_p2_goerPrices_1)), (h_p2_goerTones, .inl (cA, 13, .inl f_p2_goerTones_1)), (h_p2_slack, .inl (cA, 13, .inl f_p2_slack_1)), (h_t_best, .inl (cA, 896, .inl f_t_best_3)), (h_t_lengths, .inl (cA, 64, .inl f_t_lengths_1)), (h_t_stopSets, .inl (cA, 8, .inl f_t_stopSets_1))] → va_S A s.heap H locs → ∀ ls : Array Slot, lv_has ls 7 [(0, .ref h_t), (3, .int v3_1), (4, .int v4_1), (5, .int v5_2), (6, .int v6_2)] → (∀ (H : Heap) (locs : List Loc), va_P (dC, dI) vwCl [(h_p1, .inr (6, [.int f_p1_size, .int f_p1_places, .int f_p1_drawn, .ref h_p1_sets])), (h_p2, .inr (8, [.int f_p2_nearestNumber, .int f_p2_nearestLength, .int f_p2_goals_1, .int f_p2_goers_1, .int f_p2_reached_1, .ref h_p2_goalTones, .ref h_p2_goerTones, .ref h_p2_extra, .ref h_p2_goalPrices, .ref h_p2_goerPrices, .ref h_p2_goalOfGoer, .ref h_p2_cameFrom, .ref h_p2_slack])), (h_t, .inr (3, [.int f_t_stops_1, .ref h_t_stopSets, .ref h_t_lengths, .ref h_t_best])), (h_p1_sets, .inl (cA, 8, .inl f_p1_sets)), (h_p2_cameFrom, .inl (cA, 13, .inl f_p2_cameFrom_1)), (h_p2_extra, .inl (cA, 169, .inl f_p2_extra_1)), (h_p2_goalOfGoer, .inl (cA, 13, .inl f_p2_goalOfGoer_1)), (h_p2_goalPrices, .inl (cA, 13, .inl f_p2_goalPrices_1)), (h_p2_goalTones, .inl (cA, 13, .inl f_p2_goalTones_1)), (h_p2_goerPrices, .inl (cA, 13, .inl f_p2_goerPrices_1)), (h_p2_goerTones, .inl (cA, 13, .inl f_p2_goerTones_1)), (h_p2_slack, .inl (cA, 13, .inl f_p2_slack_1)), (h_t_best, .inl (cA, 896, .inl f_t_best_4)), (h_t_lengths, .inl (cA, 64, .inl f_t_lengths_1)), (h_t_stopSets, .inl (cA, 8, .inl f_t_stopSets_1))] H → va_D A [(h_p1, .inr (6, [.int f_p1_size, .int f_p1_places, .int f_p1_drawn, .ref h_p1_sets])), (h_p2, .inr (8, [.int f_p2_nearestNumber, .int f_p2_nearestLength, .int f_p2_goals_1, .int f_p2_goers_1, .int f_p2_reached_1, .ref h_p2_goalTones, .ref h_p2_goerTones, .ref h_p2_extra, .ref h_p2_goalPrices, .ref h_p2_goerPrices, .ref h_p2_goalOfGoer, .ref h_p2_cameFrom, .ref h_p2_slack])), (h_t, .inr (3, [.int f_t_stops_1, .ref h_t_stopSets, .ref h_t_lengths, .ref h_t_best])), (h_p1_sets, .inl (cA, 8, .inl f_p1_sets)), (h_p2_cameFrom, .inl (cA, 13, .inl f_p2_cameFrom_1)), (h_p2_extra, .inl (cA, 169, .inl f_p2_extra_1)), (h_p2_goalOfGoer, .inl (cA, 13, .inl f_p2_goalOfGoer_1)), (h_p2_goalPrices, .inl (cA, 13, .inl f_p2_goalPrices_1)), (h_p2_goalTones, .inl (cA, 13, .inl f_p2_goalTones_1)), (h_p2_goerPrices, .inl (cA, 13, .inl f_p2_goerPrices_1)), (h_p2_goerTones, .inl (cA, 13, .inl f_p2_goerTones_1)), (h_p2_slack, .inl (cA, 13, .inl f_p2_slack_1)), (h_t_best, .inl (cA, 896, .inl f_t_best_4)), (h_t_lengths, .inl (cA, 64, .inl f_t_lengths_1)), (h_t_stopSets, .inl (cA, 8, .inl f_t_stopSets_1))] → va_S A s.heap H locs → ∀ ls : Array Slot, lv_has ls 7 [(0, .ref h_t), (3, .int v3_1), (4, .int v4_1), (5, .int v5_2)] → W p l e (headSpec wsX4_least rmX4_least).room s m (([.ref h_t, .ref h_p1, .ref h_p2] : List Value).toArray) below meth c H locs 0 0 Q (F0 m 102 ls [])) → W p l e (headSpec wsX4_least rmX4_least).room s m (([.ref h_t, .ref h_p1, .ref h_p2] : List Value).toArray) below meth c H locs 0 0 Q (F0 m 51 ls []) := by
            clear hm hP hD hS hl
            intro n
            induction n with
            | zero => intro _ _ _ hm; exact nomatch (show none = some _ from hm)
            | succ n ih =>
              intro v6_2 f_t_best_3 f_t_best_4 hm H locs hP hD hS ls hl KK
              unfold m_Round_least_L51 at hm
              refine lv_iload hx hb dX4_least_51 (lv_at hl 4 rfl) ?_
              refine lv_iload_n hx hb dX4_least_53 rfl (lv_at hl 1 rfl) ?_
              refine lv_icmp_ge (tgt := 102) hx hb dX4_least_54 (by decide) (fun c54 => ?_) (fun c54 => ?_)
              · replace hm := if_t c54 hm
                cases hm
                exact KK _ _ hP hD hS _ (lv_sub hl [0, 1, 2, 3] rfl)
              · replace hm := if_f c54 hm
                refine lv_iload hx hb dX4_least_57 (lv_at hl 3 rfl) ?_
                refine lv_iconst (v := 1) hx hb dX4_least_59 (by decide) ?_
                refine lv_iload hx hb dX4_least_60 (lv_at hl 4 rfl) ?_
                refine lv_ishl hx hb dX4_least_62 ?_
                refine lv_iand hx hb dX4_least_63 ?_
                obtain ⟨f_t_best_5, hqJ_1, hm⟩ := bd1_go hm
                have J_1 : ∀ (H : Heap) (locs : List Loc), va_P (dC, dI) vwCl [(h_p1, .inr (6, [.int f_p1_size, .int f_p1_places, .int f_p1_drawn, .ref h_p1_sets])), (h_p2, .inr (8, [.int f_p2_nearestNumber, .int f_p2_nearestLength, .int f_p2_goals_1, .int f_p2_goers_1, .int f_p2_reached_1, .ref h_p2_goalTones, .ref h_p2_goerTones, .ref h_p2_extra, .ref h_p2_goalPrices, .ref h_p2_goerPrices, .ref h_p2_goalOfGoer, .ref h_p2_cameFrom, .ref h_p2_slack])), (h_t, .inr (3, [.int f_t_stops_1, .ref h_t_stopSets, .ref h_t_lengths, .ref h_t_best])), (h_p1_sets, .inl (cA, 8, .inl f_p1_sets)), (h_p2_cameFrom, .inl (cA, 13, .inl f_p2_cameFrom_1)), (h_p2_extra, .inl (cA, 169, .inl f_p2_extra_1)), (h_p2_goalOfGoer, .inl (cA, 13, .inl f_p2_goalOfGoer_1)), (h_p2_goalPrices, .inl (cA, 13, .inl f_p2_goalPrices_1)), (h_p2_goalTones, .inl (cA, 13, .inl f_p2_goalTones_1)), (h_p2_goerPrices, .inl (cA, 13, .inl f_p2_goerPrices_1)), (h_p2_goerTones, .inl (cA, 13, .inl f_p2_goerTones_1)), (h_p2_slack, .inl (cA, 13, .inl f_p2_slack_1)), (h_t_best, .inl (cA, 896, .inl f_t_best_5)), (h_t_lengths, .inl (cA, 64, .inl f_t_lengths_1)), (h_t_stopSets, .inl (cA, 8, .inl f_t_stopSets_1))] H → va_D A [(h_p1, .inr (6, [.int f_p1_size, .int f_p1_places, .int f_p1_drawn, .ref h_p1_sets])), (h_p2, .inr (8, [.int f_p2_nearestNumber, .int f_p2_nearestLength, .int f_p2_goals_1, .int f_p2_goers_1, .int f_p2_reached_1, .ref h_p2_goalTones, .ref h_p2_goerTones, .ref h_p2_extra, .ref h_p2_goalPrices, .ref h_p2_goerPrices, .ref h_p2_goalOfGoer, .ref h_p2_cameFrom, .ref h_p2_slack])), (h_t, .inr (3, [.int f_t_stops_1, .ref h_t_stopSets, .ref h_t_lengths, .ref h_t_best])), (h_p1_sets, .inl (cA, 8, .inl f_p1_sets)), (h_p2_cameFrom, .inl (cA, 13, .inl f_p2_cameFrom_1)), (h_p2_extra, .inl (cA, 169, .inl f_p2_extra_1)), (h_p2_goalOfGoer, .inl (cA, 13, .inl f_p2_goalOfGoer_1)), (h_p2_goalPrices, .inl (cA, 13, .inl f_p2_goalPrices_1)), (h_p2_goalTones, .inl (cA, 13, .inl f_p2_goalTones_1)), (h_p2_goerPrices, .inl (cA, 13, .inl f_p2_goerPrices_1)), (h_p2_goerTones, .inl (cA, 13, .inl f_p2_goerTones_1)), (h_p2_slack, .inl (cA, 13, .inl f_p2_slack_1)), (h_t_best, .inl (cA, 896, .inl f_t_best_5)), (h_t_lengths, .inl (cA, 64, .inl f_t_lengths_1)), (h_t_stopSets, .inl (cA, 8, .inl f_t_stopSets_1))] → va_S A s.heap H locs → ∀ ls : Array Slot, lv_has ls 7 [(0, .ref h_t), (3, .int v3_1), (4, .int v4_1), (5, .int v5_2), (6, .int v6_2)] → W p l e (headSpec wsX4_least rmX4_least).room s m (([.ref h_t, .ref h_p1, .ref h_p2] : List Value).toArray) below meth c H locs 0 0 Q (F0 m 96 ls []) := by
                  intro H locs hP hD hS ls hl
                  clear hqJ_1
                  obtain ⟨v6_3, ev6_3⟩ : ∃ z : Int32, z = v6_2 + 1 := ⟨_, rfl⟩
                  replace hm := lt_go ev6_3 hm
                  refine lv_iinc (v := v6_3) (lv' := [(6, .int v6_3), (0, .ref h_t), (3, .int v3_1), (4, .int v4_1), (5, .int v5_2)]) hx hb dX4_least_96 hl (k := 4) rfl (by rw [ev6_3]; rfl) (by decide) rfl (fun ls hl => ?_)
                  refine lv_goto (tgt := 51) hx hb dX4_least_99 (by decide) ?_
                  exact ih _ _ _ hm _ _ hP hD hS _ (lv_sub hl [1, 2, 3, 4, 0] rfl) KK
                clear hm
                refine lv_if_eq (tgt := 96) hx hb dX4_least_64 (by decide) (fun c64 => ?_) (fun c64 => ?_)
                · replace hqJ_1 := if_t c64 hqJ_1
                  cases hqJ_1
                  exact J_1 _ _ hP hD hS _ (lv_sub hl [0, 1, 2, 3, 4] rfl)
                · replace hqJ_1 := if_f c64 hqJ_1
                  refine lv_aload_n hx hb dX4_least_67 rfl (lv_at hl 0 rfl) ?_
                  refine va_get (D := (dC, dI)) (ci := 3) (v := .ref h_t_best) (C := RX4) (T := TX4) (N := 4) hx hb hts uX4 hown hK hP 2 rfl rfl 3 (by decide) k3 (fun _ h9 => h9) rfl dX4_least_68 ?_
                  refine lv_iload hx hb dX4_least_71 (lv_at hl 3 rfl) ?_
                  refine lv_bipush (v := 7) hx hb dX4_least_73 (by decide) ?_
                  refine lv_imul hx hb dX4_least_75 ?_
                  refine lv_iload hx hb dX4_least_76 (lv_at hl 4 rfl) ?_
                  refine lv_iadd hx hb dX4_least_78 ?_
                  refine lv_aload_n hx hb dX4_least_79 rfl (lv_at hl 0 rfl) ?_
                  refine lv_iload hx hb dX4_least_80 (lv_at hl 4 rfl) ?_
                  refine lv_iload hx hb dX4_least_82 (lv_at hl 3 rfl) ?_
                  refine lv_iconst (v := 1) hx hb dX4_least_84 (by decide) ?_
                  refine lv_iload hx hb dX4_least_85 (lv_at hl 4 rfl) ?_
                  refine lv_ishl hx hb dX4_least_87 ?_
                  refine lv_iconst (v := (-1)) hx hb dX4_least_88 (by decide) ?_
                  refine lv_ixor hx hb dX4_least_89 ?_
                  refine lv_iand hx hb dX4_least_90 ?_
                  refine lv_iload_n hx hb dX4_least_91 rfl (lv_at hl 1 rfl) ?_
                  obtain ⟨r_1, hc92, hqJ_1⟩ := bd1_go hqJ_1
                  refine my_cVi (As := [.int v6_2, .int (v5_2 &&& (((1 : Int32) <<< (v6_2 &&& 31)) ^^^ (-1))), .int v3_1]) (rest := [.int ((v5_2 * 7) + v6_2), .ref h_t_best]) (WC := [(h_t, .inr (3, [.int f_t_stops_1, .ref h_t_stopSets, .ref h_t_lengths, .ref h_t_best])), (h_t_best, .inl (cA, 896, .inl f_t_best_3)), (h_t_lengths, .inl (cA, 64, .inl f_t_lengths_1))]) (WC' := [(h_t, .inr (3, [.int f_t_stops_1, .ref h_t_stopSets, .ref h_t_lengths, .ref h_t_best])), (h_t_best, .inl (cA, 896, .inl f_t_best_3)), (h_t_lengths, .inl (cA, 64, .inl f_t_lengths_1))]) (WR := [(h_p1, .inr (6, [.int f_p1_size, .int f_p1_places, .int f_p1_drawn, .ref h_p1_sets])), (h_p2, .inr (8, [.int f_p2_nearestNumber, .int f_p2_nearestLength, .int f_p2_goals_1, .int f_p2_goers_1, .int f_p2_reached_1, .ref h_p2_goalTones, .ref h_p2_goerTones, .ref h_p2_extra, .ref h_p2_goalPrices, .ref h_p2_goerPrices, .ref h_p2_goalOfGoer, .ref h_p2_cameFrom, .ref h_p2_slack])), (h_p1_sets, .inl (cA, 8, .inl f_p1_sets)), (h_p2_cameFrom, .inl (cA, 13, .inl f_p2_cameFrom_1)), (h_p2_extra, .inl (cA, 169, .inl f_p2_extra_1)), (h_p2_goalOfGoer, .inl (cA, 13, .inl f_p2_goalOfGoer_1)), (h_p2_goalPrices, .inl (cA, 13, .inl f_p2_goalPrices_1)), (h_p2_goalTones, .inl (cA, 13, .inl f_p2_goalTones_1)), (h_p2_goerPrices, .inl (cA, 13, .inl f_p2_goerPrices_1)), (h_p2_goerTones, .inl (cA, 13, .inl f_p2_goerTones_1)), (h_p2_slack, .inl (cA, 13, .inl f_p2_slack_1)), (h_t_stopSets, .inl (cA, 8, .inl f_t_stopSets_1))]) (W' := [(h_p1, .inr (6, [.int f_p1_size, .int f_p1_places, .int f_p1_drawn, .ref h_p1_sets])), (h_p2, .inr (8, [.int f_p2_nearestNumber, .int f_p2_nearestLength, .int f_p2_goals_1, .int f_p2_goers_1, .int f_p2_reached_1, .ref h_p2_goalTones, .ref h_p2_goerTones, .ref h_p2_extra, .ref h_p2_goalPrices, .ref h_p2_goerPrices, .ref h_p2_goalOfGoer, .ref h_p2_cameFrom, .ref h_p2_slack])), (h_t, .inr (3, [.int f_t_stops_1, .ref h_t_stopSets, .ref h_t_lengths, .ref h_t_best])), (h_p1_sets, .inl (cA, 8, .inl f_p1_sets)), (h_p2_cameFrom, .inl (cA, 13, .inl f_p2_cameFrom_1)), (h_p2_extra, .inl (cA, 169, .inl f_p2_extra_1)), (h_p2_goalOfGoer, .inl (cA, 13, .inl f_p2_goalOfGoer_1)), (h_p2_goalPrices, .inl (cA, 13, .inl f_p2_goalPrices_1)), (h_p2_goalTones, .inl (cA, 13, .inl f_p2_goalTones_1)), (h_p2_goerPrices, .inl (cA, 13, .inl f_p2_goerPrices_1)), (h_p2_goerTones, .inl (cA, 13, .inl f_p2_goerTones_1)), (h_p2_slack, .inl (cA, 13, .inl f_p2_slack_1)), (h_t_best, .inl (cA, 896, .inl f_t_best_3)), (h_t_lengths, .inl (cA, 64, .inl f_t_lengths_1)), (h_t_stopSets, .inl (cA, 8, .inl f_t_stopSets_1))]) ⟨hx, hb, hml, hown, hts⟩ hK hP hD hS hA (c_Round_leastTo l dC dI cA fu h_t h_t_stopSets h_t_lengths h_t_best f_t_stops_1 f_t_best_3 f_t_lengths_1 v6_2 (v5_2 &&& (((1 : Int32) <<< (v6_2 &&& 31)) ^^^ (-1))) v3_1 r_1 hc92) (cwV 3 hts gX4_least_X4_leastTo rfl rfl rfl (by decide +kernel) ⟨Nat.le_of_ble_eq_true rfl, Nat.le_of_ble_eq_true rfl⟩) [2, 12, 13] [0, 1, 3, 4, 5, 6, 7, 8, 9, 10, 11, 14] [0, 1, 12, 2, 3, 4, 5, 6, 7, 8, 9, 10, 13, 14, 11] rfl rfl rfl rfl (ci := 3) (q0 := 0) rfl rfl rfl rfl hl.1 (Nat.le_of_ble_eq_true rfl) dX4_least_92 ⟨Nat.zero_le _, Nat.zero_le _⟩ (fun H locs hP hD hS => ?_)
                  obtain ⟨b95, hqJ_1⟩ := ck_go hqJ_1
                  refine my_iast (W' := fun z' => [(h_p1, .inr (6, [.int f_p1_size, .int f_p1_places, .int f_p1_drawn, .ref h_p1_sets])), (h_p2, .inr (8, [.int f_p2_nearestNumber, .int f_p2_nearestLength, .int f_p2_goals_1, .int f_p2_goers_1, .int f_p2_reached_1, .ref h_p2_goalTones, .ref h_p2_goerTones, .ref h_p2_extra, .ref h_p2_goalPrices, .ref h_p2_goerPrices, .ref h_p2_goalOfGoer, .ref h_p2_cameFrom, .ref h_p2_slack])), (h_t, .inr (3, [.int f_t_stops_1, .ref h_t_stopSets, .ref h_t_lengths, .ref h_t_best])), (h_p1_sets, .inl (cA, 8, .inl f_p1_sets)), (h_p2_cameFrom, .inl (cA, 13, .inl f_p2_cameFrom_1)), (h_p2_extra, .inl (cA, 169, .inl f_p2_extra_1)), (h_p2_goalOfGoer, .inl (cA, 13, .inl f_p2_goalOfGoer_1)), (h_p2_goalPrices, .inl (cA, 13, .inl f_p2_goalPrices_1)), (h_p2_goalTones, .inl (cA, 13, .inl f_p2_goalTones_1)), (h_p2_goerPrices, .inl (cA, 13, .inl f_p2_goerPrices_1)), (h_p2_goerTones, .inl (cA, 13, .inl f_p2_goerTones_1)), (h_p2_slack, .inl (cA, 13, .inl f_p2_slack_1)), (h_t_best, .inl (cA, 896, .inl z')), (h_t_lengths, .inl (cA, 64, .inl f_t_lengths_1)), (h_t_stopSets, .inl (cA, 8, .inl f_t_stopSets_1))]) hx hb hK hP hD hS 12 0 rfl rfl b95 dX4_least_95 (fun _ => rfl) (fun f_t_best_6 ef_t_best_6 H locs hP hD hS => ?_)
                  replace hqJ_1 := lt_go ef_t_best_6 hqJ_1
                  cases hqJ_1
                  exact J_1 _ _ hP hD hS _ (lv_sub hl [0, 1, 2, 3, 4] rfl)
          obtain ⟨f_t_best_7, hl51, hm⟩ := bd1_go hm
          refine L51 _ _ _ _ hl51 _ _ hP hD hS _ (lv_sub hl [1, 2, 3, 4, 0] rfl) (fun H locs hP hD hS ls hl => ?_)
          obtain ⟨v5_3, ev5_3⟩ : ∃ z : Int32, z = v5_2 + 1 := ⟨_, rfl⟩
          replace hm := lt_go ev5_3 hm
          refine lv_iinc (v := v5_3) (lv' := [(5, .int v5_3), (0, .ref h_t), (3, .int v3_1), (4, .int v4_1)]) hx hb dX4_least_102 hl (k := 3) rfl (by rw [ev5_3]; rfl) (by decide) rfl (fun ls hl => ?_)
          refine lv_goto (tgt := 41) hx hb dX4_least_105 (by decide) ?_
          exact ih _ _ _ hm _ _ hP hD hS _ (lv_sub hl [1, 2, 3, 0] rfl) KK
    obtain ⟨f_t_best_8, hl41, hm⟩ := bd1_go hm
    refine L41 _ _ _ _ hl41 _ _ hP hD hS _ (lv_sub hl [3, 2, 1, 0] rfl) (fun H locs hP hD hS ls hl => ?_)
    refine lv_aload_n hx hb dX4_least_108 rfl (lv_at hl 0 rfl) ?_
    refine va_get (D := (dC, dI)) (ci := 3) (v := .ref h_t_best) (C := RX4) (T := TX4) (N := 4) hx hb hts uX4 hown hK hP 2 rfl rfl 3 (by decide) k3 (fun _ h9 => h9) rfl dX4_least_109 ?_
    refine lv_iload hx hb dX4_least_112 (lv_at hl 2 rfl) ?_
    refine lv_bipush (v := 7) hx hb dX4_least_114 (by decide) ?_
    refine lv_imul hx hb dX4_least_116 ?_
    obtain ⟨b117, hm⟩ := ck_go hm
    refine va_iald hx hb hK hP 12 0 rfl rfl b117 dX4_least_117 ?_
    refine lv_topi (fun v5_4 ev5_4 => ?_)
    replace hm := lt_go ev5_4 hm
    refine lv_istore (lv' := [(5, .int v5_4), (0, .ref h_t), (3, .int v3_1), (4, .int v4_1)]) hx hb dX4_least_118 hl (by decide) rfl (fun ls hl => ?_)
    refine lv_iconst (v := 1) hx hb dX4_least_120 (by decide) ?_
    refine lv_topi (fun v6_4 ev6_4 => ?_)
    replace hm := lt_go ev6_4 hm
    refine lv_istore (lv' := [(6, .int v6_4), (5, .int v5_4), (0, .ref h_t), (3, .int v3_1), (4, .int v4_1)]) hx hb dX4_least_121 hl (by decide) rfl (fun ls hl => ?_)
    have L123 : ∀ (n : Nat) (v5_5 : Int32) (v6_5 : Int32) (v5_6 : Int32), m_Round_least_L123 v3_1 v4_1 f_t_best_8 n v5_5 v6_5 = some v5_6 → ∀ (H : Heap) (locs : List Loc), va_P (dC, dI) vwCl [(h_p1, .inr (6, [.int f_p1_size, .int f_p1_places, .int f_p1_drawn, .ref h_p1_sets])), (h_p2, .inr (8, [.int f_p2_nearestNumber, .int f_p2_nearestLength, .int f_p2_goals_1, .int f_p2_goers_1, .int f_p2_reached_1, .ref h_p2_goalTones, .ref h_p2_goerTones, .ref h_p2_extra, .ref h_p2_goalPrices, .ref h_p2_goerPrices, .ref h_p2_goalOfGoer, .ref h_p2_cameFrom, .ref h_p2_slack])), (h_t, .inr (3, [.int f_t_stops_1, .ref h_t_stopSets, .ref h_t_lengths, .ref h_t_best])), (h_p1_sets, .inl (cA, 8, .inl f_p1_sets)), (h_p2_cameFrom, .inl (cA, 13, .inl f_p2_cameFrom_1)), (h_p2_extra, .inl (cA, 169, .inl f_p2_extra_1)), (h_p2_goalOfGoer, .inl (cA, 13, .inl f_p2_goalOfGoer_1)), (h_p2_goalPrices, .inl (cA, 13, .inl f_p2_goalPrices_1)), (h_p2_goalTones, .inl (cA, 13, .inl f_p2_goalTones_1)), (h_p2_goerPrices, .inl (cA, 13, .inl f_p2_goerPrices_1)), (h_p2_goerTones, .inl (cA, 13, .inl f_p2_goerTones_1)), (h_p2_slack, .inl (cA, 13, .inl f_p2_slack_1)), (h_t_best, .inl (cA, 896, .inl f_t_best_8)), (h_t_lengths, .inl (cA, 64, .inl f_t_lengths_1)), (h_t_stopSets, .inl (cA, 8, .inl f_t_stopSets_1))] H → va_D A [(h_p1, .inr (6, [.int f_p1_size, .int f_p1_places, .int f_p1_drawn, .ref h_p1_sets])), (h_p2, .inr (8, [.int f_p2_nearestNumber, .int f_p2_nearestLength, .int f_p2_goals_1, .int f_p2_goers_1, .int f_p2_reached_1, .ref h_p2_goalTones, .ref h_p2_goerTones, .ref h_p2_extra, .ref h_p2_goalPrices, .ref h_p2_goerPrices, .ref h_p2_goalOfGoer, .ref h_p2_cameFrom, .ref h_p2_slack])), (h_t, .inr (3, [.int f_t_stops_1, .ref h_t_stopSets, .ref h_t_lengths, .ref h_t_best])), (h_p1_sets, .inl (cA, 8, .inl f_p1_sets)), (h_p2_cameFrom, .inl (cA, 13, .inl f_p2_cameFrom_1)), (h_p2_extra, .inl (cA, 169, .inl f_p2_extra_1)), (h_p2_goalOfGoer, .inl (cA, 13, .inl f_p2_goalOfGoer_1)), (h_p2_goalPrices, .inl (cA, 13, .inl f_p2_goalPrices_1)), (h_p2_goalTones, .inl (cA, 13, .inl f_p2_goalTones_1)), (h_p2_goerPrices, .inl (cA, 13, .inl f_p2_goerPrices_1)), (h_p2_goerTones, .inl (cA, 13, .inl f_p2_goerTones_1)), (h_p2_slack, .inl (cA, 13, .inl f_p2_slack_1)), (h_t_best, .inl (cA, 896, .inl f_t_best_8)), (h_t_lengths, .inl (cA, 64, .inl f_t_lengths_1)), (h_t_stopSets, .inl (cA, 8, .inl f_t_stopSets_1))] → va_S A s.heap H locs → ∀ ls : Array Slot, lv_has ls 7 [(0, .ref h_t), (3, .int v3_1), (4, .int v4_1), (5, .int v5_5), (6, .int v6_5)] → (∀ (H : Heap) (locs : List Loc), va_P (dC, dI) vwCl [(h_p1, .inr (6, [.int f_p1_size, .int f_p1_places, .int f_p1_drawn, .ref h_p1_sets])), (h_p2, .inr (8, [.int f_p2_nearestNumber, .int f_p2_nearestLength, .int f_p2_goals_1, .int f_p2_goers_1, .int f_p2_reached_1, .ref h_p2_goalTones, .ref h_p2_goerTones, .ref h_p2_extra, .ref h_p2_goalPrices, .ref h_p2_goerPrices, .ref h_p2_goalOfGoer, .ref h_p2_cameFrom, .ref h_p2_slack])), (h_t, .inr (3, [.int f_t_stops_1, .ref h_t_stopSets, .ref h_t_lengths, .ref h_t_best])), (h_p1_sets, .inl (cA, 8, .inl f_p1_sets)), (h_p2_cameFrom, .inl (cA, 13, .inl f_p2_cameFrom_1)), (h_p2_extra, .inl (cA, 169, .inl f_p2_extra_1)), (h_p2_goalOfGoer, .inl (cA, 13, .inl f_p2_goalOfGoer_1)), (h_p2_goalPrices, .inl (cA, 13, .inl f_p2_goalPrices_1)), (h_p2_goalTones, .inl (cA, 13, .inl f_p2_goalTones_1)), (h_p2_goerPrices, .inl (cA, 13, .inl f_p2_goerPrices_1)), (h_p2_goerTones, .inl (cA, 13, .inl f_p2_goerTones_1)), (h_p2_slack, .inl (cA, 13, .inl f_p2_slack_1)), (h_t_best, .inl (cA, 896, .inl f_t_best_8)), (h_t_lengths, .inl (cA, 64, .inl f_t_lengths_1)), (h_t_stopSets, .inl (cA, 8, .inl f_t_stopSets_1))] H → va_D A [(h_p1, .inr (6, [.int f_p1_size, .int f_p1_places, .int f_p1_drawn, .ref h_p1_sets])), (h_p2, .inr (8, [.int f_p2_nearestNumber, .int f_p2_nearestLength, .int f_p2_goals_1, .int f_p2_goers_1, .int f_p2_reached_1, .ref h_p2_goalTones, .ref h_p2_goerTones, .ref h_p2_extra, .ref h_p2_goalPrices, .ref h_p2_goerPrices, .ref h_p2_goalOfGoer, .ref h_p2_cameFrom, .ref h_p2_slack])), (h_t, .inr (3, [.int f_t_stops_1, .ref h_t_stopSets, .ref h_t_lengths, .ref h_t_best])), (h_p1_sets, .inl (cA, 8, .inl f_p1_sets)), (h_p2_cameFrom, .inl (cA, 13, .inl f_p2_cameFrom_1)), (h_p2_extra, .inl (cA, 169, .inl f_p2_extra_1)), (h_p2_goalOfGoer, .inl (cA, 13, .inl f_p2_goalOfGoer_1)), (h_p2_goalPrices, .inl (cA, 13, .inl f_p2_goalPrices_1)), (h_p2_goalTones, .inl (cA, 13, .inl f_p2_goalTones_1)), (h_p2_goerPrices, .inl (cA, 13, .inl f_p2_goerPrices_1)), (h_p2_goerTones, .inl (cA, 13, .inl f_p2_goerTones_1)), (h_p2_slack, .inl (cA, 13, .inl f_p2_slack_1)), (h_t_best, .inl (cA, 896, .inl f_t_best_8)), (h_t_lengths, .inl (cA, 64, .inl f_t_lengths_1)), (h_t_stopSets, .inl (cA, 8, .inl f_t_stopSets_1))] → va_S A s.heap H locs → ∀ ls : Array Slot, lv_has ls 7 [(5, .int v5_6)] → W p l e (headSpec wsX4_least rmX4_least).room s m (([.ref h_t, .ref h_p1, .ref h_p2] : List Value).toArray) below meth c H locs 0 0 Q (F0 m 155 ls [])) → W p l e (headSpec wsX4_least rmX4_least).room s m (([.ref h_t, .ref h_p1, .ref h_p2] : List Value).toArray) below meth c H locs 0 0 Q (F0 m 123 ls []) := by
      clear hm hP hD hS hl
      intro n
      induction n with
      | zero => intro _ _ _ hm; exact nomatch (show none = some _ from hm)
      | succ n ih =>
        intro v5_5 v6_5 v5_6 hm H locs hP hD hS ls hl KK
        unfold m_Round_least_L123 at hm
        refine lv_iload hx hb dX4_least_123 (lv_at hl 4 rfl) ?_
        refine lv_iload_n hx hb dX4_least_125 rfl (lv_at hl 1 rfl) ?_
        refine lv_icmp_ge (tgt := 155) hx hb dX4_least_126 (by decide) (fun c126 => ?_) (fun c126 => ?_)
        · replace hm := if_t c126 hm
          cases hm
          exact KK _ _ hP hD hS _ (lv_sub hl [3] rfl)
        · replace hm := if_f c126 hm
          refine lv_iload hx hb dX4_least_129 (lv_at hl 3 rfl) ?_
          refine lv_aload_n hx hb dX4_least_131 rfl (lv_at hl 0 rfl) ?_
          refine va_get (D := (dC, dI)) (ci := 3) (v := .ref h_t_best) (C := RX4) (T := TX4) (N := 4) hx hb hts uX4 hown hK hP 2 rfl rfl 3 (by decide) k3 (fun _ h9 => h9) rfl dX4_least_132 ?_
          refine lv_iload hx hb dX4_least_135 (lv_at hl 2 rfl) ?_
          refine lv_bipush (v := 7) hx hb dX4_least_137 (by decide) ?_
          refine lv_imul hx hb dX4_least_139 ?_
          refine lv_iload hx hb dX4_least_140 (lv_at hl 4 rfl) ?_
          refine lv_iadd hx hb dX4_least_142 ?_
          obtain ⟨b143, hm⟩ := ck_go hm
          refine va_iald hx hb hK hP 12 0 rfl rfl b143 dX4_least_143 ?_
          refine va_mmin hx hb (hml.trans hl.1.symm) hown k4 k5 k6 k7 (Nat.le_of_ble_eq_true rfl) (Nat.le_of_ble_eq_true rfl) (Nat.zero_le _) (Nat.zero_le _) dX4_least_144 ?_
          refine lv_topi (fun v5_7 ev5_7 => ?_)
          replace hm := lt_go ev5_7 hm
          refine lv_istore (lv' := [(5, .int v5_7), (0, .ref h_t), (3, .int v3_1), (4, .int v4_1), (6, .int v6_5)]) hx hb dX4_least_147 hl (by decide) rfl (fun ls hl => ?_)
          obtain ⟨v6_6, ev6_6⟩ : ∃ z : Int32, z = v6_5 + 1 := ⟨_, rfl⟩
          replace hm := lt_go ev6_6 hm
          refine lv_iinc (v := v6_6) (lv' := [(6, .int v6_6), (5, .int v5_7), (0, .ref h_t), (3, .int v3_1), (4, .int v4_1)]) hx hb dX4_least_149 hl (k := 4) rfl (by rw [ev6_6]; rfl) (by decide) rfl (fun ls hl => ?_)
          refine lv_goto (tgt := 123) hx hb dX4_least_152 (by decide) ?_
          exact ih _ _ _ hm _ _ hP hD hS _ (lv_sub hl [2, 3, 4, 1, 0] rfl) KK
    obtain ⟨v5_8, hl123, hm⟩ := bd1_go hm
    refine L123 _ _ _ _ hl123 _ _ hP hD hS _ (lv_sub hl [2, 3, 4, 1, 0] rfl) (fun H locs hP hD hS ls hl => ?_)
    refine lv_iload hx hb dX4_least_155 (lv_at hl 0 rfl) ?_
    cases hm
    exact W_mono hQ (W.iret hx hb hr (fun t ht hW => ⟨⟨_, (), rfl, rfl, by rw [ht]; exact hP, va_K.moved hW.alike hK, hD⟩, hS.F ht⟩) hS.2.2 dX4_least_157)
  · replace hm := if_f c10 hm
    refine lv_iconst (v := 0) hx hb dX4_least_13 (by decide) ?_
    cases hm
    exact W_mono hQ (W.iret hx hb hr (fun t ht hW => ⟨⟨_, (), rfl, rfl, by rw [ht]; exact hP, va_K.moved hW.alike hK, hD⟩, hS.F ht⟩) hS.2.2 dX4_least_14)
abbrev rmX5_drawnOf : Room := { frames := 2, cells := 0, slots := 0, locals := 42 }
theorem uX5_X5_drawnOf : ∀ w ∈ wsX50, w ∈ wsX5_drawnOf := fun _ h => List.mem_cons_of_mem _ (List.mem_append_right _ (h))
set_option maxHeartbeats 40000000 in
set_option maxRecDepth 100000 in
theorem c_Rows_drawnOf (l : Launch) (dC : Nat → ClassId) (dI : Nat → Nat → Nat) (cA : ClassId) (h_t h_t_cells : Nat) (n_t_cells : Nat) (f_t_count : Int32) (f_t_cells : Nat → Int32) (a1 : Int32) (r0 : Int32) (hm : m_Rows_drawnOf n_t_cells f_t_cells f_t_count a1 = some r0) (sz : Nat) : Met l yX5_drawnOf wsX5_drawnOf rmX5_drawnOf (mPre (dC, dI) cA [.ref h_t, .int a1] sz [(h_t, .inr (4, [.int f_t_count, .ref h_t_cells])), (h_t_cells, .inl (cA, n_t_cells, .inl f_t_cells))]) (mPosI (dC, dI) cA r0 (va_A [(h_t, .inr (4, [.int f_t_count, .ref h_t_cells])), (h_t_cells, .inl (cA, n_t_cells, .inl f_t_cells))] sz) [(h_t, .inr (4, [.int f_t_count, .ref h_t_cells])), (h_t_cells, .inl (cA, n_t_cells, .inl f_t_cells))]) 0 0 (va_A [(h_t, .inr (4, [.int f_t_count, .ref h_t_cells])), (h_t_cells, .inl (cA, n_t_cells, .inl f_t_cells))] sz) := by
  refine Met.ofW (cc := cX5_drawnOf) (maxL := 2) (ret := (some .int)) (by decide) rfl ?_
  intro p e s m args below meth c s₁ B hml hv
  obtain ⟨rfl, hsz, hP, hK, hD0⟩ := hv
  refine W_gen (fun Q hQ => ?_)
  have hx := B.exec
  have hb := B.bytes
  have hr := B.returns
  have hts := atoms_spec (ws := wsX5_drawnOf) B.pre
  have hown : s.vm.findClass RX5 = some m.cls := findClass_of_methodNamed B.named
  have hlocks := B.notSynchronized
  subst hsz
  have hD := hD0.self (sz := s.heap.size)
  clear hD0
  generalize hAe : va_A [(h_t, .inr (4, [.int f_t_count, .ref h_t_cells])), (h_t_cells, .inl (cA, n_t_cells, .inl f_t_cells))] s.heap.size = A at hD hQ
  have hA : ∀ q : Nat, s.heap.size ≤ q → A q := fun q h => by rw [← hAe]; exact Or.inr h
  clear hAe
  have hS : va_S A s.heap s.heap [] := va_S.rf
  have hl := lv_entry ([.ref h_t, .int a1]) (n := 2) (Nat.le_of_ble_eq_true rfl)
  rw [lg_entry_eq]
  generalize (lg_sl ([.ref h_t, .int a1]) ++ List.replicate (2 - (lg_sl ([.ref h_t, .int a1])).length) Slot.unset).toArray = ls at hl ⊢
  have hl : lv_has ls 2 [(0, .ref h_t), (1, .int a1)] := hl
  have k1 := hts (.fieldLink RX5 24 "ToneSets$Rows" "cells" "[I") (List.mem_of_getElem? (i := 1) rfl)
  have uX5 := uX5_X5_drawnOf
  unfold m_Rows_drawnOf at hm
  refine lv_aload_n hx hb dX5_drawnOf_0 rfl (lv_at hl 0 rfl) ?_
  refine lv_iload_n hx hb dX5_drawnOf_1 rfl (lv_at hl 1 rfl) ?_
  obtain ⟨r_1, hc2, hm⟩ := bd1_go hm
  refine my_cVi (As := [.int a1]) (rest := []) (WC := [(h_t, .inr (4, [.int f_t_count, .ref h_t_cells])), (h_t_cells, .inl (cA, n_t_cells, .inl f_t_cells))]) (WC' := [(h_t, .inr (4, [.int f_t_count, .ref h_t_cells])), (h_t_cells, .inl (cA, n_t_cells, .inl f_t_cells))]) (WR := []) (W' := [(h_t, .inr (4, [.int f_t_count, .ref h_t_cells])), (h_t_cells, .inl (cA, n_t_cells, .inl f_t_cells))]) ⟨hx, hb, hml, hown, hts⟩ hK hP hD hS hA (c_Rows_isStored l dC dI cA h_t h_t_cells n_t_cells f_t_count f_t_cells a1 r_1 hc2) (cwV 1 hts gX5_drawnOf_X5_isStored rfl rfl rfl (by decide +kernel) ⟨Nat.le_of_ble_eq_true rfl, Nat.le_of_ble_eq_true rfl⟩) [0, 1] [] [0, 1] rfl rfl rfl rfl (ci := 4) (q0 := 0) rfl rfl rfl rfl hl.1 (Nat.le_of_ble_eq_true rfl) dX5_drawnOf_2 ⟨Nat.zero_le _, Nat.zero_le _⟩ (fun H locs hP hD hS => ?_)
  refine lv_if_eq (tgt := 22) hx hb dX5_drawnOf_5 (by decide) (fun c5 => ?_) (fun c5 => ?_)
  · replace hm := if_t c5 hm
    refine lv_iconst (v := 0) hx hb dX5_drawnOf_22 (by decide) ?_
    cases hm
    exact W_mono hQ (W.iret hx hb hr (fun t ht hW => ⟨⟨_, (), rfl, rfl, by rw [ht]; exact hP, va_K.moved hW.alike hK, hD⟩, hS.F ht⟩) hS.2.2 dX5_drawnOf_23)
  · replace hm := if_f c5 hm
    refine lv_aload_n hx hb dX5_drawnOf_8 rfl (lv_at hl 0 rfl) ?_
    refine va_get (D := (dC, dI)) (ci := 4) (v := .ref h_t_cells) (C := RX5) (T := TX5) (N := 2) hx hb hts uX5 hown hK hP 0 rfl rfl 1 (by decide) k1 (fun _ h9 => h9) rfl dX5_drawnOf_9 ?_
    refine lv_iload_n hx hb dX5_drawnOf_12 rfl (lv_at hl 1 rfl) ?_
    refine lv_bipush (v := 11) hx hb dX5_drawnOf_13 (by decide) ?_
    refine lv_imul hx hb dX5_drawnOf_15 ?_
    refine lv_iconst (v := 2) hx hb dX5_drawnOf_16 (by decide) ?_
    refine lv_iadd hx hb dX5_drawnOf_17 ?_
    obtain ⟨b18, hm⟩ := ck_go hm
    refine va_iald hx hb hK hP 1 0 rfl rfl b18 dX5_drawnOf_18 ?_
    refine lv_goto (tgt := 23) hx hb dX5_drawnOf_19 (by decide) ?_
    cases hm
    exact W_mono hQ (W.iret hx hb hr (fun t ht hW => ⟨⟨_, (), rfl, rfl, by rw [ht]; exact hP, va_K.moved hW.alike hK, hD⟩, hS.F ht⟩) hS.2.2 dX5_drawnOf_23)
abbrev rmX7_isFormAhead : Room := { frames := 3, cells := 0, slots := 0, locals := 66 }
theorem uX7_X7_isFormAhead : ∀ w ∈ wsX70, w ∈ wsX7_isFormAhead := fun _ h => List.mem_cons_of_mem _ (List.mem_append_right _ (h))
set_option maxHeartbeats 40000000 in
set_option maxRecDepth 100000 in
theorem c_Shelf_isFormAhead (l : Launch) (dC : Nat → ClassId) (dI : Nat → Nat → Nat) (cA : ClassId) (fu : Nat) (h_t h_t_sets : Nat) (f_t_size : Int32) (f_t_places : Int32) (f_t_drawn : Int32) (f_t_sets : Nat → Int32) (a1 : Int32) (r0 : Int32) (hm : m_Shelf_isFormAhead fu f_t_places f_t_sets f_t_size a1 = some r0) (sz : Nat) : Met l yX7_isFormAhead wsX7_isFormAhead rmX7_isFormAhead (mPre (dC, dI) cA [.ref h_t, .int a1] sz [(h_t, .inr (6, [.int f_t_size, .int f_t_places, .int f_t_drawn, .ref h_t_sets])), (h_t_sets, .inl (cA, 8, .inl f_t_sets))]) (mPosI (dC, dI) cA r0 (va_A [(h_t, .inr (6, [.int f_t_size, .int f_t_places, .int f_t_drawn, .ref h_t_sets])), (h_t_sets, .inl (cA, 8, .inl f_t_sets))] sz) [(h_t, .inr (6, [.int f_t_size, .int f_t_places, .int f_t_drawn, .ref h_t_sets])), (h_t_sets, .inl (cA, 8, .inl f_t_sets))]) 0 0 (va_A [(h_t, .inr (6, [.int f_t_size, .int f_t_places, .int f_t_drawn, .ref h_t_sets])), (h_t_sets, .inl (cA, 8, .inl f_t_sets))] sz) := by
  refine Met.ofW (cc := cX7_isFormAhead) (maxL := 4) (ret := (some .boolean)) (by decide) rfl ?_
  intro p e s m args below meth c s₁ B hml hv
  obtain ⟨rfl, hsz, hP, hK, hD0⟩ := hv
  refine W_gen (fun Q hQ => ?_)
  have hx := B.exec
  have hb := B.bytes
  have hr := B.returns
  have hts := atoms_spec (ws := wsX7_isFormAhead) B.pre
  have hown : s.vm.findClass RX7 = some m.cls := findClass_of_methodNamed B.named
  have hlocks := B.notSynchronized
  subst hsz
  have hD := hD0.self (sz := s.heap.size)
  clear hD0
  generalize hAe : va_A [(h_t, .inr (6, [.int f_t_size, .int f_t_places, .int f_t_drawn, .ref h_t_sets])), (h_t_sets, .inl (cA, 8, .inl f_t_sets))] s.heap.size = A at hD hQ
  have hA : ∀ q : Nat, s.heap.size ≤ q → A q := fun q h => by rw [← hAe]; exact Or.inr h
  clear hAe
  have hS : va_S A s.heap s.heap [] := va_S.rf
  have hl := lv_entry ([.ref h_t, .int a1]) (n := 4) (Nat.le_of_ble_eq_true rfl)
  rw [lg_entry_eq]
  generalize (lg_sl ([.ref h_t, .int a1]) ++ List.replicate (4 - (lg_sl ([.ref h_t, .int a1])).length) Slot.unset).toArray = ls at hl ⊢
  have hl : lv_has ls 4 [(0, .ref h_t), (1, .int a1)] := hl
  have k1 := hts (.fieldLink RX7 9 "ToneSets$Shelf" "size" "I") (List.mem_of_getElem? (i := 1) rfl)
  have uX7 := uX7_X7_isFormAhead
  unfold m_Shelf_isFormAhead at hm
  refine lv_aload_n hx hb dX7_isFormAhead_0 rfl (lv_at hl 0 rfl) ?_
  refine lv_iload_n hx hb dX7_isFormAhead_1 rfl (lv_at hl 1 rfl) ?_
  obtain ⟨r_1, hc2, hm⟩ := bd1_go hm
  refine my_cVi (As := [.int a1]) (rest := []) (WC := [(h_t, .inr (6, [.int f_t_size, .int f_t_places, .int f_t_drawn, .ref h_t_sets])), (h_t_sets, .inl (cA, 8, .inl f_t_sets))]) (WC' := [(h_t, .inr (6, [.int f_t_size, .int f_t_places, .int f_t_drawn, .ref h_t_sets])), (h_t_sets, .inl (cA, 8, .inl f_t_sets))]) (WR := []) (W' := [(h_t, .inr (6, [.int f_t_size, .int f_t_places, .int f_t_drawn, .ref h_t_sets])), (h_t_sets, .inl (cA, 8, .inl f_t_sets))]) ⟨hx, hb, hml, hown, hts⟩ hK hP hD hS hA (c_Shelf_setAt l dC dI cA h_t h_t_sets f_t_size f_t_places f_t_drawn f_t_sets a1 r_1 hc2) (cwV 1 hts gX7_isFormAhead_X7_setAt rfl rfl rfl (by decide +kernel) ⟨Nat.le_of_ble_eq_true rfl, Nat.le_of_ble_eq_true rfl⟩) [0, 1] [] [0, 1] rfl rfl rfl rfl (ci := 6) (q0 := 0) rfl rfl rfl rfl hl.1 (Nat.le_of_ble_eq_true rfl) dX7_isFormAhead_2 ⟨Nat.zero_le _, Nat.zero_le _⟩ (fun H locs hP hD hS => ?_)
  refine lv_aload_n hx hb dX7_isFormAhead_5 rfl (lv_at hl 0 rfl) ?_
  refine va_get (D := (dC, dI)) (ci := 6) (v := .int f_t_size) (C := RX7) (T := TX7) (N := 4) hx hb hts uX7 hown hK hP 0 rfl rfl 0 (by decide) k1 (fun _ h9 => h9) rfl dX7_isFormAhead_6 ?_
  obtain ⟨r_2, hc9, hm⟩ := bd1_go hm
  refine my_cSi (As := [.int r_1, .int f_t_size]) (rest := []) (WC := []) (WC' := []) (WR := [(h_t, .inr (6, [.int f_t_size, .int f_t_places, .int f_t_drawn, .ref h_t_sets])), (h_t_sets, .inl (cA, 8, .inl f_t_sets))]) (W' := [(h_t, .inr (6, [.int f_t_size, .int f_t_places, .int f_t_drawn, .ref h_t_sets])), (h_t_sets, .inl (cA, 8, .inl f_t_sets))]) ⟨hx, hb, hml, hown, hts⟩ hK hP hD hS hA (c_Ring_formOf l dC dI cA fu r_1 f_t_size r_2 hc9) (va_cwS 2 hts gX7_isFormAhead_X3_formOf rfl rfl rfl (by decide +kernel) ⟨Nat.le_of_ble_eq_true rfl, Nat.le_of_ble_eq_true rfl⟩) [] [0, 1] [0, 1] rfl rfl rfl rfl rfl rfl hl.1 (Nat.le_of_ble_eq_true rfl) dX7_isFormAhead_9 ⟨Nat.zero_le _, Nat.zero_le _⟩ (fun H locs hP hD hS => ?_)
  refine lv_topi (fun v2_1 ev2_1 => ?_)
  replace hm := lt_go ev2_1 hm
  refine lv_istore_n (lv' := [(2, .int v2_1), (0, .ref h_t), (1, .int a1)]) hx hb dX7_isFormAhead_12 rfl hl (by decide) rfl (fun ls hl => ?_)
  refine lv_iconst (v := 0) hx hb dX7_isFormAhead_13 (by decide) ?_
  refine lv_topi (fun v3_1 ev3_1 => ?_)
  replace hm := lt_go ev3_1 hm
  refine lv_istore_n (lv' := [(3, .int v3_1), (2, .int v2_1), (0, .ref h_t), (1, .int a1)]) hx hb dX7_isFormAhead_14 rfl hl (by decide) rfl (fun ls hl => ?_)
  have L15 : ∀ (n : Nat) (v3_2 : Int32), m_Shelf_isFormAhead_L15 fu a1 f_t_places f_t_sets f_t_size v2_1 n v3_2 = some r0 → ∀ (H : Heap) (locs : List Loc), va_P (dC, dI) vwCl [(h_t, .inr (6, [.int f_t_size, .int f_t_places, .int f_t_drawn, .ref h_t_sets])), (h_t_sets, .inl (cA, 8, .inl f_t_sets))] H → va_D A [(h_t, .inr (6, [.int f_t_size, .int f_t_places, .int f_t_drawn, .ref h_t_sets])), (h_t_sets, .inl (cA, 8, .inl f_t_sets))] → va_S A s.heap H locs → ∀ ls : Array Slot, lv_has ls 4 [(0, .ref h_t), (1, .int a1), (2, .int v2_1), (3, .int v3_2)] → W p l e (headSpec wsX7_isFormAhead rmX7_isFormAhead).room s m (([.ref h_t, .int a1] : List Value).toArray) below meth c H locs 0 0 Q (F0 m 15 ls []) := by
    clear hm hP hD hS hl
    intro n
    induction n with
    | zero => intro _ hm; exact nomatch (show none = some _ from hm)
    | succ n ih =>
      intro v3_2 hm H locs hP hD hS ls hl
      unfold m_Shelf_isFormAhead_L15 at hm
      refine lv_iload_n hx hb dX7_isFormAhead_15 rfl (lv_at hl 3 rfl) ?_
      refine lv_iload_n hx hb dX7_isFormAhead_16 rfl (lv_at hl 1 rfl) ?_
      refine lv_icmp_ge (tgt := 44) hx hb dX7_isFormAhead_17 (by decide) (fun c17 => ?_) (fun c17 => ?_)
      · replace hm := if_t c17 hm
        refine lv_iconst (v := 0) hx hb dX7_isFormAhead_44 (by decide) ?_
        cases hm
        exact W_mono hQ (W.zret hx hb hr rfl (fun t ht hW => ⟨⟨_, (), rfl, rfl, by rw [ht]; exact hP, va_K.moved hW.alike hK, hD⟩, hS.F ht⟩) hS.2.2 dX7_isFormAhead_45)
      · replace hm := if_f c17 hm
        refine lv_aload_n hx hb dX7_isFormAhead_20 rfl (lv_at hl 0 rfl) ?_
        refine lv_iload_n hx hb dX7_isFormAhead_21 rfl (lv_at hl 3 rfl) ?_
        obtain ⟨r_3, hc22, hm⟩ := bd1_go hm
        refine my_cVi (As := [.int v3_2]) (rest := []) (WC := [(h_t, .inr (6, [.int f_t_size, .int f_t_places, .int f_t_drawn, .ref h_t_sets])), (h_t_sets, .inl (cA, 8, .inl f_t_sets))]) (WC' := [(h_t, .inr (6, [.int f_t_size, .int f_t_places, .int f_t_drawn, .ref h_t_sets])), (h_t_sets, .inl (cA, 8, .inl f_t_sets))]) (WR := []) (W' := [(h_t, .inr (6, [.int f_t_size, .int f_t_places, .int f_t_drawn, .ref h_t_sets])), (h_t_sets, .inl (cA, 8, .inl f_t_sets))]) ⟨hx, hb, hml, hown, hts⟩ hK hP hD hS hA (c_Shelf_setAt l dC dI cA h_t h_t_sets f_t_size f_t_places f_t_drawn f_t_sets v3_2 r_3 hc22) (cwV 1 hts gX7_isFormAhead_X7_setAt rfl rfl rfl (by decide +kernel) ⟨Nat.le_of_ble_eq_true rfl, Nat.le_of_ble_eq_true rfl⟩) [0, 1] [] [0, 1] rfl rfl rfl rfl (ci := 6) (q0 := 0) rfl rfl rfl rfl hl.1 (Nat.le_of_ble_eq_true rfl) dX7_isFormAhead_22 ⟨Nat.zero_le _, Nat.zero_le _⟩ (fun H locs hP hD hS => ?_)
        refine lv_aload_n hx hb dX7_isFormAhead_25 rfl (lv_at hl 0 rfl) ?_
        refine va_get (D := (dC, dI)) (ci := 6) (v := .int f_t_size) (C := RX7) (T := TX7) (N := 4) hx hb hts uX7 hown hK hP 0 rfl rfl 0 (by decide) k1 (fun _ h9 => h9) rfl dX7_isFormAhead_26 ?_
        obtain ⟨r_4, hc29, hm⟩ := bd1_go hm
        refine my_cSi (As := [.int r_3, .int f_t_size]) (rest := []) (WC := []) (WC' := []) (WR := [(h_t, .inr (6, [.int f_t_size, .int f_t_places, .int f_t_drawn, .ref h_t_sets])), (h_t_sets, .inl (cA, 8, .inl f_t_sets))]) (W' := [(h_t, .inr (6, [.int f_t_size, .int f_t_places, .int f_t_drawn, .ref h_t_sets])), (h_t_sets, .inl (cA, 8, .inl f_t_sets))]) ⟨hx, hb, hml, hown, hts⟩ hK hP hD hS hA (c_Ring_formOf l dC dI cA fu r_3 f_t_size r_4 hc29) (va_cwS 2 hts gX7_isFormAhead_X3_formOf rfl rfl rfl (by decide +kernel) ⟨Nat.le_of_ble_eq_true rfl, Nat.le_of_ble_eq_true rfl⟩) [] [0, 1] [0, 1] rfl rfl rfl rfl rfl rfl hl.1 (Nat.le_of_ble_eq_true rfl) dX7_isFormAhead_29 ⟨Nat.zero_le _, Nat.zero_le _⟩ (fun H locs hP hD hS => ?_)
        refine lv_iload_n hx hb dX7_isFormAhead_32 rfl (lv_at hl 2 rfl) ?_
        refine lv_icmp_ne (tgt := 38) hx hb dX7_isFormAhead_33 (by decide) (fun c33 => ?_) (fun c33 => ?_)
        · replace hm := if_f c33 hm
          obtain ⟨v3_3, ev3_3⟩ : ∃ z : Int32, z = v3_2 + 1 := ⟨_, rfl⟩
          replace hm := lt_go ev3_3 hm
          refine lv_iinc (v := v3_3) (lv' := [(3, .int v3_3), (0, .ref h_t), (1, .int a1), (2, .int v2_1)]) hx hb dX7_isFormAhead_38 hl (k := 3) rfl (by rw [ev3_3]; rfl) (by decide) rfl (fun ls hl => ?_)
          refine lv_goto (tgt := 15) hx hb dX7_isFormAhead_41 (by decide) ?_
          exact ih _ hm _ _ hP hD hS _ (lv_sub hl [1, 2, 3, 0] rfl)
        · replace hm := if_t c33 hm
          refine lv_iconst (v := 1) hx hb dX7_isFormAhead_36 (by decide) ?_
          cases hm
          exact W_mono hQ (W.zret hx hb hr rfl (fun t ht hW => ⟨⟨_, (), rfl, rfl, by rw [ht]; exact hP, va_K.moved hW.alike hK, hD⟩, hS.F ht⟩) hS.2.2 dX7_isFormAhead_37)
  exact L15 _ _ hm _ _ hP hD hS _ (lv_sub hl [2, 3, 1, 0] rfl)
abbrev rmX7_countUnlikeForms : Room := { frames := 4, cells := 0, slots := 0, locals := 89 }
theorem uX7_X7_countUnlikeForms : ∀ w ∈ wsX70, w ∈ wsX7_countUnlikeForms := fun _ h => List.mem_cons_of_mem _ (List.mem_append_right _ (h))
set_option maxHeartbeats 40000000 in
set_option maxRecDepth 100000 in
theorem c_Shelf_countUnlikeForms (l : Launch) (dC : Nat → ClassId) (dI : Nat → Nat → Nat) (cA : ClassId) (fu : Nat) (h_t h_t_sets : Nat) (f_t_size : Int32) (f_t_places : Int32) (f_t_drawn : Int32) (f_t_sets : Nat → Int32) (r0 : Int32) (hm : m_Shelf_countUnlikeForms fu f_t_places f_t_sets f_t_size = some r0) (sz : Nat) : Met l yX7_countUnlikeForms wsX7_countUnlikeForms rmX7_countUnlikeForms (mPre (dC, dI) cA [.ref h_t] sz [(h_t, .inr (6, [.int f_t_size, .int f_t_places, .int f_t_drawn, .ref h_t_sets])), (h_t_sets, .inl (cA, 8, .inl f_t_sets))]) (mPosI (dC, dI) cA r0 (va_A [(h_t, .inr (6, [.int f_t_size, .int f_t_places, .int f_t_drawn, .ref h_t_sets])), (h_t_sets, .inl (cA, 8, .inl f_t_sets))] sz) [(h_t, .inr (6, [.int f_t_size, .int f_t_places, .int f_t_drawn, .ref h_t_sets])), (h_t_sets, .inl (cA, 8, .inl f_t_sets))]) 0 0 (va_A [(h_t, .inr (6, [.int f_t_size, .int f_t_places, .int f_t_drawn, .ref h_t_sets])), (h_t_sets, .inl (cA, 8, .inl f_t_sets))] sz) := by
  refine Met.ofW (cc := cX7_countUnlikeForms) (maxL := 3) (ret := (some .int)) (by decide) rfl ?_
  intro p e s m args below meth c s₁ B hml hv
  obtain ⟨rfl, hsz, hP, hK, hD0⟩ := hv
  refine W_gen (fun Q hQ => ?_)
  have hx := B.exec
  have hb := B.bytes
  have hr := B.returns
  have hts := atoms_spec (ws := wsX7_countUnlikeForms) B.pre
  have hown : s.vm.findClass RX7 = some m.cls := findClass_of_methodNamed B.named
  have hlocks := B.notSynchronized
  subst hsz
  have hD := hD0.self (sz := s.heap.size)
  clear hD0
  generalize hAe : va_A [(h_t, .inr (6, [.int f_t_size, .int f_t_places, .int f_t_drawn, .ref h_t_sets])), (h_t_sets, .inl (cA, 8, .inl f_t_sets))] s.heap.size = A at hD hQ
  have hA : ∀ q : Nat, s.heap.size ≤ q → A q := fun q h => by rw [← hAe]; exact Or.inr h
  clear hAe
  have hS : va_S A s.heap s.heap [] := va_S.rf
  have hl := lv_entry ([.ref h_t]) (n := 3) (Nat.le_of_ble_eq_true rfl)
  rw [lg_entry_eq]
  generalize (lg_sl ([.ref h_t]) ++ List.replicate (3 - (lg_sl ([.ref h_t])).length) Slot.unset).toArray = ls at hl ⊢
  have hl : lv_has ls 3 [(0, .ref h_t)] := hl
  have k1 := hts (.fieldLink RX7 15 "ToneSets$Shelf" "places" "I") (List.mem_of_getElem? (i := 1) rfl)
  have uX7 := uX7_X7_countUnlikeForms
  unfold m_Shelf_countUnlikeForms at hm
  refine lv_iconst (v := 0) hx hb dX7_countUnlikeForms_0 (by decide) ?_
  refine lv_topi (fun v1_1 ev1_1 => ?_)
  replace hm := lt_go ev1_1 hm
  refine lv_istore_n (lv' := [(1, .int v1_1), (0, .ref h_t)]) hx hb dX7_countUnlikeForms_1 rfl hl (by decide) rfl (fun ls hl => ?_)
  refine lv_iconst (v := 0) hx hb dX7_countUnlikeForms_2 (by decide) ?_
  refine lv_topi (fun v2_1 ev2_1 => ?_)
  replace hm := lt_go ev2_1 hm
  refine lv_istore_n (lv' := [(2, .int v2_1), (1, .int v1_1), (0, .ref h_t)]) hx hb dX7_countUnlikeForms_3 rfl hl (by decide) rfl (fun ls hl => ?_)
  have L4 : ∀ (n : Nat) (v1_2 : Int32) (v2_2 : Int32) (v1_3 : Int32), m_Shelf_countUnlikeForms_L4 fu f_t_places f_t_sets f_t_size n v1_2 v2_2 = some v1_3 → ∀ (H : Heap) (locs : List Loc), va_P (dC, dI) vwCl [(h_t, .inr (6, [.int f_t_size, .int f_t_places, .int f_t_drawn, .ref h_t_sets])), (h_t_sets, .inl (cA, 8, .inl f_t_sets))] H → va_D A [(h_t, .inr (6, [.int f_t_size, .int f_t_places, .int f_t_drawn, .ref h_t_sets])), (h_t_sets, .inl (cA, 8, .inl f_t_sets))] → va_S A s.heap H locs → ∀ ls : Array Slot, lv_has ls 3 [(0, .ref h_t), (1, .int v1_2), (2, .int v2_2)] → (∀ (H : Heap) (locs : List Loc), va_P (dC, dI) vwCl [(h_t, .inr (6, [.int f_t_size, .int f_t_places, .int f_t_drawn, .ref h_t_sets])), (h_t_sets, .inl (cA, 8, .inl f_t_sets))] H → va_D A [(h_t, .inr (6, [.int f_t_size, .int f_t_places, .int f_t_drawn, .ref h_t_sets])), (h_t_sets, .inl (cA, 8, .inl f_t_sets))] → va_S A s.heap H locs → ∀ ls : Array Slot, lv_has ls 3 [(1, .int v1_3)] → W p l e (headSpec wsX7_countUnlikeForms rmX7_countUnlikeForms).room s m (([.ref h_t] : List Value).toArray) below meth c H locs 0 0 Q (F0 m 29 ls [])) → W p l e (headSpec wsX7_countUnlikeForms rmX7_countUnlikeForms).room s m (([.ref h_t] : List Value).toArray) below meth c H locs 0 0 Q (F0 m 4 ls []) := by
    clear hm hP hD hS hl
    intro n
    induction n with
    | zero => intro _ _ _ hm; exact nomatch (show none = some _ from hm)
    | succ n ih =>
      intro v1_2 v2_2 v1_3 hm H locs hP hD hS ls hl KK
      unfold m_Shelf_countUnlikeForms_L4 at hm
      refine lv_iload_n hx hb dX7_countUnlikeForms_4 rfl (lv_at hl 2 rfl) ?_
      refine lv_aload_n hx hb dX7_countUnlikeForms_5 rfl (lv_at hl 0 rfl) ?_
      refine va_get (D := (dC, dI)) (ci := 6) (v := .int f_t_places) (C := RX7) (T := TX7) (N := 4) hx hb hts uX7 hown hK hP 0 rfl rfl 1 (by decide) k1 (fun _ h9 => h9) rfl dX7_countUnlikeForms_6 ?_
      refine lv_icmp_ge (tgt := 29) hx hb dX7_countUnlikeForms_9 (by decide) (fun c9 => ?_) (fun c9 => ?_)
      · replace hm := if_t c9 hm
        cases hm
        exact KK _ _ hP hD hS _ (lv_sub hl [1] rfl)
      · replace hm := if_f c9 hm
        refine lv_aload_n hx hb dX7_countUnlikeForms_12 rfl (lv_at hl 0 rfl) ?_
        refine lv_iload_n hx hb dX7_countUnlikeForms_13 rfl (lv_at hl 2 rfl) ?_
        obtain ⟨r_1, hc14, hm⟩ := bd1_go hm
        refine my_cVi (As := [.int v2_2]) (rest := []) (WC := [(h_t, .inr (6, [.int f_t_size, .int f_t_places, .int f_t_drawn, .ref h_t_sets])), (h_t_sets, .inl (cA, 8, .inl f_t_sets))]) (WC' := [(h_t, .inr (6, [.int f_t_size, .int f_t_places, .int f_t_drawn, .ref h_t_sets])), (h_t_sets, .inl (cA, 8, .inl f_t_sets))]) (WR := []) (W' := [(h_t, .inr (6, [.int f_t_size, .int f_t_places, .int f_t_drawn, .ref h_t_sets])), (h_t_sets, .inl (cA, 8, .inl f_t_sets))]) ⟨hx, hb, hml, hown, hts⟩ hK hP hD hS hA (c_Shelf_isFormAhead l dC dI cA fu h_t h_t_sets f_t_size f_t_places f_t_drawn f_t_sets v2_2 r_1 hc14) (cwV 1 hts gX7_countUnlikeForms_X7_isFormAhead rfl rfl rfl (by decide +kernel) ⟨Nat.le_of_ble_eq_true rfl, Nat.le_of_ble_eq_true rfl⟩) [0, 1] [] [0, 1] rfl rfl rfl rfl (ci := 6) (q0 := 0) rfl rfl rfl rfl hl.1 (Nat.le_of_ble_eq_true rfl) dX7_countUnlikeForms_14 ⟨Nat.zero_le _, Nat.zero_le _⟩ (fun H locs hP hD hS => ?_)
        obtain ⟨v1_4, hqJ_1, hm⟩ := bd1_go hm
        have J_1 : ∀ (H : Heap) (locs : List Loc), va_P (dC, dI) vwCl [(h_t, .inr (6, [.int f_t_size, .int f_t_places, .int f_t_drawn, .ref h_t_sets])), (h_t_sets, .inl (cA, 8, .inl f_t_sets))] H → va_D A [(h_t, .inr (6, [.int f_t_size, .int f_t_places, .int f_t_drawn, .ref h_t_sets])), (h_t_sets, .inl (cA, 8, .inl f_t_sets))] → va_S A s.heap H locs → ∀ ls : Array Slot, lv_has ls 3 [(0, .ref h_t), (1, .int v1_4), (2, .int v2_2)] → W p l e (headSpec wsX7_countUnlikeForms rmX7_countUnlikeForms).room s m (([.ref h_t] : List Value).toArray) below meth c H locs 0 0 Q (F0 m 23 ls []) := by
          intro H locs hP hD hS ls hl
          clear hqJ_1
          obtain ⟨v2_3, ev2_3⟩ : ∃ z : Int32, z = v2_2 + 1 := ⟨_, rfl⟩
          replace hm := lt_go ev2_3 hm
          refine lv_iinc (v := v2_3) (lv' := [(2, .int v2_3), (0, .ref h_t), (1, .int v1_4)]) hx hb dX7_countUnlikeForms_23 hl (k := 2) rfl (by rw [ev2_3]; rfl) (by decide) rfl (fun ls hl => ?_)
          refine lv_goto (tgt := 4) hx hb dX7_countUnlikeForms_26 (by decide) ?_
          exact ih _ _ _ hm _ _ hP hD hS _ (lv_sub hl [1, 2, 0] rfl) KK
        clear hm
        refine lv_if_ne (tgt := 23) hx hb dX7_countUnlikeForms_17 (by decide) (fun c17 => ?_) (fun c17 => ?_)
        · replace hqJ_1 := if_f c17 hqJ_1
          cases hqJ_1
          exact J_1 _ _ hP hD hS _ (lv_sub hl [0, 1, 2] rfl)
        · replace hqJ_1 := if_t c17 hqJ_1
          obtain ⟨v1_5, ev1_5⟩ : ∃ z : Int32, z = v1_2 + 1 := ⟨_, rfl⟩
          replace hqJ_1 := lt_go ev1_5 hqJ_1
          refine lv_iinc (v := v1_5) (lv' := [(1, .int v1_5), (0, .ref h_t), (2, .int v2_2)]) hx hb dX7_countUnlikeForms_20 hl (k := 1) rfl (by rw [ev1_5]; rfl) (by decide) rfl (fun ls hl => ?_)
          cases hqJ_1
          exact J_1 _ _ hP hD hS _ (lv_sub hl [1, 0, 2] rfl)
  obtain ⟨v1_6, hl4, hm⟩ := bd1_go hm
  refine L4 _ _ _ _ hl4 _ _ hP hD hS _ (lv_sub hl [2, 1, 0] rfl) (fun H locs hP hD hS ls hl => ?_)
  refine lv_iload_n hx hb dX7_countUnlikeForms_29 rfl (lv_at hl 0 rfl) ?_
  cases hm
  exact W_mono hQ (W.iret hx hb hr (fun t ht hW => ⟨⟨_, (), rfl, rfl, by rw [ht]; exact hP, va_K.moved hW.alike hK, hD⟩, hS.F ht⟩) hS.2.2 dX7_countUnlikeForms_30)
abbrev rmX7_drawSet : Room := { frames := 1, cells := 0, slots := 0, locals := 20 }
theorem uX7_X7_drawSet : ∀ w ∈ wsX70, w ∈ wsX7_drawSet := fun _ h => List.mem_cons_of_mem _ (List.mem_append_right _ (h))
set_option maxHeartbeats 40000000 in
set_option maxRecDepth 100000 in
theorem c_Shelf_drawSet (l : Launch) (dC : Nat → ClassId) (dI : Nat → Nat → Nat) (cA : ClassId) (h_t h_t_sets : Nat) (f_t_size : Int32) (f_t_places : Int32) (f_t_drawn : Int32) (r0 : Int32) (f_t_drawn_z : Int32) (hm : m_Shelf_drawSet f_t_drawn f_t_size = some (r0, f_t_drawn_z)) (sz : Nat) : Met l yX7_drawSet wsX7_drawSet rmX7_drawSet (mPre (dC, dI) cA [.ref h_t] sz [(h_t, .inr (6, [.int f_t_size, .int f_t_places, .int f_t_drawn, .ref h_t_sets]))]) (mPosI (dC, dI) cA r0 (va_A [(h_t, .inr (6, [.int f_t_size, .int f_t_places, .int f_t_drawn, .ref h_t_sets]))] sz) [(h_t, .inr (6, [.int f_t_size, .int f_t_places, .int f_t_drawn_z, .ref h_t_sets]))]) 0 0 (va_A [(h_t, .inr (6, [.int f_t_size, .int f_t_places, .int f_t_drawn, .ref h_t_sets]))] sz) := by
  refine Met.ofW (cc := cX7_drawSet) (maxL := 1) (ret := (some .int)) (by decide) rfl ?_
  intro p e s m args below meth c s₁ B hml hv
  obtain ⟨rfl, hsz, hP, hK, hD0⟩ := hv
  refine W_gen (fun Q hQ => ?_)
  have hx := B.exec
  have hb := B.bytes
  have hr := B.returns
  have hts := atoms_spec (ws := wsX7_drawSet) B.pre
  have hown : s.vm.findClass RX7 = some m.cls := findClass_of_methodNamed B.named
  have hlocks := B.notSynchronized
  subst hsz
  have hD := hD0.self (sz := s.heap.size)
  clear hD0
  generalize hAe : va_A [(h_t, .inr (6, [.int f_t_size, .int f_t_places, .int f_t_drawn, .ref h_t_sets]))] s.heap.size = A at hD hQ
  have hA : ∀ q : Nat, s.heap.size ≤ q → A q := fun q h => by rw [← hAe]; exact Or.inr h
  clear hAe
  have hS : va_S A s.heap s.heap [] := va_S.rf
  have hl := lv_entry ([.ref h_t]) (n := 1) (Nat.le_of_ble_eq_true rfl)
  rw [lg_entry_eq]
  generalize (lg_sl ([.ref h_t]) ++ List.replicate (1 - (lg_sl ([.ref h_t])).length) Slot.unset).toArray = ls at hl ⊢
  have hl : lv_has ls 1 [(0, .ref h_t)] := hl
  have k1 := hts (.fieldLink RX7 18 "ToneSets$Shelf" "drawn" "I") (List.mem_of_getElem? (i := 1) rfl)
  have k2 := hts (.constant RX7 33 (1103515245)) (List.mem_of_getElem? (i := 2) rfl)
  have k3 := hts (.constant RX7 34 (2147483647)) (List.mem_of_getElem? (i := 3) rfl)
  have k4 := hts (.constant RX7 35 (65536)) (List.mem_of_getElem? (i := 4) rfl)
  have k5 := hts (.fieldLink RX7 9 "ToneSets$Shelf" "size" "I") (List.mem_of_getElem? (i := 5) rfl)
  have uX7 := uX7_X7_drawSet
  unfold m_Shelf_drawSet at hm
  refine lv_aload_n hx hb dX7_drawSet_0 rfl (lv_at hl 0 rfl) ?_
  refine lv_aload_n hx hb dX7_drawSet_1 rfl (lv_at hl 0 rfl) ?_
  refine va_get (D := (dC, dI)) (ci := 6) (v := .int f_t_drawn) (C := RX7) (T := TX7) (N := 4) hx hb hts uX7 hown hK hP 0 rfl rfl 2 (by decide) k1 (fun _ h9 => h9) rfl dX7_drawSet_2 ?_
  refine lv_ldc (v := 1103515245) hx hb hown k2 dX7_drawSet_5 ?_
  refine lv_imul hx hb dX7_drawSet_7 ?_
  refine lv_sipush (v := 12345) hx hb dX7_drawSet_8 (by decide) ?_
  refine lv_iadd hx hb dX7_drawSet_11 ?_
  refine lv_ldc (v := 2147483647) hx hb hown k3 dX7_drawSet_12 ?_
  refine lv_iand hx hb dX7_drawSet_14 ?_
  refine lv_topi (fun f_t_drawn_1 ef_t_drawn_1 => ?_)
  replace hm := lt_go ef_t_drawn_1 hm
  refine my_put (W' := [(h_t, .inr (6, [.int f_t_size, .int f_t_places, .int f_t_drawn_1, .ref h_t_sets]))]) (ci := 6) (v := .int f_t_drawn_1) (ty := .int) (C := RX7) (T := TX7) (N := 4) hx hb hts uX7 tyX7 tyX7_ok nmX7 hown hK hP hD hS 0 rfl rfl 2 (by decide) k1 (fun _ h9 => h9) rfl (by decide +kernel) rfl rfl (Nat.le_of_ble_eq_true rfl) dX7_drawSet_15 rfl (fun H locs hP hD hS => ?_)
  refine lv_aload_n hx hb dX7_drawSet_18 rfl (lv_at hl 0 rfl) ?_
  refine va_get (D := (dC, dI)) (ci := 6) (v := .int f_t_drawn_1) (C := RX7) (T := TX7) (N := 4) hx hb hts uX7 hown hK hP 0 rfl rfl 2 (by decide) k1 (fun _ h9 => h9) rfl dX7_drawSet_19 ?_
  refine lv_ldc (v := 65536) hx hb hown k4 dX7_drawSet_22 ?_
  refine lv_idiv hx hb dX7_drawSet_24 (by decide) ?_
  refine lv_aload_n hx hb dX7_drawSet_25 rfl (lv_at hl 0 rfl) ?_
  refine va_get (D := (dC, dI)) (ci := 6) (v := .int f_t_size) (C := RX7) (T := TX7) (N := 4) hx hb hts uX7 hown hK hP 0 rfl rfl 0 (by decide) k5 (fun _ h9 => h9) rfl dX7_drawSet_26 ?_
  obtain ⟨r_1, hc29, hm⟩ := bd1_go hm
  refine my_cSi (As := [.int f_t_size]) (rest := [.int (f_t_drawn_1 / 65536)]) (WC := []) (WC' := []) (WR := [(h_t, .inr (6, [.int f_t_size, .int f_t_places, .int f_t_drawn_1, .ref h_t_sets]))]) (W' := [(h_t, .inr (6, [.int f_t_size, .int f_t_places, .int f_t_drawn_1, .ref h_t_sets]))]) ⟨hx, hb, hml, hown, hts⟩ hK hP hD hS hA (c_Ring_allTones l dC dI cA f_t_size r_1 hc29) (va_cwS 1 hts gX7_drawSet_X3_allTones rfl rfl rfl (by decide +kernel) ⟨Nat.le_of_ble_eq_true rfl, Nat.le_of_ble_eq_true rfl⟩) [] [0] [0] rfl rfl rfl rfl rfl rfl hl.1 (Nat.le_of_ble_eq_true rfl) dX7_drawSet_29 ⟨Nat.zero_le _, Nat.zero_le _⟩ (fun H locs hP hD hS => ?_)
  refine lv_iand hx hb dX7_drawSet_32 ?_
  cases hm
  exact W_mono hQ (W.iret hx hb hr (fun t ht hW => ⟨⟨_, (), rfl, rfl, by rw [ht]; exact hP, va_K.moved hW.alike hK, hD⟩, hS.F ht⟩) hS.2.2 dX7_drawSet_33)
abbrev rmX7_remove : Room := { frames := 1, cells := 0, slots := 0, locals := 21 }
theorem uX7_X7_remove : ∀ w ∈ wsX70, w ∈ wsX7_remove := fun _ h => List.mem_cons_of_mem _ (List.mem_append_right _ (h))
set_option maxHeartbeats 40000000 in
set_option maxRecDepth 100000 in
theorem c_Shelf_remove (l : Launch) (dC : Nat → ClassId) (dI : Nat → Nat → Nat) (cA : ClassId) (fu : Nat) (h_t h_t_sets : Nat) (f_t_size : Int32) (f_t_places : Int32) (f_t_drawn : Int32) (f_t_sets : Nat → Int32) (a1 : Int32) (f_t_places_z : Int32) (f_t_sets_z : Nat → Int32) (hm : m_Shelf_remove fu f_t_places f_t_sets a1 = some (f_t_places_z, f_t_sets_z)) (sz : Nat) : Met l yX7_remove wsX7_remove rmX7_remove (mPre (dC, dI) cA [.ref h_t, .int a1] sz [(h_t, .inr (6, [.int f_t_size, .int f_t_places, .int f_t_drawn, .ref h_t_sets])), (h_t_sets, .inl (cA, 8, .inl f_t_sets))]) (mPosV (dC, dI) cA (va_A [(h_t, .inr (6, [.int f_t_size, .int f_t_places, .int f_t_drawn, .ref h_t_sets])), (h_t_sets, .inl (cA, 8, .inl f_t_sets))] sz) [(h_t, .inr (6, [.int f_t_size, .int f_t_places_z, .int f_t_drawn, .ref h_t_sets])), (h_t_sets, .inl (cA, 8, .inl f_t_sets_z))]) 0 0 (va_A [(h_t, .inr (6, [.int f_t_size, .int f_t_places, .int f_t_drawn, .ref h_t_sets])), (h_t_sets, .inl (cA, 8, .inl f_t_sets))] sz) := by
  refine Met.ofW (cc := cX7_remove) (maxL := 3) (ret := none) (by decide) rfl ?_
  intro p e s m args below meth c s₁ B hml hv
  obtain ⟨rfl, hsz, hP, hK, hD0⟩ := hv
  refine W_gen (fun Q hQ => ?_)
  have hx := B.exec
  have hb := B.bytes
  have hr := B.returns
  have hts := atoms_spec (ws := wsX7_remove) B.pre
  have hown : s.vm.findClass RX7 = some m.cls := findClass_of_methodNamed B.named
  have hlocks := B.notSynchronized
  subst hsz
  have hD := hD0.self (sz := s.heap.size)
  clear hD0
  generalize hAe : va_A [(h_t, .inr (6, [.int f_t_size, .int f_t_places, .int f_t_drawn, .ref h_t_sets])), (h_t_sets, .inl (cA, 8, .inl f_t_sets))] s.heap.size = A at hD hQ
  have hA : ∀ q : Nat, s.heap.size ≤ q → A q := fun q h => by rw [← hAe]; exact Or.inr h
  clear hAe
  have hS : va_S A s.heap s.heap [] := va_S.rf
  have hl := lv_entry ([.ref h_t, .int a1]) (n := 3) (Nat.le_of_ble_eq_true rfl)
  rw [lg_entry_eq]
  generalize (lg_sl ([.ref h_t, .int a1]) ++ List.replicate (3 - (lg_sl ([.ref h_t, .int a1])).length) Slot.unset).toArray = ls at hl ⊢
  have hl : lv_has ls 3 [(0, .ref h_t), (1, .int a1)] := hl
  have k1 := hts (.fieldLink RX7 15 "ToneSets$Shelf" "places" "I") (List.mem_of_getElem? (i := 1) rfl)
  have k2 := hts (.fieldLink RX7 21 "ToneSets$Shelf" "sets" "[I") (List.mem_of_getElem? (i := 2) rfl)
  have uX7 := uX7_X7_remove
  unfold m_Shelf_remove at hm
  refine lv_aload_n hx hb dX7_remove_0 rfl (lv_at hl 0 rfl) ?_
  refine lv_iload_n hx hb dX7_remove_1 rfl (lv_at hl 1 rfl) ?_
  obtain ⟨r_1, hc2, hm⟩ := bd1_go hm
  refine my_cVi (As := [.int a1]) (rest := []) (WC := [(h_t, .inr (6, [.int f_t_size, .int f_t_places, .int f_t_drawn, .ref h_t_sets]))]) (WC' := [(h_t, .inr (6, [.int f_t_size, .int f_t_places, .int f_t_drawn, .ref h_t_sets]))]) (WR := [(h_t_sets, .inl (cA, 8, .inl f_t_sets))]) (W' := [(h_t, .inr (6, [.int f_t_size, .int f_t_places, .int f_t_drawn, .ref h_t_sets])), (h_t_sets, .inl (cA, 8, .inl f_t_sets))]) ⟨hx, hb, hml, hown, hts⟩ hK hP hD hS hA (c_Shelf_has l dC dI cA h_t h_t_sets f_t_size f_t_places f_t_drawn a1 r_1 hc2) (cwV 1 hts gX7_remove_X7_has rfl rfl rfl (by decide +kernel) ⟨Nat.le_of_ble_eq_true rfl, Nat.le_of_ble_eq_true rfl⟩) [0] [1] [1, 0] rfl rfl rfl rfl (ci := 6) (q0 := 0) rfl rfl rfl rfl hl.1 (Nat.le_of_ble_eq_true rfl) dX7_remove_2 ⟨Nat.zero_le _, Nat.zero_le _⟩ (fun H locs hP hD hS => ?_)
  refine lv_if_eq (tgt := 50) hx hb dX7_remove_5 (by decide) (fun c5 => ?_) (fun c5 => ?_)
  · replace hm := if_t c5 hm
    cases hm
    exact W_mono hQ (W.vret hx hb hr (fun t ht hW => ⟨⟨(), rfl, trivial, by rw [ht]; exact hP, va_K.moved hW.alike hK, hD⟩, hS.F ht⟩) hS.2.2 dX7_remove_50)
  · replace hm := if_f c5 hm
    refine lv_iload_n hx hb dX7_remove_8 rfl (lv_at hl 1 rfl) ?_
    refine lv_iconst (v := 1) hx hb dX7_remove_9 (by decide) ?_
    refine lv_iadd hx hb dX7_remove_10 ?_
    refine lv_topi (fun v2_1 ev2_1 => ?_)
    replace hm := lt_go ev2_1 hm
    refine lv_istore_n (lv' := [(2, .int v2_1), (0, .ref h_t), (1, .int a1)]) hx hb dX7_remove_11 rfl hl (by decide) rfl (fun ls hl => ?_)
    have L12 : ∀ (n : Nat) (v2_2 : Int32) (f_t_sets_1 : Nat → Int32) (f_t_sets_2 : Nat → Int32), m_Shelf_remove_L12 f_t_places n v2_2 f_t_sets_1 = some f_t_sets_2 → ∀ (H : Heap) (locs : List Loc), va_P (dC, dI) vwCl [(h_t, .inr (6, [.int f_t_size, .int f_t_places, .int f_t_drawn, .ref h_t_sets])), (h_t_sets, .inl (cA, 8, .inl f_t_sets_1))] H → va_D A [(h_t, .inr (6, [.int f_t_size, .int f_t_places, .int f_t_drawn, .ref h_t_sets])), (h_t_sets, .inl (cA, 8, .inl f_t_sets_1))] → va_S A s.heap H locs → ∀ ls : Array Slot, lv_has ls 3 [(0, .ref h_t), (2, .int v2_2)] → (∀ (H : Heap) (locs : List Loc), va_P (dC, dI) vwCl [(h_t, .inr (6, [.int f_t_size, .int f_t_places, .int f_t_drawn, .ref h_t_sets])), (h_t_sets, .inl (cA, 8, .inl f_t_sets_2))] H → va_D A [(h_t, .inr (6, [.int f_t_size, .int f_t_places, .int f_t_drawn, .ref h_t_sets])), (h_t_sets, .inl (cA, 8, .inl f_t_sets_2))] → va_S A s.heap H locs → ∀ ls : Array Slot, lv_has ls 3 [(0, .ref h_t)] → W p l e (headSpec wsX7_remove rmX7_remove).room s m (([.ref h_t, .int a1] : List Value).toArray) below meth c H locs 0 0 Q (F0 m 40 ls [])) → W p l e (headSpec wsX7_remove rmX7_remove).room s m (([.ref h_t, .int a1] : List Value).toArray) below meth c H locs 0 0 Q (F0 m 12 ls []) := by
      clear hm hP hD hS hl
      intro n
      induction n with
      | zero => intro _ _ _ hm; exact nomatch (show none = some _ from hm)
      | succ n ih =>
        intro v2_2 f_t_sets_1 f_t_sets_2 hm H locs hP hD hS ls hl KK
        unfold m_Shelf_remove_L12 at hm
        refine lv_iload_n hx hb dX7_remove_12 rfl (lv_at hl 1 rfl) ?_
        refine lv_aload_n hx hb dX7_remove_13 rfl (lv_at hl 0 rfl) ?_
        refine va_get (D := (dC, dI)) (ci := 6) (v := .int f_t_places) (C := RX7) (T := TX7) (N := 4) hx hb hts uX7 hown hK hP 0 rfl rfl 1 (by decide) k1 (fun _ h9 => h9) rfl dX7_remove_14 ?_
        refine lv_icmp_ge (tgt := 40) hx hb dX7_remove_17 (by decide) (fun c17 => ?_) (fun c17 => ?_)
        · replace hm := if_t c17 hm
          cases hm
          exact KK _ _ hP hD hS _ (lv_sub hl [0] rfl)
        · replace hm := if_f c17 hm
          refine lv_aload_n hx hb dX7_remove_20 rfl (lv_at hl 0 rfl) ?_
          refine va_get (D := (dC, dI)) (ci := 6) (v := .ref h_t_sets) (C := RX7) (T := TX7) (N := 4) hx hb hts uX7 hown hK hP 0 rfl rfl 3 (by decide) k2 (fun _ h9 => h9) rfl dX7_remove_21 ?_
          refine lv_iload_n hx hb dX7_remove_24 rfl (lv_at hl 1 rfl) ?_
          refine lv_iconst (v := 1) hx hb dX7_remove_25 (by decide) ?_
          refine lv_isub hx hb dX7_remove_26 ?_
          refine lv_aload_n hx hb dX7_remove_27 rfl (lv_at hl 0 rfl) ?_
          refine va_get (D := (dC, dI)) (ci := 6) (v := .ref h_t_sets) (C := RX7) (T := TX7) (N := 4) hx hb hts uX7 hown hK hP 0 rfl rfl 3 (by decide) k2 (fun _ h9 => h9) rfl dX7_remove_28 ?_
          refine lv_iload_n hx hb dX7_remove_31 rfl (lv_at hl 1 rfl) ?_
          obtain ⟨b32, hm⟩ := ck_go hm
          refine va_iald hx hb hK hP 1 0 rfl rfl b32 dX7_remove_32 ?_
          obtain ⟨b33, hm⟩ := ck_go hm
          refine my_iast (W' := fun z' => [(h_t, .inr (6, [.int f_t_size, .int f_t_places, .int f_t_drawn, .ref h_t_sets])), (h_t_sets, .inl (cA, 8, .inl z'))]) hx hb hK hP hD hS 1 0 rfl rfl b33 dX7_remove_33 (fun _ => rfl) (fun f_t_sets_3 ef_t_sets_3 H locs hP hD hS => ?_)
          replace hm := lt_go ef_t_sets_3 hm
          obtain ⟨v2_3, ev2_3⟩ : ∃ z : Int32, z = v2_2 + 1 := ⟨_, rfl⟩
          replace hm := lt_go ev2_3 hm
          refine lv_iinc (v := v2_3) (lv' := [(2, .int v2_3), (0, .ref h_t)]) hx hb dX7_remove_34 hl (k := 1) rfl (by rw [ev2_3]; rfl) (by decide) rfl (fun ls hl => ?_)
          refine lv_goto (tgt := 12) hx hb dX7_remove_37 (by decide) ?_
          exact ih _ _ _ hm _ _ hP hD hS _ (lv_sub hl [1, 0] rfl) KK
    obtain ⟨f_t_sets_4, hl12, hm⟩ := bd1_go hm
    refine L12 _ _ _ _ hl12 _ _ hP hD hS _ (lv_sub hl [1, 0] rfl) (fun H locs hP hD hS ls hl => ?_)
    refine lv_aload_n hx hb dX7_remove_40 rfl (lv_at hl 0 rfl) ?_
    refine lv_dup hx hb dX7_remove_41 rfl ?_
    refine va_get (D := (dC, dI)) (ci := 6) (v := .int f_t_places) (C := RX7) (T := TX7) (N := 4) hx hb hts uX7 hown hK hP 0 rfl rfl 1 (by decide) k1 (fun _ h9 => h9) rfl dX7_remove_42 ?_
    refine lv_iconst (v := 1) hx hb dX7_remove_45 (by decide) ?_
    refine lv_isub hx hb dX7_remove_46 ?_
    refine lv_topi (fun f_t_places_1 ef_t_places_1 => ?_)
    replace hm := lt_go ef_t_places_1 hm
    refine my_put (W' := [(h_t, .inr (6, [.int f_t_size, .int f_t_places_1, .int f_t_drawn, .ref h_t_sets])), (h_t_sets, .inl (cA, 8, .inl f_t_sets_4))]) (ci := 6) (v := .int f_t_places_1) (ty := .int) (C := RX7) (T := TX7) (N := 4) hx hb hts uX7 tyX7 tyX7_ok nmX7 hown hK hP hD hS 0 rfl rfl 1 (by decide) k1 (fun _ h9 => h9) rfl (by decide +kernel) rfl rfl (Nat.le_of_ble_eq_true rfl) dX7_remove_47 rfl (fun H locs hP hD hS => ?_)
    cases hm
    exact W_mono hQ (W.vret hx hb hr (fun t ht hW => ⟨⟨(), rfl, trivial, by rw [ht]; exact hP, va_K.moved hW.alike hK, hD⟩, hS.F ht⟩) hS.2.2 dX7_remove_50)
abbrev rmX7_replace : Room := { frames := 1, cells := 0, slots := 0, locals := 21 }
theorem uX7_X7_replace : ∀ w ∈ wsX70, w ∈ wsX7_replace := fun _ h => List.mem_cons_of_mem _ (List.mem_append_right _ (h))
set_option maxHeartbeats 40000000 in
set_option maxRecDepth 100000 in
theorem c_Shelf_replace (l : Launch) (dC : Nat → ClassId) (dI : Nat → Nat → Nat) (cA : ClassId) (h_t h_t_sets : Nat) (f_t_size : Int32) (f_t_places : Int32) (f_t_drawn : Int32) (f_t_sets : Nat → Int32) (a1 : Int32) (a2 : Int32) (f_t_sets_z : Nat → Int32) (hm : m_Shelf_replace f_t_places f_t_sets a1 a2 = some f_t_sets_z) (sz : Nat) : Met l yX7_replace wsX7_replace rmX7_replace (mPre (dC, dI) cA [.ref h_t, .int a1, .int a2] sz [(h_t, .inr (6, [.int f_t_size, .int f_t_places, .int f_t_drawn, .ref h_t_sets])), (h_t_sets, .inl (cA, 8, .inl f_t_sets))]) (mPosV (dC, dI) cA (va_A [(h_t, .inr (6, [.int f_t_size, .int f_t_places, .int f_t_drawn, .ref h_t_sets])), (h_t_sets, .inl (cA, 8, .inl f_t_sets))] sz) [(h_t, .inr (6, [.int f_t_size, .int f_t_places, .int f_t_drawn, .ref h_t_sets])), (h_t_sets, .inl (cA, 8, .inl f_t_sets_z))]) 0 0 (va_A [(h_t, .inr (6, [.int f_t_size, .int f_t_places, .int f_t_drawn, .ref h_t_sets])), (h_t_sets, .inl (cA, 8, .inl f_t_sets))] sz) := by
  refine Met.ofW (cc := cX7_replace) (maxL := 3) (ret := none) (by decide) rfl ?_
  intro p e s m args below meth c s₁ B hml hv
  obtain ⟨rfl, hsz, hP, hK, hD0⟩ := hv
  refine W_gen (fun Q hQ => ?_)
  have hx := B.exec
  have hb := B.bytes
  have hr := B.returns
  have hts := atoms_spec (ws := wsX7_replace) B.pre
  have hown : s.vm.findClass RX7 = some m.cls := findClass_of_methodNamed B.named
  have hlocks := B.notSynchronized
  subst hsz
  have hD := hD0.self (sz := s.heap.size)
  clear hD0
  generalize hAe : va_A [(h_t, .inr (6, [.int f_t_size, .int f_t_places, .int f_t_drawn, .ref h_t_sets])), (h_t_sets, .inl (cA, 8, .inl f_t_sets))] s.heap.size = A at hD hQ
  have hA : ∀ q : Nat, s.heap.size ≤ q → A q := fun q h => by rw [← hAe]; exact Or.inr h
  clear hAe
  have hS : va_S A s.heap s.heap [] := va_S.rf
  have hl := lv_entry ([.ref h_t, .int a1, .int a2]) (n := 3) (Nat.le_of_ble_eq_true rfl)
  rw [lg_entry_eq]
  generalize (lg_sl ([.ref h_t, .int a1, .int a2]) ++ List.replicate (3 - (lg_sl ([.ref h_t, .int a1, .int a2])).length) Slot.unset).toArray = ls at hl ⊢
  have hl : lv_has ls 3 [(0, .ref h_t), (1, .int a1), (2, .int a2)] := hl
  have k1 := hts (.fieldLink RX7 21 "ToneSets$Shelf" "sets" "[I") (List.mem_of_getElem? (i := 1) rfl)
  have uX7 := uX7_X7_replace
  unfold m_Shelf_replace at hm
  refine lv_aload_n hx hb dX7_replace_0 rfl (lv_at hl 0 rfl) ?_
  refine lv_iload_n hx hb dX7_replace_1 rfl (lv_at hl 1 rfl) ?_
  obtain ⟨r_1, hc2, hm⟩ := bd1_go hm
  refine my_cVi (As := [.int a1]) (rest := []) (WC := [(h_t, .inr (6, [.int f_t_size, .int f_t_places, .int f_t_drawn, .ref h_t_sets]))]) (WC' := [(h_t, .inr (6, [.int f_t_size, .int f_t_places, .int f_t_drawn, .ref h_t_sets]))]) (WR := [(h_t_sets, .inl (cA, 8, .inl f_t_sets))]) (W' := [(h_t, .inr (6, [.int f_t_size, .int f_t_places, .int f_t_drawn, .ref h_t_sets])), (h_t_sets, .inl (cA, 8, .inl f_t_sets))]) ⟨hx, hb, hml, hown, hts⟩ hK hP hD hS hA (c_Shelf_has l dC dI cA h_t h_t_sets f_t_size f_t_places f_t_drawn a1 r_1 hc2) (cwV 1 hts gX7_replace_X7_has rfl rfl rfl (by decide +kernel) ⟨Nat.le_of_ble_eq_true rfl, Nat.le_of_ble_eq_true rfl⟩) [0] [1] [1, 0] rfl rfl rfl rfl (ci := 6) (q0 := 0) rfl rfl rfl rfl hl.1 (Nat.le_of_ble_eq_true rfl) dX7_replace_2 ⟨Nat.zero_le _, Nat.zero_le _⟩ (fun H locs hP hD hS => ?_)
  refine lv_if_eq (tgt := 15) hx hb dX7_replace_5 (by decide) (fun c5 => ?_) (fun c5 => ?_)
  · replace hm := if_t c5 hm
    cases hm
    exact W_mono hQ (W.vret hx hb hr (fun t ht hW => ⟨⟨(), rfl, trivial, by rw [ht]; exact hP, va_K.moved hW.alike hK, hD⟩, hS.F ht⟩) hS.2.2 dX7_replace_15)
  · replace hm := if_f c5 hm
    refine lv_aload_n hx hb dX7_replace_8 rfl (lv_at hl 0 rfl) ?_
    refine va_get (D := (dC, dI)) (ci := 6) (v := .ref h_t_sets) (C := RX7) (T := TX7) (N := 4) hx hb hts uX7 hown hK hP 0 rfl rfl 3 (by decide) k1 (fun _ h9 => h9) rfl dX7_replace_9 ?_
    refine lv_iload_n hx hb dX7_replace_12 rfl (lv_at hl 1 rfl) ?_
    refine lv_iload_n hx hb dX7_replace_13 rfl (lv_at hl 2 rfl) ?_
    obtain ⟨b14, hm⟩ := ck_go hm
    refine my_iast (W' := fun z' => [(h_t, .inr (6, [.int f_t_size, .int f_t_places, .int f_t_drawn, .ref h_t_sets])), (h_t_sets, .inl (cA, 8, .inl z'))]) hx hb hK hP hD hS 1 0 rfl rfl b14 dX7_replace_14 (fun _ => rfl) (fun f_t_sets_1 ef_t_sets_1 H locs hP hD hS => ?_)
    replace hm := lt_go ef_t_sets_1 hm
    cases hm
    exact W_mono hQ (W.vret hx hb hr (fun t ht hW => ⟨⟨(), rfl, trivial, by rw [ht]; exact hP, va_K.moved hW.alike hK, hD⟩, hS.F ht⟩) hS.2.2 dX7_replace_15)
abbrev rmX8_meet : Room := { frames := 3, cells := 0, slots := 0, locals := 65 }
theorem uX8_X8_meet : ∀ w ∈ wsX80, w ∈ wsX8_meet := fun _ h => List.mem_cons_of_mem _ (List.mem_append_left _ (List.mem_append_right _ (h)))
set_option maxHeartbeats 40000000 in
set_option maxRecDepth 100000 in
theorem c_Smooth_meet (l : Launch) (dC : Nat → ClassId) (dI : Nat → Nat → Nat) (cA : ClassId) (h_t h_t_seen h_t_sets h_t_links h_t_heads h_t_seen_bits : Nat) (f_t_cost : Int32) (f_t_next : Int32) (f_t_met : Int32) (f_t_heads : Nat → Int32) (f_t_links : Nat → Int32) (f_t_seen_bits : Nat → Int32) (f_t_sets : Nat → Int32) (a1 : Int32) (a2 : Int32) (a3 : Int32) (f_t_heads_z : Nat → Int32) (f_t_links_z : Nat → Int32) (f_t_met_z : Int32) (f_t_seen_bits_z : Nat → Int32) (f_t_sets_z : Nat → Int32) (hm : m_Smooth_meet f_t_heads f_t_links f_t_met f_t_seen_bits f_t_sets a1 a2 a3 = some (f_t_heads_z, f_t_links_z, f_t_met_z, f_t_seen_bits_z, f_t_sets_z)) (sz : Nat) : Met l yX8_meet wsX8_meet rmX8_meet (mPre (dC, dI) cA [.ref h_t, .int a1, .int a2, .int a3] sz [(h_t, .inr (7, [.int f_t_cost, .int f_t_next, .int f_t_met, .ref h_t_sets, .ref h_t_links, .ref h_t_heads, .ref h_t_seen])), (h_t_seen, .inr (5, [.ref h_t_seen_bits])), (h_t_heads, .inl (cA, 16, .inl f_t_heads)), (h_t_links, .inl (cA, 924, .inl f_t_links)), (h_t_seen_bits, .inl (cA, 128, .inl f_t_seen_bits)), (h_t_sets, .inl (cA, 924, .inl f_t_sets))]) (mPosV (dC, dI) cA (va_A [(h_t, .inr (7, [.int f_t_cost, .int f_t_next, .int f_t_met, .ref h_t_sets, .ref h_t_links, .ref h_t_heads, .ref h_t_seen])), (h_t_seen, .inr (5, [.ref h_t_seen_bits])), (h_t_heads, .inl (cA, 16, .inl f_t_heads)), (h_t_links, .inl (cA, 924, .inl f_t_links)), (h_t_seen_bits, .inl (cA, 128, .inl f_t_seen_bits)), (h_t_sets, .inl (cA, 924, .inl f_t_sets))] sz) [(h_t, .inr (7, [.int f_t_cost, .int f_t_next, .int f_t_met_z, .ref h_t_sets, .ref h_t_links, .ref h_t_heads, .ref h_t_seen])), (h_t_seen, .inr (5, [.ref h_t_seen_bits])), (h_t_heads, .inl (cA, 16, .inl f_t_heads_z)), (h_t_links, .inl (cA, 924, .inl f_t_links_z)), (h_t_seen_bits, .inl (cA, 128, .inl f_t_seen_bits_z)), (h_t_sets, .inl (cA, 924, .inl f_t_sets_z))]) 0 0 (va_A [(h_t, .inr (7, [.int f_t_cost, .int f_t_next, .int f_t_met, .ref h_t_sets, .ref h_t_links, .ref h_t_heads, .ref h_t_seen])), (h_t_seen, .inr (5, [.ref h_t_seen_bits])), (h_t_heads, .inl (cA, 16, .inl f_t_heads)), (h_t_links, .inl (cA, 924, .inl f_t_links)), (h_t_seen_bits, .inl (cA, 128, .inl f_t_seen_bits)), (h_t_sets, .inl (cA, 924, .inl f_t_sets))] sz) := by
  refine Met.ofW (cc := cX8_meet) (maxL := 5) (ret := none) (by decide) rfl ?_
  intro p e s m args below meth c s₁ B hml hv
  obtain ⟨rfl, hsz, hP, hK, hD0⟩ := hv
  refine W_gen (fun Q hQ => ?_)
  have hx := B.exec
  have hb := B.bytes
  have hr := B.returns
  have hts := atoms_spec (ws := wsX8_meet) B.pre
  have hown : s.vm.findClass RX8 = some m.cls := findClass_of_methodNamed B.named
  have hlocks := B.notSynchronized
  subst hsz
  have hD := hD0.self (sz := s.heap.size)
  clear hD0
  generalize hAe : va_A [(h_t, .inr (7, [.int f_t_cost, .int f_t_next, .int f_t_met, .ref h_t_sets, .ref h_t_links, .ref h_t_heads, .ref h_t_seen])), (h_t_seen, .inr (5, [.ref h_t_seen_bits])), (h_t_heads, .inl (cA, 16, .inl f_t_heads)), (h_t_links, .inl (cA, 924, .inl f_t_links)), (h_t_seen_bits, .inl (cA, 128, .inl f_t_seen_bits)), (h_t_sets, .inl (cA, 924, .inl f_t_sets))] s.heap.size = A at hD hQ
  have hA : ∀ q : Nat, s.heap.size ≤ q → A q := fun q h => by rw [← hAe]; exact Or.inr h
  clear hAe
  have hS : va_S A s.heap s.heap [] := va_S.rf
  have hl := lv_entry ([.ref h_t, .int a1, .int a2, .int a3]) (n := 5) (Nat.le_of_ble_eq_true rfl)
  rw [lg_entry_eq]
  generalize (lg_sl ([.ref h_t, .int a1, .int a2, .int a3]) ++ List.replicate (5 - (lg_sl ([.ref h_t, .int a1, .int a2, .int a3])).length) Slot.unset).toArray = ls at hl ⊢
  have hl : lv_has ls 5 [(0, .ref h_t), (1, .int a1), (2, .int a2), (3, .int a3)] := hl
  have k1 := hts (.fieldLink RX8 18 "ToneSets$Smooth" "met" "I") (List.mem_of_getElem? (i := 1) rfl)
  have k2 := hts (.fieldLink RX8 34 "ToneSets$Smooth" "seen" "LToneSets$Seen;") (List.mem_of_getElem? (i := 2) rfl)
  have k3 := hts (.fieldLink RX8 21 "ToneSets$Smooth" "sets" "[I") (List.mem_of_getElem? (i := 3) rfl)
  have k4 := hts (.fieldLink RX8 25 "ToneSets$Smooth" "links" "[I") (List.mem_of_getElem? (i := 4) rfl)
  have k5 := hts (.fieldLink RX8 28 "ToneSets$Smooth" "heads" "[I") (List.mem_of_getElem? (i := 5) rfl)
  have uX8 := uX8_X8_meet
  unfold m_Smooth_meet at hm
  refine lv_aload_n hx hb dX8_meet_0 rfl (lv_at hl 0 rfl) ?_
  refine va_get (D := (dC, dI)) (ci := 7) (v := .int f_t_met) (C := RX8) (T := TX8) (N := 7) hx hb hts uX8 hown hK hP 0 rfl rfl 2 (by decide) k1 (fun _ h9 => h9) rfl dX8_meet_1 ?_
  refine lv_sipush (v := 924) hx hb dX8_meet_4 (by decide) ?_
  refine lv_icmp_lt (tgt := 11) hx hb dX8_meet_7 (by decide) (fun c7 => ?_) (fun c7 => ?_)
  · replace hm := if_t c7 hm
    refine lv_iload_n hx hb dX8_meet_11 rfl (lv_at hl 2 rfl) ?_
    refine lv_iconst (v := 1) hx hb dX8_meet_12 (by decide) ?_
    refine lv_iadd hx hb dX8_meet_13 ?_
    refine lv_iload_n hx hb dX8_meet_14 rfl (lv_at hl 1 rfl) ?_
    refine lv_iconst (v := 1) hx hb dX8_meet_15 (by decide) ?_
    refine lv_iload_n hx hb dX8_meet_16 rfl (lv_at hl 3 rfl) ?_
    obtain ⟨r_1, hc17, hm⟩ := bd1_go hm
    refine my_cSi (As := [.int a1, .int 1, .int a3]) (rest := [.int (a2 + 1)]) (WC := []) (WC' := []) (WR := [(h_t, .inr (7, [.int f_t_cost, .int f_t_next, .int f_t_met, .ref h_t_sets, .ref h_t_links, .ref h_t_heads, .ref h_t_seen])), (h_t_seen, .inr (5, [.ref h_t_seen_bits])), (h_t_heads, .inl (cA, 16, .inl f_t_heads)), (h_t_links, .inl (cA, 924, .inl f_t_links)), (h_t_seen_bits, .inl (cA, 128, .inl f_t_seen_bits)), (h_t_sets, .inl (cA, 924, .inl f_t_sets))]) (W' := [(h_t, .inr (7, [.int f_t_cost, .int f_t_next, .int f_t_met, .ref h_t_sets, .ref h_t_links, .ref h_t_heads, .ref h_t_seen])), (h_t_seen, .inr (5, [.ref h_t_seen_bits])), (h_t_heads, .inl (cA, 16, .inl f_t_heads)), (h_t_links, .inl (cA, 924, .inl f_t_links)), (h_t_seen_bits, .inl (cA, 128, .inl f_t_seen_bits)), (h_t_sets, .inl (cA, 924, .inl f_t_sets))]) ⟨hx, hb, hml, hown, hts⟩ hK hP hD hS hA (c_Ring_pairsApart l dC dI cA a1 1 a3 r_1 hc17) (va_cwS 3 hts gX8_meet_X3_pairsApart rfl rfl rfl (by decide +kernel) ⟨Nat.le_of_ble_eq_true rfl, Nat.le_of_ble_eq_true rfl⟩) [] [0, 1, 2, 3, 4, 5] [0, 1, 2, 3, 4, 5] rfl rfl rfl rfl rfl rfl hl.1 (Nat.le_of_ble_eq_true rfl) dX8_meet_17 ⟨Nat.zero_le _, Nat.zero_le _⟩ (fun H locs hP hD hS => ?_)
    refine lv_iadd hx hb dX8_meet_20 ?_
    refine lv_bipush (v := 15) hx hb dX8_meet_21 (by decide) ?_
    refine lv_iand hx hb dX8_meet_23 ?_
    refine lv_topi (fun v4_1 ev4_1 => ?_)
    replace hm := lt_go ev4_1 hm
    refine lv_istore (lv' := [(4, .int v4_1), (0, .ref h_t), (1, .int a1), (2, .int a2), (3, .int a3)]) hx hb dX8_meet_24 hl (by decide) rfl (fun ls hl => ?_)
    refine lv_aload_n hx hb dX8_meet_26 rfl (lv_at hl 1 rfl) ?_
    refine va_get (D := (dC, dI)) (ci := 7) (v := .ref h_t_seen) (C := RX8) (T := TX8) (N := 7) hx hb hts uX8 hown hK hP 0 rfl rfl 6 (by decide) k2 (fun _ h9 => h9) rfl dX8_meet_27 ?_
    refine lv_iload_n hx hb dX8_meet_30 rfl (lv_at hl 2 rfl) ?_
    obtain ⟨f_t_seen_bits_1, hc31, hm⟩ := bd1_go hm
    refine my_cVv (As := [.int a1]) (rest := []) (WC := [(h_t_seen, .inr (5, [.ref h_t_seen_bits])), (h_t_seen_bits, .inl (cA, 128, .inl f_t_seen_bits))]) (WC' := [(h_t_seen, .inr (5, [.ref h_t_seen_bits])), (h_t_seen_bits, .inl (cA, 128, .inl f_t_seen_bits_1))]) (WR := [(h_t, .inr (7, [.int f_t_cost, .int f_t_next, .int f_t_met, .ref h_t_sets, .ref h_t_links, .ref h_t_heads, .ref h_t_seen])), (h_t_heads, .inl (cA, 16, .inl f_t_heads)), (h_t_links, .inl (cA, 924, .inl f_t_links)), (h_t_sets, .inl (cA, 924, .inl f_t_sets))]) (W' := [(h_t, .inr (7, [.int f_t_cost, .int f_t_next, .int f_t_met, .ref h_t_sets, .ref h_t_links, .ref h_t_heads, .ref h_t_seen])), (h_t_seen, .inr (5, [.ref h_t_seen_bits])), (h_t_heads, .inl (cA, 16, .inl f_t_heads)), (h_t_links, .inl (cA, 924, .inl f_t_links)), (h_t_seen_bits, .inl (cA, 128, .inl f_t_seen_bits_1)), (h_t_sets, .inl (cA, 924, .inl f_t_sets))]) ⟨hx, hb, hml, hown, hts⟩ hK hP hD hS hA (c_Seen_add l dC dI cA h_t_seen h_t_seen_bits f_t_seen_bits a1 f_t_seen_bits_1 hc31) (cwV 1 hts gX8_meet_X6_add rfl rfl rfl (by decide +kernel) ⟨Nat.le_of_ble_eq_true rfl, Nat.le_of_ble_eq_true rfl⟩) [1, 4] [0, 2, 3, 5] [0, 4, 1, 2, 5, 3] rfl rfl rfl rfl (ci := 5) (q0 := 0) rfl rfl rfl rfl hl.1 (Nat.le_of_ble_eq_true rfl) dX8_meet_31 ⟨Nat.zero_le _, Nat.zero_le _⟩ (fun H locs hP hD hS => ?_)
    refine lv_aload_n hx hb dX8_meet_34 rfl (lv_at hl 1 rfl) ?_
    refine va_get (D := (dC, dI)) (ci := 7) (v := .ref h_t_sets) (C := RX8) (T := TX8) (N := 7) hx hb hts uX8 hown hK hP 0 rfl rfl 3 (by decide) k3 (fun _ h9 => h9) rfl dX8_meet_35 ?_
    refine lv_aload_n hx hb dX8_meet_38 rfl (lv_at hl 1 rfl) ?_
    refine va_get (D := (dC, dI)) (ci := 7) (v := .int f_t_met) (C := RX8) (T := TX8) (N := 7) hx hb hts uX8 hown hK hP 0 rfl rfl 2 (by decide) k1 (fun _ h9 => h9) rfl dX8_meet_39 ?_
    refine lv_iload_n hx hb dX8_meet_42 rfl (lv_at hl 2 rfl) ?_
    obtain ⟨b43, hm⟩ := ck_go hm
    refine my_iast (W' := fun z' => [(h_t, .inr (7, [.int f_t_cost, .int f_t_next, .int f_t_met, .ref h_t_sets, .ref h_t_links, .ref h_t_heads, .ref h_t_seen])), (h_t_seen, .inr (5, [.ref h_t_seen_bits])), (h_t_heads, .inl (cA, 16, .inl f_t_heads)), (h_t_links, .inl (cA, 924, .inl f_t_links)), (h_t_seen_bits, .inl (cA, 128, .inl f_t_seen_bits_1)), (h_t_sets, .inl (cA, 924, .inl z'))]) hx hb hK hP hD hS 5 0 rfl rfl b43 dX8_meet_43 (fun _ => rfl) (fun f_t_sets_1 ef_t_sets_1 H locs hP hD hS => ?_)
    replace hm := lt_go ef_t_sets_1 hm
    refine lv_aload_n hx hb dX8_meet_44 rfl (lv_at hl 1 rfl) ?_
    refine va_get (D := (dC, dI)) (ci := 7) (v := .ref h_t_links) (C := RX8) (T := TX8) (N := 7) hx hb hts uX8 hown hK hP 0 rfl rfl 4 (by decide) k4 (fun _ h9 => h9) rfl dX8_meet_45 ?_
    refine lv_aload_n hx hb dX8_meet_48 rfl (lv_at hl 1 rfl) ?_
    refine va_get (D := (dC, dI)) (ci := 7) (v := .int f_t_met) (C := RX8) (T := TX8) (N := 7) hx hb hts uX8 hown hK hP 0 rfl rfl 2 (by decide) k1 (fun _ h9 => h9) rfl dX8_meet_49 ?_
    refine lv_aload_n hx hb dX8_meet_52 rfl (lv_at hl 1 rfl) ?_
    refine va_get (D := (dC, dI)) (ci := 7) (v := .ref h_t_heads) (C := RX8) (T := TX8) (N := 7) hx hb hts uX8 hown hK hP 0 rfl rfl 5 (by decide) k5 (fun _ h9 => h9) rfl dX8_meet_53 ?_
    refine lv_iload hx hb dX8_meet_56 (lv_at hl 0 rfl) ?_
    obtain ⟨b58, hm⟩ := ck_go hm
    refine va_iald hx hb hK hP 2 0 rfl rfl b58 dX8_meet_58 ?_
    obtain ⟨b59, hm⟩ := ck_go hm
    refine my_iast (W' := fun z' => [(h_t, .inr (7, [.int f_t_cost, .int f_t_next, .int f_t_met, .ref h_t_sets, .ref h_t_links, .ref h_t_heads, .ref h_t_seen])), (h_t_seen, .inr (5, [.ref h_t_seen_bits])), (h_t_heads, .inl (cA, 16, .inl f_t_heads)), (h_t_links, .inl (cA, 924, .inl z')), (h_t_seen_bits, .inl (cA, 128, .inl f_t_seen_bits_1)), (h_t_sets, .inl (cA, 924, .inl f_t_sets_1))]) hx hb hK hP hD hS 3 0 rfl rfl b59 dX8_meet_59 (fun _ => rfl) (fun f_t_links_1 ef_t_links_1 H locs hP hD hS => ?_)
    replace hm := lt_go ef_t_links_1 hm
    refine lv_aload_n hx hb dX8_meet_60 rfl (lv_at hl 1 rfl) ?_
    refine va_get (D := (dC, dI)) (ci := 7) (v := .ref h_t_heads) (C := RX8) (T := TX8) (N := 7) hx hb hts uX8 hown hK hP 0 rfl rfl 5 (by decide) k5 (fun _ h9 => h9) rfl dX8_meet_61 ?_
    refine lv_iload hx hb dX8_meet_64 (lv_at hl 0 rfl) ?_
    refine lv_aload_n hx hb dX8_meet_66 rfl (lv_at hl 1 rfl) ?_
    refine va_get (D := (dC, dI)) (ci := 7) (v := .int f_t_met) (C := RX8) (T := TX8) (N := 7) hx hb hts uX8 hown hK hP 0 rfl rfl 2 (by decide) k1 (fun _ h9 => h9) rfl dX8_meet_67 ?_
    obtain ⟨b70, hm⟩ := ck_go hm
    refine my_iast (W' := fun z' => [(h_t, .inr (7, [.int f_t_cost, .int f_t_next, .int f_t_met, .ref h_t_sets, .ref h_t_links, .ref h_t_heads, .ref h_t_seen])), (h_t_seen, .inr (5, [.ref h_t_seen_bits])), (h_t_heads, .inl (cA, 16, .inl z')), (h_t_links, .inl (cA, 924, .inl f_t_links_1)), (h_t_seen_bits, .inl (cA, 128, .inl f_t_seen_bits_1)), (h_t_sets, .inl (cA, 924, .inl f_t_sets_1))]) hx hb hK hP hD hS 2 0 rfl rfl b70 dX8_meet_70 (fun _ => rfl) (fun f_t_heads_1 ef_t_heads_1 H locs hP hD hS => ?_)
    replace hm := lt_go ef_t_heads_1 hm
    refine lv_aload_n hx hb dX8_meet_71 rfl (lv_at hl 1 rfl) ?_
    refine lv_dup hx hb dX8_meet_72 rfl ?_
    refine va_get (D := (dC, dI)) (ci := 7) (v := .int f_t_met) (C := RX8) (T := TX8) (N := 7) hx hb hts uX8 hown hK hP 0 rfl rfl 2 (by decide) k1 (fun _ h9 => h9) rfl dX8_meet_73 ?_
    refine lv_iconst (v := 1) hx hb dX8_meet_76 (by decide) ?_
    refine lv_iadd hx hb dX8_meet_77 ?_
    refine lv_topi (fun f_t_met_1 ef_t_met_1 => ?_)
    replace hm := lt_go ef_t_met_1 hm
    refine my_put (W' := [(h_t, .inr (7, [.int f_t_cost, .int f_t_next, .int f_t_met_1, .ref h_t_sets, .ref h_t_links, .ref h_t_heads, .ref h_t_seen])), (h_t_seen, .inr (5, [.ref h_t_seen_bits])), (h_t_heads, .inl (cA, 16, .inl f_t_heads_1)), (h_t_links, .inl (cA, 924, .inl f_t_links_1)), (h_t_seen_bits, .inl (cA, 128, .inl f_t_seen_bits_1)), (h_t_sets, .inl (cA, 924, .inl f_t_sets_1))]) (ci := 7) (v := .int f_t_met_1) (ty := .int) (C := RX8) (T := TX8) (N := 7) hx hb hts uX8 tyX8 tyX8_ok nmX8 hown hK hP hD hS 0 rfl rfl 2 (by decide) k1 (fun _ h9 => h9) rfl (by decide +kernel) rfl rfl (Nat.le_of_ble_eq_true rfl) dX8_meet_78 rfl (fun H locs hP hD hS => ?_)
    cases hm
    exact W_mono hQ (W.vret hx hb hr (fun t ht hW => ⟨⟨(), rfl, trivial, by rw [ht]; exact hP, va_K.moved hW.alike hK, hD⟩, hS.F ht⟩) hS.2.2 dX8_meet_81)
  · replace hm := if_f c7 hm
    cases hm
    exact W_mono hQ (W.vret hx hb hr (fun t ht hW => ⟨⟨(), rfl, trivial, by rw [ht]; exact hP, va_K.moved hW.alike hK, hD⟩, hS.F ht⟩) hS.2.2 dX8_meet_10)
abbrev rmX8_spread : Room := { frames := 4, cells := 0, slots := 0, locals := 89 }
theorem uX8_X8_spread : ∀ w ∈ wsX80, w ∈ wsX8_spread := fun _ h => List.mem_cons_of_mem _ (List.mem_append_left _ (List.mem_append_right _ (h)))
set_option maxHeartbeats 40000000 in
set_option maxRecDepth 100000 in
theorem c_Smooth_spread (l : Launch) (dC : Nat → ClassId) (dI : Nat → Nat → Nat) (cA : ClassId) (fu : Nat) (h_t h_t_seen h_t_sets h_t_links h_t_heads h_t_seen_bits : Nat) (f_t_cost : Int32) (f_t_next : Int32) (f_t_met : Int32) (f_t_heads : Nat → Int32) (f_t_links : Nat → Int32) (f_t_seen_bits : Nat → Int32) (f_t_sets : Nat → Int32) (a1 : Int32) (a2 : Int32) (a3 : Int32) (a4 : Int32) (f_t_cost_z : Int32) (f_t_heads_z : Nat → Int32) (f_t_links_z : Nat → Int32) (f_t_met_z : Int32) (f_t_next_z : Int32) (f_t_seen_bits_z : Nat → Int32) (f_t_sets_z : Nat → Int32) (hm : m_Smooth_spread fu f_t_cost f_t_heads f_t_links f_t_met f_t_next f_t_seen_bits f_t_sets a1 a2 a3 a4 = some (f_t_cost_z, f_t_heads_z, f_t_links_z, f_t_met_z, f_t_next_z, f_t_seen_bits_z, f_t_sets_z)) (sz : Nat) : Met l yX8_spread wsX8_spread rmX8_spread (mPre (dC, dI) cA [.ref h_t, .int a1, .int a2, .int a3, .int a4] sz [(h_t, .inr (7, [.int f_t_cost, .int f_t_next, .int f_t_met, .ref h_t_sets, .ref h_t_links, .ref h_t_heads, .ref h_t_seen])), (h_t_seen, .inr (5, [.ref h_t_seen_bits])), (h_t_heads, .inl (cA, 16, .inl f_t_heads)), (h_t_links, .inl (cA, 924, .inl f_t_links)), (h_t_seen_bits, .inl (cA, 128, .inl f_t_seen_bits)), (h_t_sets, .inl (cA, 924, .inl f_t_sets))]) (mPosV (dC, dI) cA (va_A [(h_t, .inr (7, [.int f_t_cost, .int f_t_next, .int f_t_met, .ref h_t_sets, .ref h_t_links, .ref h_t_heads, .ref h_t_seen])), (h_t_seen, .inr (5, [.ref h_t_seen_bits])), (h_t_heads, .inl (cA, 16, .inl f_t_heads)), (h_t_links, .inl (cA, 924, .inl f_t_links)), (h_t_seen_bits, .inl (cA, 128, .inl f_t_seen_bits)), (h_t_sets, .inl (cA, 924, .inl f_t_sets))] sz) [(h_t, .inr (7, [.int f_t_cost_z, .int f_t_next_z, .int f_t_met_z, .ref h_t_sets, .ref h_t_links, .ref h_t_heads, .ref h_t_seen])), (h_t_seen, .inr (5, [.ref h_t_seen_bits])), (h_t_heads, .inl (cA, 16, .inl f_t_heads_z)), (h_t_links, .inl (cA, 924, .inl f_t_links_z)), (h_t_seen_bits, .inl (cA, 128, .inl f_t_seen_bits_z)), (h_t_sets, .inl (cA, 924, .inl f_t_sets_z))]) 0 0 (va_A [(h_t, .inr (7, [.int f_t_cost, .int f_t_next, .int f_t_met, .ref h_t_sets, .ref h_t_links, .ref h_t_heads, .ref h_t_seen])), (h_t_seen, .inr (5, [.ref h_t_seen_bits])), (h_t_heads, .inl (cA, 16, .inl f_t_heads)), (h_t_links, .inl (cA, 924, .inl f_t_links)), (h_t_seen_bits, .inl (cA, 128, .inl f_t_seen_bits)), (h_t_sets, .inl (cA, 924, .inl f_t_sets))] sz) := by
  refine Met.ofW (cc := cX8_spread) (maxL := 8) (ret := none) (by decide) rfl ?_
  intro p e s m args below meth c s₁ B hml hv
  obtain ⟨rfl, hsz, hP, hK, hD0⟩ := hv
  refine W_gen (fun Q hQ => ?_)
  have hx := B.exec
  have hb := B.bytes
  have hr := B.returns
  have hts := atoms_spec (ws := wsX8_spread) B.pre
  have hown : s.vm.findClass RX8 = some m.cls := findClass_of_methodNamed B.named
  have hlocks := B.notSynchronized
  subst hsz
  have hD := hD0.self (sz := s.heap.size)
  clear hD0
  generalize hAe : va_A [(h_t, .inr (7, [.int f_t_cost, .int f_t_next, .int f_t_met, .ref h_t_sets, .ref h_t_links, .ref h_t_heads, .ref h_t_seen])), (h_t_seen, .inr (5, [.ref h_t_seen_bits])), (h_t_heads, .inl (cA, 16, .inl f_t_heads)), (h_t_links, .inl (cA, 924, .inl f_t_links)), (h_t_seen_bits, .inl (cA, 128, .inl f_t_seen_bits)), (h_t_sets, .inl (cA, 924, .inl f_t_sets))] s.heap.size = A at hD hQ
  have hA : ∀ q : Nat, s.heap.size ≤ q → A q := fun q h => by rw [← hAe]; exact Or.inr h
  clear hAe
  have hS : va_S A s.heap s.heap [] := va_S.rf
  have hl := lv_entry ([.ref h_t, .int a1, .int a2, .int a3, .int a4]) (n := 8) (Nat.le_of_ble_eq_true rfl)
  rw [lg_entry_eq]
  generalize (lg_sl ([.ref h_t, .int a1, .int a2, .int a3, .int a4]) ++ List.replicate (8 - (lg_sl ([.ref h_t, .int a1, .int a2, .int a3, .int a4])).length) Slot.unset).toArray = ls at hl ⊢
  have hl : lv_has ls 8 [(0, .ref h_t), (1, .int a1), (2, .int a2), (3, .int a3), (4, .int a4)] := hl
  have k7 := hts (.fieldLink RX8 34 "ToneSets$Smooth" "seen" "LToneSets$Seen;") (List.mem_of_getElem? (i := 7) rfl)
  have k1 := hts (.fieldLink RX8 15 "ToneSets$Smooth" "next" "I") (List.mem_of_getElem? (i := 1) rfl)
  have k2 := hts (.methodLink RX8 58 Lib.Math.min.name) (List.mem_of_getElem? (i := 2) rfl)
  have k3 := hts (.static Lib.Math.min.name) (List.mem_of_getElem? (i := 3) rfl)
  have k4 := hts (.initialized "java/lang/Math") (List.mem_of_getElem? (i := 4) rfl)
  have k5 := hts (.code Lib.Math.min.name Lib.Math.min.code 2 (some .int)) (List.mem_of_getElem? (i := 5) rfl)
  have k6 := hts (.fieldLink RX8 11 "ToneSets$Smooth" "cost" "I") (List.mem_of_getElem? (i := 6) rfl)
  have uX8 := uX8_X8_spread
  unfold m_Smooth_spread at hm
  refine lv_iconst (v := 0) hx hb dX8_spread_0 (by decide) ?_
  refine lv_topi (fun v5_1 ev5_1 => ?_)
  replace hm := lt_go ev5_1 hm
  refine lv_istore (lv' := [(5, .int v5_1), (0, .ref h_t), (1, .int a1), (2, .int a2), (3, .int a3), (4, .int a4)]) hx hb dX8_spread_1 hl (by decide) rfl (fun ls hl => ?_)
  have L3 : ∀ (n : Nat) (v5_2 : Int32) (f_t_cost_1 : Int32) (f_t_heads_1 : Nat → Int32) (f_t_links_1 : Nat → Int32) (f_t_met_1 : Int32) (f_t_next_1 : Int32) (f_t_seen_bits_1 : Nat → Int32) (f_t_sets_1 : Nat → Int32) (f_t_cost_2 : Int32) (f_t_heads_2 : Nat → Int32) (f_t_links_2 : Nat → Int32) (f_t_met_2 : Int32) (f_t_next_2 : Int32) (f_t_seen_bits_2 : Nat → Int32) (f_t_sets_2 : Nat → Int32), m_Smooth_spread_L3 a4 a1 a3 a2 n v5_2 f_t_cost_1 f_t_heads_1 f_t_links_1 f_t_met_1 f_t_next_1 f_t_seen_bits_1 f_t_sets_1 = some (f_t_cost_2, f_t_heads_2, f_t_links_2, f_t_met_2, f_t_next_2, f_t_seen_bits_2, f_t_sets_2) → ∀ (H : Heap) (locs : List Loc), va_P (dC, dI) vwCl [(h_t, .inr (7, [.int f_t_cost_1, .int f_t_next_1, .int f_t_met_1, .ref h_t_sets, .ref h_t_links, .ref h_t_heads, .ref h_t_seen])), (h_t_seen, .inr (5, [.ref h_t_seen_bits])), (h_t_heads, .inl (cA, 16, .inl f_t_heads_1)), (h_t_links, .inl (cA, 924, .inl f_t_links_1)), (h_t_seen_bits, .inl (cA, 128, .inl f_t_seen_bits_1)), (h_t_sets, .inl (cA, 924, .inl f_t_sets_1))] H → va_D A [(h_t, .inr (7, [.int f_t_cost_1, .int f_t_next_1, .int f_t_met_1, .ref h_t_sets, .ref h_t_links, .ref h_t_heads, .ref h_t_seen])), (h_t_seen, .inr (5, [.ref h_t_seen_bits])), (h_t_heads, .inl (cA, 16, .inl f_t_heads_1)), (h_t_links, .inl (cA, 924, .inl f_t_links_1)), (h_t_seen_bits, .inl (cA, 128, .inl f_t_seen_bits_1)), (h_t_sets, .inl (cA, 924, .inl f_t_sets_1))] → va_S A s.heap H locs → ∀ ls : Array Slot, lv_has ls 8 [(0, .ref h_t), (1, .int a1), (2, .int a2), (3, .int a3), (4, .int a4), (5, .int v5_2)] → (∀ (H : Heap) (locs : List Loc), va_P (dC, dI) vwCl [(h_t, .inr (7, [.int f_t_cost_2, .int f_t_next_2, .int f_t_met_2, .ref h_t_sets, .ref h_t_links, .ref h_t_heads, .ref h_t_seen])), (h_t_seen, .inr (5, [.ref h_t_seen_bits])), (h_t_heads, .inl (cA, 16, .inl f_t_heads_2)), (h_t_links, .inl (cA, 924, .inl f_t_links_2)), (h_t_seen_bits, .inl (cA, 128, .inl f_t_seen_bits_2)), (h_t_sets, .inl (cA, 924, .inl f_t_sets_2))] H → va_D A [(h_t, .inr (7, [.int f_t_cost_2, .int f_t_next_2, .int f_t_met_2, .ref h_t_sets, .ref h_t_links, .ref h_t_heads, .ref h_t_seen])), (h_t_seen, .inr (5, [.ref h_t_seen_bits])), (h_t_heads, .inl (cA, 16, .inl f_t_heads_2)), (h_t_links, .inl (cA, 924, .inl f_t_links_2)), (h_t_seen_bits, .inl (cA, 128, .inl f_t_seen_bits_2)), (h_t_sets, .inl (cA, 924, .inl f_t_sets_2))] → va_S A s.heap H locs → ∀ ls : Array Slot, lv_has ls 8 [] → W p l e (headSpec wsX8_spread rmX8_spread).room s m (([.ref h_t, .int a1, .int a2, .int a3, .int a4] : List Value).toArray) below meth c H locs 0 0 Q (F0 m 125 ls [])) → W p l e (headSpec wsX8_spread rmX8_spread).room s m (([.ref h_t, .int a1, .int a2, .int a3, .int a4] : List Value).toArray) below meth c H locs 0 0 Q (F0 m 3 ls []) := by
    clear hm hP hD hS hl
    intro n
    induction n with
    | zero => intro _ _ _ _ _ _ _ _ _ _ _ _ _ _ _ hm; exact nomatch (show none = some _ from hm)
    | succ n ih =>
      intro v5_2 f_t_cost_1 f_t_heads_1 f_t_links_1 f_t_met_1 f_t_next_1 f_t_seen_bits_1 f_t_sets_1 f_t_cost_2 f_t_heads_2 f_t_links_2 f_t_met_2 f_t_next_2 f_t_seen_bits_2 f_t_sets_2 hm H locs hP hD hS ls hl KK
      unfold m_Smooth_spread_L3 at hm
      refine lv_iload hx hb dX8_spread_3 (lv_at hl 5 rfl) ?_
      refine lv_iload hx hb dX8_spread_5 (lv_at hl 4 rfl) ?_
      refine lv_icmp_ge (tgt := 125) hx hb dX8_spread_7 (by decide) (fun c7 => ?_) (fun c7 => ?_)
      · replace hm := if_t c7 hm
        cases hm
        exact KK _ _ hP hD hS _ (lv_sub hl [] rfl)
      · replace hm := if_f c7 hm
        refine lv_iload hx hb dX8_spread_10 (lv_at hl 5 rfl) ?_
        refine lv_iconst (v := 1) hx hb dX8_spread_12 (by decide) ?_
        refine lv_iadd hx hb dX8_spread_13 ?_
        refine lv_iload hx hb dX8_spread_14 (lv_at hl 4 rfl) ?_
        obtain ⟨q27_1, hqJ_1, hm⟩ := bd1_go hm
        have J_1 : ∀ (H : Heap) (locs : List Loc), va_P (dC, dI) vwCl [(h_t, .inr (7, [.int f_t_cost_1, .int f_t_next_1, .int f_t_met_1, .ref h_t_sets, .ref h_t_links, .ref h_t_heads, .ref h_t_seen])), (h_t_seen, .inr (5, [.ref h_t_seen_bits])), (h_t_heads, .inl (cA, 16, .inl f_t_heads_1)), (h_t_links, .inl (cA, 924, .inl f_t_links_1)), (h_t_seen_bits, .inl (cA, 128, .inl f_t_seen_bits_1)), (h_t_sets, .inl (cA, 924, .inl f_t_sets_1))] H → va_D A [(h_t, .inr (7, [.int f_t_cost_1, .int f_t_next_1, .int f_t_met_1, .ref h_t_sets, .ref h_t_links, .ref h_t_heads, .ref h_t_seen])), (h_t_seen, .inr (5, [.ref h_t_seen_bits])), (h_t_heads, .inl (cA, 16, .inl f_t_heads_1)), (h_t_links, .inl (cA, 924, .inl f_t_links_1)), (h_t_seen_bits, .inl (cA, 128, .inl f_t_seen_bits_1)), (h_t_sets, .inl (cA, 924, .inl f_t_sets_1))] → va_S A s.heap H locs → ∀ ls : Array Slot, lv_has ls 8 [(0, .ref h_t), (1, .int a1), (2, .int a2), (3, .int a3), (4, .int a4), (5, .int v5_2)] → W p l e (headSpec wsX8_spread rmX8_spread).room s m (([.ref h_t, .int a1, .int a2, .int a3, .int a4] : List Value).toArray) below meth c H locs 0 0 Q (F0 m 27 ls [.int q27_1]) := by
          intro H locs hP hD hS ls hl
          clear hqJ_1
          refine lv_topi (fun v6_1 ev6_1 => ?_)
          replace hm := lt_go ev6_1 hm
          refine lv_istore (lv' := [(6, .int v6_1), (0, .ref h_t), (1, .int a1), (2, .int a2), (3, .int a3), (4, .int a4), (5, .int v5_2)]) hx hb dX8_spread_27 hl (by decide) rfl (fun ls hl => ?_)
          refine lv_iload_n hx hb dX8_spread_29 rfl (lv_at hl 2 rfl) ?_
          refine lv_iload hx hb dX8_spread_30 (lv_at hl 6 rfl) ?_
          refine lv_ishr hx hb dX8_spread_32 ?_
          refine lv_iconst (v := 1) hx hb dX8_spread_33 (by decide) ?_
          refine lv_iand hx hb dX8_spread_34 ?_
          refine lv_iload_n hx hb dX8_spread_35 rfl (lv_at hl 2 rfl) ?_
          refine lv_iload hx hb dX8_spread_36 (lv_at hl 0 rfl) ?_
          refine lv_ishr hx hb dX8_spread_38 ?_
          refine lv_iconst (v := 1) hx hb dX8_spread_39 (by decide) ?_
          refine lv_iand hx hb dX8_spread_40 ?_
          obtain ⟨f_t_cost_3, f_t_heads_3, f_t_links_3, f_t_met_3, f_t_next_3, f_t_seen_bits_3, f_t_sets_3, hqJ_2, hm⟩ := bd7_go hm
          have J_2 : ∀ (H : Heap) (locs : List Loc), va_P (dC, dI) vwCl [(h_t, .inr (7, [.int f_t_cost_3, .int f_t_next_3, .int f_t_met_3, .ref h_t_sets, .ref h_t_links, .ref h_t_heads, .ref h_t_seen])), (h_t_seen, .inr (5, [.ref h_t_seen_bits])), (h_t_heads, .inl (cA, 16, .inl f_t_heads_3)), (h_t_links, .inl (cA, 924, .inl f_t_links_3)), (h_t_seen_bits, .inl (cA, 128, .inl f_t_seen_bits_3)), (h_t_sets, .inl (cA, 924, .inl f_t_sets_3))] H → va_D A [(h_t, .inr (7, [.int f_t_cost_3, .int f_t_next_3, .int f_t_met_3, .ref h_t_sets, .ref h_t_links, .ref h_t_heads, .ref h_t_seen])), (h_t_seen, .inr (5, [.ref h_t_seen_bits])), (h_t_heads, .inl (cA, 16, .inl f_t_heads_3)), (h_t_links, .inl (cA, 924, .inl f_t_links_3)), (h_t_seen_bits, .inl (cA, 128, .inl f_t_seen_bits_3)), (h_t_sets, .inl (cA, 924, .inl f_t_sets_3))] → va_S A s.heap H locs → ∀ ls : Array Slot, lv_has ls 8 [(0, .ref h_t), (1, .int a1), (2, .int a2), (3, .int a3), (4, .int a4), (5, .int v5_2)] → W p l e (headSpec wsX8_spread rmX8_spread).room s m (([.ref h_t, .int a1, .int a2, .int a3, .int a4] : List Value).toArray) below meth c H locs 0 0 Q (F0 m 119 ls []) := by
            intro H locs hP hD hS ls hl
            clear hqJ_2
            obtain ⟨v5_3, ev5_3⟩ : ∃ z : Int32, z = v5_2 + 1 := ⟨_, rfl⟩
            replace hm := lt_go ev5_3 hm
            refine lv_iinc (v := v5_3) (lv' := [(5, .int v5_3), (0, .ref h_t), (1, .int a1), (2, .int a2), (3, .int a3), (4, .int a4)]) hx hb dX8_spread_119 hl (k := 5) rfl (by rw [ev5_3]; rfl) (by decide) rfl (fun ls hl => ?_)
            refine lv_goto (tgt := 3) hx hb dX8_spread_122 (by decide) ?_
            exact ih _ _ _ _ _ _ _ _ _ _ _ _ _ _ _ hm _ _ hP hD hS _ (lv_sub hl [1, 2, 3, 4, 5, 0] rfl) KK
          clear hm
          refine lv_icmp_ne (tgt := 47) hx hb dX8_spread_41 (by decide) (fun c41 => ?_) (fun c41 => ?_)
          · replace hqJ_2 := if_f c41 hqJ_2
            refine lv_iload_n hx hb dX8_spread_47 rfl (lv_at hl 2 rfl) ?_
            refine lv_iconst (v := 1) hx hb dX8_spread_48 (by decide) ?_
            refine lv_iload hx hb dX8_spread_49 (lv_at hl 6 rfl) ?_
            refine lv_ishl hx hb dX8_spread_51 ?_
            refine lv_ixor hx hb dX8_spread_52 ?_
            refine lv_iconst (v := 1) hx hb dX8_spread_53 (by decide) ?_
            refine lv_iload hx hb dX8_spread_54 (lv_at hl 0 rfl) ?_
            refine lv_ishl hx hb dX8_spread_56 ?_
            refine lv_ixor hx hb dX8_spread_57 ?_
            refine lv_topi (fun v7_1 ev7_1 => ?_)
            replace hqJ_2 := lt_go ev7_1 hqJ_2
            refine lv_istore (lv' := [(7, .int v7_1), (6, .int v6_1), (0, .ref h_t), (1, .int a1), (2, .int a2), (3, .int a3), (4, .int a4), (5, .int v5_2)]) hx hb dX8_spread_58 hl (by decide) rfl (fun ls hl => ?_)
            refine lv_iload hx hb dX8_spread_60 (lv_at hl 0 rfl) ?_
            refine lv_iload_n hx hb dX8_spread_62 rfl (lv_at hl 5 rfl) ?_
            refine lv_icmp_ne (tgt := 98) hx hb dX8_spread_63 (by decide) (fun c63 => ?_) (fun c63 => ?_)
            · replace hqJ_2 := if_f c63 hqJ_2
              refine lv_aload_n hx hb dX8_spread_98 rfl (lv_at hl 2 rfl) ?_
              refine va_get (D := (dC, dI)) (ci := 7) (v := .ref h_t_seen) (C := RX8) (T := TX8) (N := 7) hx hb hts uX8 hown hK hP 0 rfl rfl 6 (by decide) k7 (fun _ h9 => h9) rfl dX8_spread_99 ?_
              refine lv_iload hx hb dX8_spread_102 (lv_at hl 0 rfl) ?_
              obtain ⟨r_1, hc104, hqJ_2⟩ := bd1_go hqJ_2
              refine my_cVi (As := [.int v7_1]) (rest := []) (WC := [(h_t_seen, .inr (5, [.ref h_t_seen_bits])), (h_t_seen_bits, .inl (cA, 128, .inl f_t_seen_bits_1))]) (WC' := [(h_t_seen, .inr (5, [.ref h_t_seen_bits])), (h_t_seen_bits, .inl (cA, 128, .inl f_t_seen_bits_1))]) (WR := [(h_t, .inr (7, [.int f_t_cost_1, .int f_t_next_1, .int f_t_met_1, .ref h_t_sets, .ref h_t_links, .ref h_t_heads, .ref h_t_seen])), (h_t_heads, .inl (cA, 16, .inl f_t_heads_1)), (h_t_links, .inl (cA, 924, .inl f_t_links_1)), (h_t_sets, .inl (cA, 924, .inl f_t_sets_1))]) (W' := [(h_t, .inr (7, [.int f_t_cost_1, .int f_t_next_1, .int f_t_met_1, .ref h_t_sets, .ref h_t_links, .ref h_t_heads, .ref h_t_seen])), (h_t_seen, .inr (5, [.ref h_t_seen_bits])), (h_t_heads, .inl (cA, 16, .inl f_t_heads_1)), (h_t_links, .inl (cA, 924, .inl f_t_links_1)), (h_t_seen_bits, .inl (cA, 128, .inl f_t_seen_bits_1)), (h_t_sets, .inl (cA, 924, .inl f_t_sets_1))]) ⟨hx, hb, hml, hown, hts⟩ hK hP hD hS hA (c_Seen_has l dC dI cA h_t_seen h_t_seen_bits f_t_seen_bits_1 v7_1 r_1 hc104) (cwV 1 hts gX8_spread_X6_has rfl rfl rfl (by decide +kernel) ⟨Nat.le_of_ble_eq_true rfl, Nat.le_of_ble_eq_true rfl⟩) [1, 4] [0, 2, 3, 5] [0, 4, 1, 2, 5, 3] rfl rfl rfl rfl (ci := 5) (q0 := 0) rfl rfl rfl rfl hl.1 (Nat.le_of_ble_eq_true rfl) dX8_spread_104 ⟨Nat.zero_le _, Nat.zero_le _⟩ (fun H locs hP hD hS => ?_)
              refine lv_if_ne (tgt := 119) hx hb dX8_spread_107 (by decide) (fun c107 => ?_) (fun c107 => ?_)
              · replace hqJ_2 := if_f c107 hqJ_2
                cases hqJ_2
                exact J_2 _ _ hP hD hS _ (lv_sub hl [2, 3, 4, 5, 6, 7] rfl)
              · replace hqJ_2 := if_t c107 hqJ_2
                refine lv_aload_n hx hb dX8_spread_110 rfl (lv_at hl 2 rfl) ?_
                refine lv_iload hx hb dX8_spread_111 (lv_at hl 0 rfl) ?_
                refine lv_iload_n hx hb dX8_spread_113 rfl (lv_at hl 4 rfl) ?_
                refine lv_iload hx hb dX8_spread_114 (lv_at hl 6 rfl) ?_
                obtain ⟨f_t_heads_4, f_t_links_4, f_t_met_4, f_t_seen_bits_4, f_t_sets_4, hc116, hqJ_2⟩ := bd5_go hqJ_2
                refine my_cVv (As := [.int v7_1, .int a2, .int a4]) (rest := []) (WC := [(h_t, .inr (7, [.int f_t_cost_1, .int f_t_next_1, .int f_t_met_1, .ref h_t_sets, .ref h_t_links, .ref h_t_heads, .ref h_t_seen])), (h_t_seen, .inr (5, [.ref h_t_seen_bits])), (h_t_heads, .inl (cA, 16, .inl f_t_heads_1)), (h_t_links, .inl (cA, 924, .inl f_t_links_1)), (h_t_seen_bits, .inl (cA, 128, .inl f_t_seen_bits_1)), (h_t_sets, .inl (cA, 924, .inl f_t_sets_1))]) (WC' := [(h_t, .inr (7, [.int f_t_cost_1, .int f_t_next_1, .int f_t_met_4, .ref h_t_sets, .ref h_t_links, .ref h_t_heads, .ref h_t_seen])), (h_t_seen, .inr (5, [.ref h_t_seen_bits])), (h_t_heads, .inl (cA, 16, .inl f_t_heads_4)), (h_t_links, .inl (cA, 924, .inl f_t_links_4)), (h_t_seen_bits, .inl (cA, 128, .inl f_t_seen_bits_4)), (h_t_sets, .inl (cA, 924, .inl f_t_sets_4))]) (WR := []) (W' := [(h_t, .inr (7, [.int f_t_cost_1, .int f_t_next_1, .int f_t_met_4, .ref h_t_sets, .ref h_t_links, .ref h_t_heads, .ref h_t_seen])), (h_t_seen, .inr (5, [.ref h_t_seen_bits])), (h_t_heads, .inl (cA, 16, .inl f_t_heads_4)), (h_t_links, .inl (cA, 924, .inl f_t_links_4)), (h_t_seen_bits, .inl (cA, 128, .inl f_t_seen_bits_4)), (h_t_sets, .inl (cA, 924, .inl f_t_sets_4))]) ⟨hx, hb, hml, hown, hts⟩ hK hP hD hS hA (c_Smooth_meet l dC dI cA h_t h_t_seen h_t_sets h_t_links h_t_heads h_t_seen_bits f_t_cost_1 f_t_next_1 f_t_met_1 f_t_heads_1 f_t_links_1 f_t_seen_bits_1 f_t_sets_1 v7_1 a2 a4 f_t_heads_4 f_t_links_4 f_t_met_4 f_t_seen_bits_4 f_t_sets_4 hc116) (cwV 3 hts gX8_spread_X8_meet rfl rfl rfl (by decide +kernel) ⟨Nat.le_of_ble_eq_true rfl, Nat.le_of_ble_eq_true rfl⟩) [0, 1, 2, 3, 4, 5] [] [0, 1, 2, 3, 4, 5] rfl rfl rfl rfl (ci := 7) (q0 := 0) rfl rfl rfl rfl hl.1 (Nat.le_of_ble_eq_true rfl) dX8_spread_116 ⟨Nat.zero_le _, Nat.zero_le _⟩ (fun H locs hP hD hS => ?_)
                cases hqJ_2
                exact J_2 _ _ hP hD hS _ (lv_sub hl [2, 3, 4, 5, 6, 7] rfl)
            · replace hqJ_2 := if_t c63 hqJ_2
              refine lv_aload_n hx hb dX8_spread_66 rfl (lv_at hl 2 rfl) ?_
              refine lv_aload_n hx hb dX8_spread_67 rfl (lv_at hl 2 rfl) ?_
              refine va_get (D := (dC, dI)) (ci := 7) (v := .int f_t_next_1) (C := RX8) (T := TX8) (N := 7) hx hb hts uX8 hown hK hP 0 rfl rfl 1 (by decide) k1 (fun _ h9 => h9) rfl dX8_spread_68 ?_
              refine lv_iconst (v := (-1)) hx hb dX8_spread_71 (by decide) ?_
              obtain ⟨q87_1, hqJ_3, hqJ_2⟩ := bd1_go hqJ_2
              have J_3 : ∀ (H : Heap) (locs : List Loc), va_P (dC, dI) vwCl [(h_t, .inr (7, [.int f_t_cost_1, .int f_t_next_1, .int f_t_met_1, .ref h_t_sets, .ref h_t_links, .ref h_t_heads, .ref h_t_seen])), (h_t_seen, .inr (5, [.ref h_t_seen_bits])), (h_t_heads, .inl (cA, 16, .inl f_t_heads_1)), (h_t_links, .inl (cA, 924, .inl f_t_links_1)), (h_t_seen_bits, .inl (cA, 128, .inl f_t_seen_bits_1)), (h_t_sets, .inl (cA, 924, .inl f_t_sets_1))] H → va_D A [(h_t, .inr (7, [.int f_t_cost_1, .int f_t_next_1, .int f_t_met_1, .ref h_t_sets, .ref h_t_links, .ref h_t_heads, .ref h_t_seen])), (h_t_seen, .inr (5, [.ref h_t_seen_bits])), (h_t_heads, .inl (cA, 16, .inl f_t_heads_1)), (h_t_links, .inl (cA, 924, .inl f_t_links_1)), (h_t_seen_bits, .inl (cA, 128, .inl f_t_seen_bits_1)), (h_t_sets, .inl (cA, 924, .inl f_t_sets_1))] → va_S A s.heap H locs → ∀ ls : Array Slot, lv_has ls 8 [(0, .ref h_t), (1, .int a1), (2, .int a2), (3, .int a3), (4, .int a4), (5, .int v5_2)] → W p l e (headSpec wsX8_spread rmX8_spread).room s m (([.ref h_t, .int a1, .int a2, .int a3, .int a4] : List Value).toArray) below meth c H locs 0 0 Q (F0 m 87 ls [.int q87_1, .ref h_t]) := by
                intro H locs hP hD hS ls hl
                clear hqJ_3
                refine lv_topi (fun f_t_next_4 ef_t_next_4 => ?_)
                replace hqJ_2 := lt_go ef_t_next_4 hqJ_2
                refine my_put (W' := [(h_t, .inr (7, [.int f_t_cost_1, .int f_t_next_4, .int f_t_met_1, .ref h_t_sets, .ref h_t_links, .ref h_t_heads, .ref h_t_seen])), (h_t_seen, .inr (5, [.ref h_t_seen_bits])), (h_t_heads, .inl (cA, 16, .inl f_t_heads_1)), (h_t_links, .inl (cA, 924, .inl f_t_links_1)), (h_t_seen_bits, .inl (cA, 128, .inl f_t_seen_bits_1)), (h_t_sets, .inl (cA, 924, .inl f_t_sets_1))]) (ci := 7) (v := .int f_t_next_4) (ty := .int) (C := RX8) (T := TX8) (N := 7) hx hb hts uX8 tyX8 tyX8_ok nmX8 hown hK hP hD hS 0 rfl rfl 1 (by decide) k1 (fun _ h9 => h9) rfl (by decide +kernel) rfl rfl (Nat.le_of_ble_eq_true rfl) dX8_spread_87 rfl (fun H locs hP hD hS => ?_)
                refine lv_aload_n hx hb dX8_spread_90 rfl (lv_at hl 0 rfl) ?_
                refine lv_iload_n hx hb dX8_spread_91 rfl (lv_at hl 2 rfl) ?_
                refine lv_topi (fun f_t_cost_4 ef_t_cost_4 => ?_)
                replace hqJ_2 := lt_go ef_t_cost_4 hqJ_2
                refine my_put (W' := [(h_t, .inr (7, [.int f_t_cost_4, .int f_t_next_4, .int f_t_met_1, .ref h_t_sets, .ref h_t_links, .ref h_t_heads, .ref h_t_seen])), (h_t_seen, .inr (5, [.ref h_t_seen_bits])), (h_t_heads, .inl (cA, 16, .inl f_t_heads_1)), (h_t_links, .inl (cA, 924, .inl f_t_links_1)), (h_t_seen_bits, .inl (cA, 128, .inl f_t_seen_bits_1)), (h_t_sets, .inl (cA, 924, .inl f_t_sets_1))]) (ci := 7) (v := .int f_t_cost_4) (ty := .int) (C := RX8) (T := TX8) (N := 7) hx hb hts uX8 tyX8 tyX8_ok nmX8 hown hK hP hD hS 0 rfl rfl 0 (by decide) k6 (fun _ h9 => h9) rfl (by decide +kernel) rfl rfl (Nat.le_of_ble_eq_true rfl) dX8_spread_92 rfl (fun H locs hP hD hS => ?_)
                refine lv_goto (tgt := 119) hx hb dX8_spread_95 (by decide) ?_
                cases hqJ_2
                exact J_2 _ _ hP hD hS _ (lv_sub hl [0, 1, 2, 3, 4, 5] rfl)
              clear hqJ_2
              refine lv_icmp_ne (tgt := 79) hx hb dX8_spread_72 (by decide) (fun c72 => ?_) (fun c72 => ?_)
              · replace hqJ_3 := if_f c72 hqJ_3
                refine lv_aload_n hx hb dX8_spread_79 rfl (lv_at hl 2 rfl) ?_
                refine va_get (D := (dC, dI)) (ci := 7) (v := .int f_t_next_1) (C := RX8) (T := TX8) (N := 7) hx hb hts uX8 hown hK hP 0 rfl rfl 1 (by decide) k1 (fun _ h9 => h9) rfl dX8_spread_80 ?_
                refine lv_iload_n hx hb dX8_spread_83 rfl (lv_at hl 3 rfl) ?_
                refine va_mmin hx hb (hml.trans hl.1.symm) hown k2 k3 k4 k5 (Nat.le_of_ble_eq_true rfl) (Nat.le_of_ble_eq_true rfl) (Nat.zero_le _) (Nat.zero_le _) dX8_spread_84 ?_
                cases hqJ_3
                exact J_3 _ _ hP hD hS _ (lv_sub hl [2, 3, 4, 5, 6, 7] rfl)
              · replace hqJ_3 := if_t c72 hqJ_3
                refine lv_iload_n hx hb dX8_spread_75 rfl (lv_at hl 3 rfl) ?_
                refine lv_goto (tgt := 87) hx hb dX8_spread_76 (by decide) ?_
                cases hqJ_3
                exact J_3 _ _ hP hD hS _ (lv_sub hl [2, 3, 4, 5, 6, 7] rfl)
          · replace hqJ_2 := if_t c41 hqJ_2
            refine lv_goto (tgt := 119) hx hb dX8_spread_44 (by decide) ?_
            cases hqJ_2
            exact J_2 _ _ hP hD hS _ (lv_sub hl [1, 2, 3, 4, 5, 6] rfl)
        clear hm
        refine lv_icmp_ge (tgt := 26) hx hb dX8_spread_16 (by decide) (fun c16 => ?_) (fun c16 => ?_)
        · replace hqJ_1 := if_t c16 hqJ_1
          refine lv_iconst (v := 0) hx hb dX8_spread_26 (by decide) ?_
          cases hqJ_1
          exact J_1 _ _ hP hD hS _ (lv_sub hl [0, 1, 2, 3, 4, 5] rfl)
        · replace hqJ_1 := if_f c16 hqJ_1
          refine lv_iload hx hb dX8_spread_19 (lv_at hl 5 rfl) ?_
          refine lv_iconst (v := 1) hx hb dX8_spread_21 (by decide) ?_
          refine lv_iadd hx hb dX8_spread_22 ?_
          refine lv_goto (tgt := 27) hx hb dX8_spread_23 (by decide) ?_
          cases hqJ_1
          exact J_1 _ _ hP hD hS _ (lv_sub hl [0, 1, 2, 3, 4, 5] rfl)
  obtain ⟨f_t_cost_5, f_t_heads_5, f_t_links_5, f_t_met_5, f_t_next_5, f_t_seen_bits_5, f_t_sets_5, hl3, hm⟩ := bd7_go hm
  refine L3 _ _ _ _ _ _ _ _ _ _ _ _ _ _ _ _ hl3 _ _ hP hD hS _ (lv_sub hl [1, 2, 3, 4, 5, 0] rfl) (fun H locs hP hD hS ls hl => ?_)
  cases hm
  exact W_mono hQ (W.vret hx hb hr (fun t ht hW => ⟨⟨(), rfl, trivial, by rw [ht]; exact hP, va_K.moved hW.alike hK, hD⟩, hS.F ht⟩) hS.2.2 dX8_spread_125)
abbrev rmX8_takeUp : Room := { frames := 5, cells := 0, slots := 0, locals := 116 }
theorem uX8_X8_takeUp : ∀ w ∈ wsX80, w ∈ wsX8_takeUp := fun _ h => List.mem_cons_of_mem _ (List.mem_append_left _ (List.mem_append_right _ (h)))
set_option maxHeartbeats 40000000 in
set_option maxRecDepth 100000 in
theorem c_Smooth_takeUp (l : Launch) (dC : Nat → ClassId) (dI : Nat → Nat → Nat) (cA : ClassId) (fu : Nat) (h_t h_t_seen h_t_sets h_t_links h_t_heads h_t_seen_bits : Nat) (f_t_cost : Int32) (f_t_next : Int32) (f_t_met : Int32) (f_t_heads : Nat → Int32) (f_t_links : Nat → Int32) (f_t_seen_bits : Nat → Int32) (f_t_sets : Nat → Int32) (a1 : Int32) (a2 : Int32) (a3 : Int32) (f_t_cost_z : Int32) (f_t_heads_z : Nat → Int32) (f_t_links_z : Nat → Int32) (f_t_met_z : Int32) (f_t_next_z : Int32) (f_t_seen_bits_z : Nat → Int32) (f_t_sets_z : Nat → Int32) (hm : m_Smooth_takeUp fu f_t_cost f_t_heads f_t_links f_t_met f_t_next f_t_seen_bits f_t_sets a1 a2 a3 = some (f_t_cost_z, f_t_heads_z, f_t_links_z, f_t_met_z, f_t_next_z, f_t_seen_bits_z, f_t_sets_z)) (sz : Nat) : Met l yX8_takeUp wsX8_takeUp rmX8_takeUp (mPre (dC, dI) cA [.ref h_t, .int a1, .int a2, .int a3] sz [(h_t, .inr (7, [.int f_t_cost, .int f_t_next, .int f_t_met, .ref h_t_sets, .ref h_t_links, .ref h_t_heads, .ref h_t_seen])), (h_t_seen, .inr (5, [.ref h_t_seen_bits])), (h_t_heads, .inl (cA, 16, .inl f_t_heads)), (h_t_links, .inl (cA, 924, .inl f_t_links)), (h_t_seen_bits, .inl (cA, 128, .inl f_t_seen_bits)), (h_t_sets, .inl (cA, 924, .inl f_t_sets))]) (mPosV (dC, dI) cA (va_A [(h_t, .inr (7, [.int f_t_cost, .int f_t_next, .int f_t_met, .ref h_t_sets, .ref h_t_links, .ref h_t_heads, .ref h_t_seen])), (h_t_seen, .inr (5, [.ref h_t_seen_bits])), (h_t_heads, .inl (cA, 16, .inl f_t_heads)), (h_t_links, .inl (cA, 924, .inl f_t_links)), (h_t_seen_bits, .inl (cA, 128, .inl f_t_seen_bits)), (h_t_sets, .inl (cA, 924, .inl f_t_sets))] sz) [(h_t, .inr (7, [.int f_t_cost_z, .int f_t_next_z, .int f_t_met_z, .ref h_t_sets, .ref h_t_links, .ref h_t_heads, .ref h_t_seen])), (h_t_seen, .inr (5, [.ref h_t_seen_bits])), (h_t_heads, .inl (cA, 16, .inl f_t_heads_z)), (h_t_links, .inl (cA, 924, .inl f_t_links_z)), (h_t_seen_bits, .inl (cA, 128, .inl f_t_seen_bits_z)), (h_t_sets, .inl (cA, 924, .inl f_t_sets_z))]) 0 0 (va_A [(h_t, .inr (7, [.int f_t_cost, .int f_t_next, .int f_t_met, .ref h_t_sets, .ref h_t_links, .ref h_t_heads, .ref h_t_seen])), (h_t_seen, .inr (5, [.ref h_t_seen_bits])), (h_t_heads, .inl (cA, 16, .inl f_t_heads)), (h_t_links, .inl (cA, 924, .inl f_t_links)), (h_t_seen_bits, .inl (cA, 128, .inl f_t_seen_bits)), (h_t_sets, .inl (cA, 924, .inl f_t_sets))] sz) := by
  refine Met.ofW (cc := cX8_takeUp) (maxL := 7) (ret := none) (by decide) rfl ?_
  intro p e s m args below meth c s₁ B hml hv
  obtain ⟨rfl, hsz, hP, hK, hD0⟩ := hv
  refine W_gen (fun Q hQ => ?_)
  have hx := B.exec
  have hb := B.bytes
  have hr := B.returns
  have hts := atoms_spec (ws := wsX8_takeUp) B.pre
  have hown : s.vm.findClass RX8 = some m.cls := findClass_of_methodNamed B.named
  have hlocks := B.notSynchronized
  subst hsz
  have hD := hD0.self (sz := s.heap.size)
  clear hD0
  generalize hAe : va_A [(h_t, .inr (7, [.int f_t_cost, .int f_t_next, .int f_t_met, .ref h_t_sets, .ref h_t_links, .ref h_t_heads, .ref h_t_seen])), (h_t_seen, .inr (5, [.ref h_t_seen_bits])), (h_t_heads, .inl (cA, 16, .inl f_t_heads)), (h_t_links, .inl (cA, 924, .inl f_t_links)), (h_t_seen_bits, .inl (cA, 128, .inl f_t_seen_bits)), (h_t_sets, .inl (cA, 924, .inl f_t_sets))] s.heap.size = A at hD hQ
  have hA : ∀ q : Nat, s.heap.size ≤ q → A q := fun q h => by rw [← hAe]; exact Or.inr h
  clear hAe
  have hS : va_S A s.heap s.heap [] := va_S.rf
  have hl := lv_entry ([.ref h_t, .int a1, .int a2, .int a3]) (n := 7) (Nat.le_of_ble_eq_true rfl)
  rw [lg_entry_eq]
  generalize (lg_sl ([.ref h_t, .int a1, .int a2, .int a3]) ++ List.replicate (7 - (lg_sl ([.ref h_t, .int a1, .int a2, .int a3])).length) Slot.unset).toArray = ls at hl ⊢
  have hl : lv_has ls 7 [(0, .ref h_t), (1, .int a1), (2, .int a2), (3, .int a3)] := hl
  have k1 := hts (.fieldLink RX8 28 "ToneSets$Smooth" "heads" "[I") (List.mem_of_getElem? (i := 1) rfl)
  have k2 := hts (.fieldLink RX8 21 "ToneSets$Smooth" "sets" "[I") (List.mem_of_getElem? (i := 2) rfl)
  have k3 := hts (.fieldLink RX8 25 "ToneSets$Smooth" "links" "[I") (List.mem_of_getElem? (i := 3) rfl)
  have uX8 := uX8_X8_takeUp
  unfold m_Smooth_takeUp at hm
  refine lv_iload_n hx hb dX8_takeUp_0 rfl (lv_at hl 1 rfl) ?_
  refine lv_bipush (v := 15) hx hb dX8_takeUp_1 (by decide) ?_
  refine lv_iand hx hb dX8_takeUp_3 ?_
  refine lv_topi (fun v4_1 ev4_1 => ?_)
  replace hm := lt_go ev4_1 hm
  refine lv_istore (lv' := [(4, .int v4_1), (0, .ref h_t), (1, .int a1), (2, .int a2), (3, .int a3)]) hx hb dX8_takeUp_4 hl (by decide) rfl (fun ls hl => ?_)
  refine lv_aload_n hx hb dX8_takeUp_6 rfl (lv_at hl 1 rfl) ?_
  refine va_get (D := (dC, dI)) (ci := 7) (v := .ref h_t_heads) (C := RX8) (T := TX8) (N := 7) hx hb hts uX8 hown hK hP 0 rfl rfl 5 (by decide) k1 (fun _ h9 => h9) rfl dX8_takeUp_7 ?_
  refine lv_iload hx hb dX8_takeUp_10 (lv_at hl 0 rfl) ?_
  obtain ⟨b12, hm⟩ := ck_go hm
  refine va_iald hx hb hK hP 2 0 rfl rfl b12 dX8_takeUp_12 ?_
  refine lv_topi (fun v5_1 ev5_1 => ?_)
  replace hm := lt_go ev5_1 hm
  refine lv_istore (lv' := [(5, .int v5_1), (4, .int v4_1), (0, .ref h_t), (1, .int a1), (2, .int a2), (3, .int a3)]) hx hb dX8_takeUp_13 hl (by decide) rfl (fun ls hl => ?_)
  refine lv_aload_n hx hb dX8_takeUp_15 rfl (lv_at hl 2 rfl) ?_
  refine va_get (D := (dC, dI)) (ci := 7) (v := .ref h_t_heads) (C := RX8) (T := TX8) (N := 7) hx hb hts uX8 hown hK hP 0 rfl rfl 5 (by decide) k1 (fun _ h9 => h9) rfl dX8_takeUp_16 ?_
  refine lv_iload hx hb dX8_takeUp_19 (lv_at hl 1 rfl) ?_
  refine lv_iconst (v := (-1)) hx hb dX8_takeUp_21 (by decide) ?_
  obtain ⟨b22, hm⟩ := ck_go hm
  refine my_iast (W' := fun z' => [(h_t, .inr (7, [.int f_t_cost, .int f_t_next, .int f_t_met, .ref h_t_sets, .ref h_t_links, .ref h_t_heads, .ref h_t_seen])), (h_t_seen, .inr (5, [.ref h_t_seen_bits])), (h_t_heads, .inl (cA, 16, .inl z')), (h_t_links, .inl (cA, 924, .inl f_t_links)), (h_t_seen_bits, .inl (cA, 128, .inl f_t_seen_bits)), (h_t_sets, .inl (cA, 924, .inl f_t_sets))]) hx hb hK hP hD hS 2 0 rfl rfl b22 dX8_takeUp_22 (fun _ => rfl) (fun f_t_heads_1 ef_t_heads_1 H locs hP hD hS => ?_)
  replace hm := lt_go ef_t_heads_1 hm
  refine lv_iconst (v := 0) hx hb dX8_takeUp_23 (by decide) ?_
  refine lv_topi (fun v6_1 ev6_1 => ?_)
  replace hm := lt_go ev6_1 hm
  refine lv_istore (lv' := [(6, .int v6_1), (5, .int v5_1), (4, .int v4_1), (0, .ref h_t), (1, .int a1), (2, .int a2), (3, .int a3)]) hx hb dX8_takeUp_24 hl (by decide) rfl (fun ls hl => ?_)
  have L26 : ∀ (n : Nat) (v5_2 : Int32) (v6_2 : Int32) (f_t_cost_1 : Int32) (f_t_heads_2 : Nat → Int32) (f_t_links_1 : Nat → Int32) (f_t_met_1 : Int32) (f_t_next_1 : Int32) (f_t_seen_bits_1 : Nat → Int32) (f_t_sets_1 : Nat → Int32) (f_t_cost_2 : Int32) (f_t_heads_3 : Nat → Int32) (f_t_links_2 : Nat → Int32) (f_t_met_2 : Int32) (f_t_next_2 : Int32) (f_t_seen_bits_2 : Nat → Int32) (f_t_sets_2 : Nat → Int32), m_Smooth_takeUp_L26 fu a1 a2 a3 n v5_2 v6_2 f_t_cost_1 f_t_heads_2 f_t_links_1 f_t_met_1 f_t_next_1 f_t_seen_bits_1 f_t_sets_1 = some (f_t_cost_2, f_t_heads_3, f_t_links_2, f_t_met_2, f_t_next_2, f_t_seen_bits_2, f_t_sets_2) → ∀ (H : Heap) (locs : List Loc), va_P (dC, dI) vwCl [(h_t, .inr (7, [.int f_t_cost_1, .int f_t_next_1, .int f_t_met_1, .ref h_t_sets, .ref h_t_links, .ref h_t_heads, .ref h_t_seen])), (h_t_seen, .inr (5, [.ref h_t_seen_bits])), (h_t_heads, .inl (cA, 16, .inl f_t_heads_2)), (h_t_links, .inl (cA, 924, .inl f_t_links_1)), (h_t_seen_bits, .inl (cA, 128, .inl f_t_seen_bits_1)), (h_t_sets, .inl (cA, 924, .inl f_t_sets_1))] H → va_D A [(h_t, .inr (7, [.int f_t_cost_1, .int f_t_next_1, .int f_t_met_1, .ref h_t_sets, .ref h_t_links, .ref h_t_heads, .ref h_t_seen])), (h_t_seen, .inr (5, [.ref h_t_seen_bits])), (h_t_heads, .inl (cA, 16, .inl f_t_heads_2)), (h_t_links, .inl (cA, 924, .inl f_t_links_1)), (h_t_seen_bits, .inl (cA, 128, .inl f_t_seen_bits_1)), (h_t_sets, .inl (cA, 924, .inl f_t_sets_1))] → va_S A s.heap H locs → ∀ ls : Array Slot, lv_has ls 7 [(0, .ref h_t), (1, .int a1), (2, .int a2), (3, .int a3), (5, .int v5_2), (6, .int v6_2)] → (∀ (H : Heap) (locs : List Loc), va_P (dC, dI) vwCl [(h_t, .inr (7, [.int f_t_cost_2, .int f_t_next_2, .int f_t_met_2, .ref h_t_sets, .ref h_t_links, .ref h_t_heads, .ref h_t_seen])), (h_t_seen, .inr (5, [.ref h_t_seen_bits])), (h_t_heads, .inl (cA, 16, .inl f_t_heads_3)), (h_t_links, .inl (cA, 924, .inl f_t_links_2)), (h_t_seen_bits, .inl (cA, 128, .inl f_t_seen_bits_2)), (h_t_sets, .inl (cA, 924, .inl f_t_sets_2))] H → va_D A [(h_t, .inr (7, [.int f_t_cost_2, .int f_t_next_2, .int f_t_met_2, .ref h_t_sets, .ref h_t_links, .ref h_t_heads, .ref h_t_seen])), (h_t_seen, .inr (5, [.ref h_t_seen_bits])), (h_t_heads, .inl (cA, 16, .inl f_t_heads_3)), (h_t_links, .inl (cA, 924, .inl f_t_links_2)), (h_t_seen_bits, .inl (cA, 128, .inl f_t_seen_bits_2)), (h_t_sets, .inl (cA, 924, .inl f_t_sets_2))] → va_S A s.heap H locs → ∀ ls : Array Slot, lv_has ls 7 [] → W p l e (headSpec wsX8_takeUp rmX8_takeUp).room s m (([.ref h_t, .int a1, .int a2, .int a3] : List Value).toArray) below meth c H locs 0 0 Q (F0 m 76 ls [])) → W p l e (headSpec wsX8_takeUp rmX8_takeUp).room s m (([.ref h_t, .int a1, .int a2, .int a3] : List Value).toArray) below meth c H locs 0 0 Q (F0 m 26 ls []) := by
    clear hm hP hD hS hl
    intro n
    induction n with
    | zero => intro _ _ _ _ _ _ _ _ _ _ _ _ _ _ _ _ hm; exact nomatch (show none = some _ from hm)
    | succ n ih =>
      intro v5_2 v6_2 f_t_cost_1 f_t_heads_2 f_t_links_1 f_t_met_1 f_t_next_1 f_t_seen_bits_1 f_t_sets_1 f_t_cost_2 f_t_heads_3 f_t_links_2 f_t_met_2 f_t_next_2 f_t_seen_bits_2 f_t_sets_2 hm H locs hP hD hS ls hl KK
      unfold m_Smooth_takeUp_L26 at hm
      refine lv_iload hx hb dX8_takeUp_26 (lv_at hl 5 rfl) ?_
      refine lv_sipush (v := 924) hx hb dX8_takeUp_28 (by decide) ?_
      refine lv_icmp_ge (tgt := 76) hx hb dX8_takeUp_31 (by decide) (fun c31 => ?_) (fun c31 => ?_)
      · replace hm := if_t c31 hm
        cases hm
        exact KK _ _ hP hD hS _ (lv_sub hl [] rfl)
      · replace hm := if_f c31 hm
        refine lv_iload hx hb dX8_takeUp_34 (lv_at hl 4 rfl) ?_
        refine lv_if_lt (tgt := 76) hx hb dX8_takeUp_36 (by decide) (fun c36 => ?_) (fun c36 => ?_)
        · replace hm := if_t c36 hm
          cases hm
          exact KK _ _ hP hD hS _ (lv_sub hl [] rfl)
        · replace hm := if_f c36 hm
          refine lv_iload hx hb dX8_takeUp_39 (lv_at hl 4 rfl) ?_
          refine lv_sipush (v := 924) hx hb dX8_takeUp_41 (by decide) ?_
          refine lv_icmp_ge (tgt := 76) hx hb dX8_takeUp_44 (by decide) (fun c44 => ?_) (fun c44 => ?_)
          · replace hm := if_t c44 hm
            cases hm
            exact KK _ _ hP hD hS _ (lv_sub hl [] rfl)
          · replace hm := if_f c44 hm
            refine lv_aload_n hx hb dX8_takeUp_47 rfl (lv_at hl 0 rfl) ?_
            refine lv_aload_n hx hb dX8_takeUp_48 rfl (lv_at hl 0 rfl) ?_
            refine va_get (D := (dC, dI)) (ci := 7) (v := .ref h_t_sets) (C := RX8) (T := TX8) (N := 7) hx hb hts uX8 hown hK hP 0 rfl rfl 3 (by decide) k2 (fun _ h9 => h9) rfl dX8_takeUp_49 ?_
            refine lv_iload hx hb dX8_takeUp_52 (lv_at hl 4 rfl) ?_
            obtain ⟨b54, hm⟩ := ck_go hm
            refine va_iald hx hb hK hP 5 0 rfl rfl b54 dX8_takeUp_54 ?_
            refine lv_iload_n hx hb dX8_takeUp_55 rfl (lv_at hl 1 rfl) ?_
            refine lv_iload_n hx hb dX8_takeUp_56 rfl (lv_at hl 2 rfl) ?_
            refine lv_iload_n hx hb dX8_takeUp_57 rfl (lv_at hl 3 rfl) ?_
            obtain ⟨f_t_cost_3, f_t_heads_4, f_t_links_3, f_t_met_3, f_t_next_3, f_t_seen_bits_3, f_t_sets_3, hc58, hm⟩ := bd7_go hm
            refine my_cVv (As := [.int (f_t_sets_1 v5_2.toNatClampNeg), .int a1, .int a2, .int a3]) (rest := []) (WC := [(h_t, .inr (7, [.int f_t_cost_1, .int f_t_next_1, .int f_t_met_1, .ref h_t_sets, .ref h_t_links, .ref h_t_heads, .ref h_t_seen])), (h_t_seen, .inr (5, [.ref h_t_seen_bits])), (h_t_heads, .inl (cA, 16, .inl f_t_heads_2)), (h_t_links, .inl (cA, 924, .inl f_t_links_1)), (h_t_seen_bits, .inl (cA, 128, .inl f_t_seen_bits_1)), (h_t_sets, .inl (cA, 924, .inl f_t_sets_1))]) (WC' := [(h_t, .inr (7, [.int f_t_cost_3, .int f_t_next_3, .int f_t_met_3, .ref h_t_sets, .ref h_t_links, .ref h_t_heads, .ref h_t_seen])), (h_t_seen, .inr (5, [.ref h_t_seen_bits])), (h_t_heads, .inl (cA, 16, .inl f_t_heads_4)), (h_t_links, .inl (cA, 924, .inl f_t_links_3)), (h_t_seen_bits, .inl (cA, 128, .inl f_t_seen_bits_3)), (h_t_sets, .inl (cA, 924, .inl f_t_sets_3))]) (WR := []) (W' := [(h_t, .inr (7, [.int f_t_cost_3, .int f_t_next_3, .int f_t_met_3, .ref h_t_sets, .ref h_t_links, .ref h_t_heads, .ref h_t_seen])), (h_t_seen, .inr (5, [.ref h_t_seen_bits])), (h_t_heads, .inl (cA, 16, .inl f_t_heads_4)), (h_t_links, .inl (cA, 924, .inl f_t_links_3)), (h_t_seen_bits, .inl (cA, 128, .inl f_t_seen_bits_3)), (h_t_sets, .inl (cA, 924, .inl f_t_sets_3))]) ⟨hx, hb, hml, hown, hts⟩ hK hP hD hS hA (c_Smooth_spread l dC dI cA fu h_t h_t_seen h_t_sets h_t_links h_t_heads h_t_seen_bits f_t_cost_1 f_t_next_1 f_t_met_1 f_t_heads_2 f_t_links_1 f_t_seen_bits_1 f_t_sets_1 (f_t_sets_1 v5_2.toNatClampNeg) a1 a2 a3 f_t_cost_3 f_t_heads_4 f_t_links_3 f_t_met_3 f_t_next_3 f_t_seen_bits_3 f_t_sets_3 hc58) (cwV 4 hts gX8_takeUp_X8_spread rfl rfl rfl (by decide +kernel) ⟨Nat.le_of_ble_eq_true rfl, Nat.le_of_ble_eq_true rfl⟩) [0, 1, 2, 3, 4, 5] [] [0, 1, 2, 3, 4, 5] rfl rfl rfl rfl (ci := 7) (q0 := 0) rfl rfl rfl rfl hl.1 (Nat.le_of_ble_eq_true rfl) dX8_takeUp_58 ⟨Nat.zero_le _, Nat.zero_le _⟩ (fun H locs hP hD hS => ?_)
            refine lv_aload_n hx hb dX8_takeUp_61 rfl (lv_at hl 0 rfl) ?_
            refine va_get (D := (dC, dI)) (ci := 7) (v := .ref h_t_links) (C := RX8) (T := TX8) (N := 7) hx hb hts uX8 hown hK hP 0 rfl rfl 4 (by decide) k3 (fun _ h9 => h9) rfl dX8_takeUp_62 ?_
            refine lv_iload hx hb dX8_takeUp_65 (lv_at hl 4 rfl) ?_
            obtain ⟨b67, hm⟩ := ck_go hm
            refine va_iald hx hb hK hP 3 0 rfl rfl b67 dX8_takeUp_67 ?_
            refine lv_topi (fun v5_3 ev5_3 => ?_)
            replace hm := lt_go ev5_3 hm
            refine lv_istore (lv' := [(5, .int v5_3), (0, .ref h_t), (1, .int a1), (2, .int a2), (3, .int a3), (6, .int v6_2)]) hx hb dX8_takeUp_68 hl (by decide) rfl (fun ls hl => ?_)
            obtain ⟨v6_3, ev6_3⟩ : ∃ z : Int32, z = v6_2 + 1 := ⟨_, rfl⟩
            replace hm := lt_go ev6_3 hm
            refine lv_iinc (v := v6_3) (lv' := [(6, .int v6_3), (5, .int v5_3), (0, .ref h_t), (1, .int a1), (2, .int a2), (3, .int a3)]) hx hb dX8_takeUp_70 hl (k := 5) rfl (by rw [ev6_3]; rfl) (by decide) rfl (fun ls hl => ?_)
            refine lv_goto (tgt := 26) hx hb dX8_takeUp_73 (by decide) ?_
            exact ih _ _ _ _ _ _ _ _ _ _ _ _ _ _ _ _ hm _ _ hP hD hS _ (lv_sub hl [2, 3, 4, 5, 1, 0] rfl) KK
  obtain ⟨f_t_cost_4, f_t_heads_5, f_t_links_4, f_t_met_4, f_t_next_4, f_t_seen_bits_4, f_t_sets_4, hl26, hm⟩ := bd7_go hm
  refine L26 _ _ _ _ _ _ _ _ _ _ _ _ _ _ _ _ _ hl26 _ _ hP hD hS _ (lv_sub hl [3, 4, 5, 6, 1, 0] rfl) (fun H locs hP hD hS ls hl => ?_)
  cases hm
  exact W_mono hQ (W.vret hx hb hr (fun t ht hW => ⟨⟨(), rfl, trivial, by rw [ht]; exact hP, va_K.moved hW.alike hK, hD⟩, hS.F ht⟩) hS.2.2 dX8_takeUp_76)
