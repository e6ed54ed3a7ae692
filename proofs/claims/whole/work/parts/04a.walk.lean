abbrev rmJ6_bitCount_0f7a4 : Room := { frames := 0, cells := 0, slots := 0, locals := 0 }
set_option maxHeartbeats 40000000 in
set_option maxRecDepth 100000 in
theorem c_Ji_bitCount (l : Launch) (dC : Nat → ClassId) (dI : Nat → Nat → Nat) (cA : ClassId) (a0 : Int32) (r0 : Int32) (hm : m_Ji_bitCount a0 = some r0) (sz : Nat) : Met l yJ6_bitCount_0f7a4 wsJ6_bitCount_0f7a4 rmJ6_bitCount_0f7a4 (mPre (dC, dI) cA [.int a0] sz []) (mPosI (dC, dI) cA r0 (va_A [] sz) []) 0 0 (va_A [] sz) := by
  refine Met.ofW (cc := cJ6_bitCount_0f7a4) (maxL := 1) (ret := (some .int)) (by decide) rfl ?_
  intro p e s m args below meth c s₁ B hml hv
  obtain ⟨rfl, hsz, hP, hK, hD0⟩ := hv
  refine W_gen (fun Q hQ => ?_)
  have hx := B.exec
  have hb := B.bytes
  have hr := B.returns
  have hts := atoms_spec (ws := wsJ6_bitCount_0f7a4) B.pre
  have hown : s.vm.findClass RJ6 = some m.cls := findClass_of_methodNamed B.named
  have hlocks := B.notSynchronized
  subst hsz
  have hD := hD0.self (sz := s.heap.size)
  clear hD0
  generalize hAe : va_A [] s.heap.size = A at hD hQ
  have hA : ∀ q : Nat, s.heap.size ≤ q → A q := fun q h => by rw [← hAe]; exact Or.inr h
  clear hAe
  have hS : va_S A s.heap s.heap [] := va_S.rf
  have hl := lv_entry ([.int a0]) (n := 1) (Nat.le_of_ble_eq_true rfl)
  rw [lg_entry_eq]
  generalize (lg_sl ([.int a0]) ++ List.replicate (1 - (lg_sl ([.int a0])).length) Slot.unset).toArray = ls at hl ⊢
  have hl : lv_has ls 1 [(0, .int a0)] := hl
  have k1 := hts (.constant RJ6 265 (1431655765)) (List.mem_of_getElem? (i := 1) rfl)
  have k2 := hts (.constant RJ6 266 (858993459)) (List.mem_of_getElem? (i := 2) rfl)
  have k3 := hts (.constant RJ6 267 (252645135)) (List.mem_of_getElem? (i := 3) rfl)
  unfold m_Ji_bitCount at hm
  refine lv_iload_n hx hb dJ6_bitCount_0f7a4_0 rfl (lv_at hl 0 rfl) ?_
  refine lv_iload_n hx hb dJ6_bitCount_0f7a4_1 rfl (lv_at hl 0 rfl) ?_
  refine lv_iconst (v := 1) hx hb dJ6_bitCount_0f7a4_2 (by decide) ?_
  refine lv_iushr (v := ushr a0 1) hx hb dJ6_bitCount_0f7a4_3 rfl ?_
  refine lv_ldcw (v := 1431655765) hx hb hown k1 dJ6_bitCount_0f7a4_4 ?_
  refine lv_iand hx hb dJ6_bitCount_0f7a4_7 ?_
  refine lv_isub hx hb dJ6_bitCount_0f7a4_8 ?_
  refine lv_topi (fun v0_1 ev0_1 => ?_)
  replace hm := lt_go ev0_1 hm
  refine lv_istore_n (lv' := [(0, .int v0_1)]) hx hb dJ6_bitCount_0f7a4_9 rfl hl (by decide) rfl (fun ls hl => ?_)
  refine lv_iload_n hx hb dJ6_bitCount_0f7a4_10 rfl (lv_at hl 0 rfl) ?_
  refine lv_ldcw (v := 858993459) hx hb hown k2 dJ6_bitCount_0f7a4_11 ?_
  refine lv_iand hx hb dJ6_bitCount_0f7a4_14 ?_
  refine lv_iload_n hx hb dJ6_bitCount_0f7a4_15 rfl (lv_at hl 0 rfl) ?_
  refine lv_iconst (v := 2) hx hb dJ6_bitCount_0f7a4_16 (by decide) ?_
  refine lv_iushr (v := ushr v0_1 2) hx hb dJ6_bitCount_0f7a4_17 rfl ?_
  refine lv_ldcw (v := 858993459) hx hb hown k2 dJ6_bitCount_0f7a4_18 ?_
  refine lv_iand hx hb dJ6_bitCount_0f7a4_21 ?_
  refine lv_iadd hx hb dJ6_bitCount_0f7a4_22 ?_
  refine lv_topi (fun v0_2 ev0_2 => ?_)
  replace hm := lt_go ev0_2 hm
  refine lv_istore_n (lv' := [(0, .int v0_2)]) hx hb dJ6_bitCount_0f7a4_23 rfl hl (by decide) rfl (fun ls hl => ?_)
  refine lv_iload_n hx hb dJ6_bitCount_0f7a4_24 rfl (lv_at hl 0 rfl) ?_
  refine lv_iload_n hx hb dJ6_bitCount_0f7a4_25 rfl (lv_at hl 0 rfl) ?_
  refine lv_iconst (v := 4) hx hb dJ6_bitCount_0f7a4_26 (by decide) ?_
  refine lv_iushr (v := ushr v0_2 4) hx hb dJ6_bitCount_0f7a4_27 rfl ?_
  refine lv_iadd hx hb dJ6_bitCount_0f7a4_28 ?_
  refine lv_ldcw (v := 252645135) hx hb hown k3 dJ6_bitCount_0f7a4_29 ?_
  refine lv_iand hx hb dJ6_bitCount_0f7a4_32 ?_
  refine lv_topi (fun v0_3 ev0_3 => ?_)
  replace hm := lt_go ev0_3 hm
  refine lv_istore_n (lv' := [(0, .int v0_3)]) hx hb dJ6_bitCount_0f7a4_33 rfl hl (by decide) rfl (fun ls hl => ?_)
  refine lv_iload_n hx hb dJ6_bitCount_0f7a4_34 rfl (lv_at hl 0 rfl) ?_
  refine lv_iload_n hx hb dJ6_bitCount_0f7a4_35 rfl (lv_at hl 0 rfl) ?_
  refine lv_bipush (v := 8) hx hb dJ6_bitCount_0f7a4_36 (by decide) ?_
  refine lv_iushr (v := ushr v0_3 8) hx hb dJ6_bitCount_0f7a4_38 rfl ?_
  refine lv_iadd hx hb dJ6_bitCount_0f7a4_39 ?_
  refine lv_topi (fun v0_4 ev0_4 => ?_)
  replace hm := lt_go ev0_4 hm
  refine lv_istore_n (lv' := [(0, .int v0_4)]) hx hb dJ6_bitCount_0f7a4_40 rfl hl (by decide) rfl (fun ls hl => ?_)
  refine lv_iload_n hx hb dJ6_bitCount_0f7a4_41 rfl (lv_at hl 0 rfl) ?_
  refine lv_iload_n hx hb dJ6_bitCount_0f7a4_42 rfl (lv_at hl 0 rfl) ?_
  refine lv_bipush (v := 16) hx hb dJ6_bitCount_0f7a4_43 (by decide) ?_
  refine lv_iushr (v := ushr v0_4 16) hx hb dJ6_bitCount_0f7a4_45 rfl ?_
  refine lv_iadd hx hb dJ6_bitCount_0f7a4_46 ?_
  refine lv_topi (fun v0_5 ev0_5 => ?_)
  replace hm := lt_go ev0_5 hm
  refine lv_istore_n (lv' := [(0, .int v0_5)]) hx hb dJ6_bitCount_0f7a4_47 rfl hl (by decide) rfl (fun ls hl => ?_)
  refine lv_iload_n hx hb dJ6_bitCount_0f7a4_48 rfl (lv_at hl 0 rfl) ?_
  refine lv_bipush (v := 63) hx hb dJ6_bitCount_0f7a4_49 (by decide) ?_
  refine lv_iand hx hb dJ6_bitCount_0f7a4_51 ?_
  cases hm
  exact W_mono hQ (W.iret hx hb hr (fun t ht hW => ⟨⟨_, (), rfl, rfl, by rw [ht]; exact hP, va_K.moved hW.alike hK, hD⟩, hS.F ht⟩) hS.2.2 dJ6_bitCount_0f7a4_52)
abbrev rmJ7_fill_53178 : Room := { frames := 0, cells := 0, slots := 0, locals := 0 }
set_option maxHeartbeats 40000000 in
set_option maxRecDepth 100000 in
theorem c_Ja_fill (l : Launch) (dC : Nat → ClassId) (dI : Nat → Nat → Nat) (cA : ClassId) (fu : Nat) (h_p0 : Nat) (n_p0 : Nat) (f_p0 : Nat → Int32) (a1 : Int32) (f_p0_z : Nat → Int32) (hm : m_Ja_fill fu n_p0 f_p0 a1 = some f_p0_z) (sz : Nat) : Met l yJ7_fill_53178 wsJ7_fill_53178 rmJ7_fill_53178 (mPre (dC, dI) cA [.ref h_p0, .int a1] sz [(h_p0, .inl (cA, n_p0, .inl f_p0))]) (mPosV (dC, dI) cA (va_A [(h_p0, .inl (cA, n_p0, .inl f_p0))] sz) [(h_p0, .inl (cA, n_p0, .inl f_p0_z))]) 0 0 (va_A [(h_p0, .inl (cA, n_p0, .inl f_p0))] sz) := by
  refine Met.ofW (cc := cJ7_fill_53178) (maxL := 4) (ret := none) (by decide) rfl ?_
  intro p e s m args below meth c s₁ B hml hv
  obtain ⟨rfl, hsz, hP, hK, hD0⟩ := hv
  refine W_gen (fun Q hQ => ?_)
  have hx := B.exec
  have hb := B.bytes
  have hr := B.returns
  have hts := atoms_spec (ws := wsJ7_fill_53178) B.pre
  have hown : s.vm.findClass RJ7 = some m.cls := findClass_of_methodNamed B.named
  have hlocks := B.notSynchronized
  subst hsz
  have hD := hD0.self (sz := s.heap.size)
  clear hD0
  generalize hAe : va_A [(h_p0, .inl (cA, n_p0, .inl f_p0))] s.heap.size = A at hD hQ
  have hA : ∀ q : Nat, s.heap.size ≤ q → A q := fun q h => by rw [← hAe]; exact Or.inr h
  clear hAe
  have hS : va_S A s.heap s.heap [] := va_S.rf
  have hl := lv_entry ([.ref h_p0, .int a1]) (n := 4) (Nat.le_of_ble_eq_true rfl)
  rw [lg_entry_eq]
  generalize (lg_sl ([.ref h_p0, .int a1]) ++ List.replicate (4 - (lg_sl ([.ref h_p0, .int a1])).length) Slot.unset).toArray = ls at hl ⊢
  have hl : lv_has ls 4 [(0, .ref h_p0), (1, .int a1)] := hl
  unfold m_Ja_fill at hm
  refine lv_iconst (v := 0) hx hb dJ7_fill_53178_0 (by decide) ?_
  refine lv_topi (fun v2_1 ev2_1 => ?_)
  replace hm := lt_go ev2_1 hm
  refine lv_istore_n (lv' := [(2, .int v2_1), (0, .ref h_p0), (1, .int a1)]) hx hb dJ7_fill_53178_1 rfl hl (by decide) rfl (fun ls hl => ?_)
  refine lv_aload_n hx hb dJ7_fill_53178_2 rfl (lv_at hl 1 rfl) ?_
  refine va_alen (v := nI n_p0) hx hb hK hP 0 0 rfl rfl rfl dJ7_fill_53178_3 ?_
  refine lv_topi (fun v3_1 ev3_1 => ?_)
  replace hm := lt_go ev3_1 hm
  refine lv_istore_n (lv' := [(3, .int v3_1), (2, .int v2_1), (0, .ref h_p0), (1, .int a1)]) hx hb dJ7_fill_53178_4 rfl hl (by decide) rfl (fun ls hl => ?_)
  have L5 : ∀ (n : Nat) (v2_2 : Int32) (f_p0_1 : Nat → Int32) (f_p0_2 : Nat → Int32), m_Ja_fill_L5 v3_1 n_p0 a1 n v2_2 f_p0_1 = some f_p0_2 → ∀ (H : Heap) (locs : List Loc), va_P (dC, dI) vwCl [(h_p0, .inl (cA, n_p0, .inl f_p0_1))] H → va_D A [(h_p0, .inl (cA, n_p0, .inl f_p0_1))] → va_S A s.heap H locs → ∀ ls : Array Slot, lv_has ls 4 [(0, .ref h_p0), (1, .int a1), (2, .int v2_2), (3, .int v3_1)] → (∀ (H : Heap) (locs : List Loc), va_P (dC, dI) vwCl [(h_p0, .inl (cA, n_p0, .inl f_p0_2))] H → va_D A [(h_p0, .inl (cA, n_p0, .inl f_p0_2))] → va_S A s.heap H locs → ∀ ls : Array Slot, lv_has ls 4 [] → W p l e (headSpec wsJ7_fill_53178 rmJ7_fill_53178).room s m (([.ref h_p0, .int a1] : List Value).toArray) below meth c H locs 0 0 Q (F0 m 20 ls [])) → W p l e (headSpec wsJ7_fill_53178 rmJ7_fill_53178).room s m (([.ref h_p0, .int a1] : List Value).toArray) below meth c H locs 0 0 Q (F0 m 5 ls []) := by
    clear hm hP hD hS hl
    intro n
    induction n with
    | zero => intro _ _ _ hm; exact nomatch (show none = some _ from hm)
    | succ n ih =>
      intro v2_2 f_p0_1 f_p0_2 hm H locs hP hD hS ls hl KK
      unfold m_Ja_fill_L5 at hm
      refine lv_iload_n hx hb dJ7_fill_53178_5 rfl (lv_at hl 2 rfl) ?_
      refine lv_iload_n hx hb dJ7_fill_53178_6 rfl (lv_at hl 3 rfl) ?_
      refine lv_icmp_ge (tgt := 20) hx hb dJ7_fill_53178_7 (by decide) (fun c7 => ?_) (fun c7 => ?_)
      · replace hm := if_t c7 hm
        cases hm
        exact KK _ _ hP hD hS _ (lv_sub hl [] rfl)
      · replace hm := if_f c7 hm
        refine lv_aload_n hx hb dJ7_fill_53178_10 rfl (lv_at hl 0 rfl) ?_
        refine lv_iload_n hx hb dJ7_fill_53178_11 rfl (lv_at hl 2 rfl) ?_
        refine lv_iload_n hx hb dJ7_fill_53178_12 rfl (lv_at hl 1 rfl) ?_
        obtain ⟨b13, hm⟩ := ck_go hm
        refine my_iast (W' := fun z' => [(h_p0, .inl (cA, n_p0, .inl z'))]) hx hb hK hP hD hS 0 0 rfl rfl b13 dJ7_fill_53178_13 (fun _ => rfl) (fun f_p0_3 ef_p0_3 H locs hP hD hS => ?_)
        replace hm := lt_go ef_p0_3 hm
        obtain ⟨v2_3, ev2_3⟩ : ∃ z : Int32, z = v2_2 + 1 := ⟨_, rfl⟩
        replace hm := lt_go ev2_3 hm
        refine lv_iinc (v := v2_3) (lv' := [(2, .int v2_3), (0, .ref h_p0), (1, .int a1), (3, .int v3_1)]) hx hb dJ7_fill_53178_14 hl (k := 2) rfl (by rw [ev2_3]; rfl) (by decide) rfl (fun ls hl => ?_)
        refine lv_goto (tgt := 5) hx hb dJ7_fill_53178_17 (by decide) ?_
        exact ih _ _ _ hm _ _ hP hD hS _ (lv_sub hl [1, 2, 0, 3] rfl) KK
  obtain ⟨f_p0_4, hl5, hm⟩ := bd1_go hm
  refine L5 _ _ _ _ hl5 _ _ hP hD hS _ (lv_sub hl [2, 3, 1, 0] rfl) (fun H locs hP hD hS ls hl => ?_)
  cases hm
  exact W_mono hQ (W.vret hx hb hr (fun t ht hW => ⟨⟨(), rfl, trivial, by rw [ht]; exact hP, va_K.moved hW.alike hK, hD⟩, hS.F ht⟩) hS.2.2 dJ7_fill_53178_20)
abbrev rmX0_hasRoom : Room := { frames := 0, cells := 0, slots := 0, locals := 0 }
theorem uX0_X0_hasRoom : ∀ w ∈ wsX00, w ∈ wsX0_hasRoom := fun _ h => List.mem_cons_of_mem _ (List.mem_append_right _ (h))
set_option maxHeartbeats 40000000 in
set_option maxRecDepth 100000 in
theorem c_Book_hasRoom (l : Launch) (dC : Nat → ClassId) (dI : Nat → Nat → Nat) (cA : ClassId) (h_t h_t_goals h_t_lengths : Nat) (f_t_entries : Int32) (r0 : Int32) (hm : m_Book_hasRoom f_t_entries = some r0) (sz : Nat) : Met l yX0_hasRoom wsX0_hasRoom rmX0_hasRoom (mPre (dC, dI) cA [.ref h_t] sz [(h_t, .inr (0, [.int f_t_entries, .ref h_t_goals, .ref h_t_lengths]))]) (mPosI (dC, dI) cA r0 (va_A [(h_t, .inr (0, [.int f_t_entries, .ref h_t_goals, .ref h_t_lengths]))] sz) [(h_t, .inr (0, [.int f_t_entries, .ref h_t_goals, .ref h_t_lengths]))]) 0 0 (va_A [(h_t, .inr (0, [.int f_t_entries, .ref h_t_goals, .ref h_t_lengths]))] sz) := by
  refine Met.ofW (cc := cX0_hasRoom) (maxL := 1) (ret := (some .boolean)) (by decide) rfl ?_
  intro p e s m args below meth c s₁ B hml hv
  obtain ⟨rfl, hsz, hP, hK, hD0⟩ := hv
  refine W_gen (fun Q hQ => ?_)
  have hx := B.exec
  have hb := B.bytes
  have hr := B.returns
  have hts := atoms_spec (ws := wsX0_hasRoom) B.pre
  have hown : s.vm.findClass RX0 = some m.cls := findClass_of_methodNamed B.named
  have hlocks := B.notSynchronized
  subst hsz
  have hD := hD0.self (sz := s.heap.size)
  clear hD0
  generalize hAe : va_A [(h_t, .inr (0, [.int f_t_entries, .ref h_t_goals, .ref h_t_lengths]))] s.heap.size = A at hD hQ
  have hA : ∀ q : Nat, s.heap.size ≤ q → A q := fun q h => by rw [← hAe]; exact Or.inr h
  clear hAe
  have hS : va_S A s.heap s.heap [] := va_S.rf
  have hl := lv_entry ([.ref h_t]) (n := 1) (Nat.le_of_ble_eq_true rfl)
  rw [lg_entry_eq]
  generalize (lg_sl ([.ref h_t]) ++ List.replicate (1 - (lg_sl ([.ref h_t])).length) Slot.unset).toArray = ls at hl ⊢
  have hl : lv_has ls 1 [(0, .ref h_t)] := hl
  have k1 := hts (.fieldLink RX0 9 "ToneSets$Book" "entries" "I") (List.mem_of_getElem? (i := 1) rfl)
  have uX0 := uX0_X0_hasRoom
  unfold m_Book_hasRoom at hm
  refine lv_aload_n hx hb dX0_hasRoom_0 rfl (lv_at hl 0 rfl) ?_
  refine va_get (D := (dC, dI)) (ci := 0) (v := .int f_t_entries) (C := RX0) (T := TX0) (N := 3) hx hb hts uX0 hown hK hP 0 rfl rfl 0 (by decide) k1 (fun _ h9 => h9) rfl dX0_hasRoom_1 ?_
  refine lv_bipush (v := 20) hx hb dX0_hasRoom_4 (by decide) ?_
  refine lv_icmp_ge (tgt := 13) hx hb dX0_hasRoom_6 (by decide) (fun c6 => ?_) (fun c6 => ?_)
  · replace hm := if_t c6 hm
    refine lv_iconst (v := 0) hx hb dX0_hasRoom_13 (by decide) ?_
    cases hm
    exact W_mono hQ (W.zret hx hb hr rfl (fun t ht hW => ⟨⟨_, (), rfl, rfl, by rw [ht]; exact hP, va_K.moved hW.alike hK, hD⟩, hS.F ht⟩) hS.2.2 dX0_hasRoom_14)
  · replace hm := if_f c6 hm
    refine lv_iconst (v := 1) hx hb dX0_hasRoom_9 (by decide) ?_
    refine lv_goto (tgt := 14) hx hb dX0_hasRoom_10 (by decide) ?_
    cases hm
    exact W_mono hQ (W.zret hx hb hr rfl (fun t ht hW => ⟨⟨_, (), rfl, rfl, by rw [ht]; exact hP, va_K.moved hW.alike hK, hD⟩, hS.F ht⟩) hS.2.2 dX0_hasRoom_14)
abbrev rmX0_append : Room := { frames := 1, cells := 0, slots := 0, locals := 20 }
theorem uX0_X0_append : ∀ w ∈ wsX00, w ∈ wsX0_append := fun _ h => List.mem_cons_of_mem _ (List.mem_append_right _ (h))
set_option maxHeartbeats 40000000 in
set_option maxRecDepth 100000 in
theorem c_Book_append (l : Launch) (dC : Nat → ClassId) (dI : Nat → Nat → Nat) (cA : ClassId) (h_t h_t_goals h_t_lengths : Nat) (f_t_entries : Int32) (f_t_goals : Nat → Int32) (f_t_lengths : Nat → Int32) (a1 : Int32) (a2 : Int32) (f_t_entries_z : Int32) (f_t_goals_z : Nat → Int32) (f_t_lengths_z : Nat → Int32) (hm : m_Book_append f_t_entries f_t_goals f_t_lengths a1 a2 = some (f_t_entries_z, f_t_goals_z, f_t_lengths_z)) (sz : Nat) : Met l yX0_append wsX0_append rmX0_append (mPre (dC, dI) cA [.ref h_t, .int a1, .int a2] sz [(h_t, .inr (0, [.int f_t_entries, .ref h_t_goals, .ref h_t_lengths])), (h_t_goals, .inl (cA, 20, .inl f_t_goals)), (h_t_lengths, .inl (cA, 20, .inl f_t_lengths))]) (mPosV (dC, dI) cA (va_A [(h_t, .inr (0, [.int f_t_entries, .ref h_t_goals, .ref h_t_lengths])), (h_t_goals, .inl (cA, 20, .inl f_t_goals)), (h_t_lengths, .inl (cA, 20, .inl f_t_lengths))] sz) [(h_t, .inr (0, [.int f_t_entries_z, .ref h_t_goals, .ref h_t_lengths])), (h_t_goals, .inl (cA, 20, .inl f_t_goals_z)), (h_t_lengths, .inl (cA, 20, .inl f_t_lengths_z))]) 0 0 (va_A [(h_t, .inr (0, [.int f_t_entries, .ref h_t_goals, .ref h_t_lengths])), (h_t_goals, .inl (cA, 20, .inl f_t_goals)), (h_t_lengths, .inl (cA, 20, .inl f_t_lengths))] sz) := by
  refine Met.ofW (cc := cX0_append) (maxL := 3) (ret := none) (by decide) rfl ?_
  intro p e s m args below meth c s₁ B hml hv
  obtain ⟨rfl, hsz, hP, hK, hD0⟩ := hv
  refine W_gen (fun Q hQ => ?_)
  have hx := B.exec
  have hb := B.bytes
  have hr := B.returns
  have hts := atoms_spec (ws := wsX0_append) B.pre
  have hown : s.vm.findClass RX0 = some m.cls := findClass_of_methodNamed B.named
  have hlocks := B.notSynchronized
  subst hsz
  have hD := hD0.self (sz := s.heap.size)
  clear hD0
  generalize hAe : va_A [(h_t, .inr (0, [.int f_t_entries, .ref h_t_goals, .ref h_t_lengths])), (h_t_goals, .inl (cA, 20, .inl f_t_goals)), (h_t_lengths, .inl (cA, 20, .inl f_t_lengths))] s.heap.size = A at hD hQ
  have hA : ∀ q : Nat, s.heap.size ≤ q → A q := fun q h => by rw [← hAe]; exact Or.inr h
  clear hAe
  have hS : va_S A s.heap s.heap [] := va_S.rf
  have hl := lv_entry ([.ref h_t, .int a1, .int a2]) (n := 3) (Nat.le_of_ble_eq_true rfl)
  rw [lg_entry_eq]
  generalize (lg_sl ([.ref h_t, .int a1, .int a2]) ++ List.replicate (3 - (lg_sl ([.ref h_t, .int a1, .int a2])).length) Slot.unset).toArray = ls at hl ⊢
  have hl : lv_has ls 3 [(0, .ref h_t), (1, .int a1), (2, .int a2)] := hl
  have k1 := hts (.fieldLink RX0 15 "ToneSets$Book" "goals" "[I") (List.mem_of_getElem? (i := 1) rfl)
  have k2 := hts (.fieldLink RX0 9 "ToneSets$Book" "entries" "I") (List.mem_of_getElem? (i := 2) rfl)
  have k3 := hts (.fieldLink RX0 19 "ToneSets$Book" "lengths" "[I") (List.mem_of_getElem? (i := 3) rfl)
  have uX0 := uX0_X0_append
  unfold m_Book_append at hm
  refine lv_aload_n hx hb dX0_append_0 rfl (lv_at hl 0 rfl) ?_
  obtain ⟨r_1, hc1, hm⟩ := bd1_go hm
  refine my_cVi (As := []) (rest := []) (WC := [(h_t, .inr (0, [.int f_t_entries, .ref h_t_goals, .ref h_t_lengths]))]) (WC' := [(h_t, .inr (0, [.int f_t_entries, .ref h_t_goals, .ref h_t_lengths]))]) (WR := [(h_t_goals, .inl (cA, 20, .inl f_t_goals)), (h_t_lengths, .inl (cA, 20, .inl f_t_lengths))]) (W' := [(h_t, .inr (0, [.int f_t_entries, .ref h_t_goals, .ref h_t_lengths])), (h_t_goals, .inl (cA, 20, .inl f_t_goals)), (h_t_lengths, .inl (cA, 20, .inl f_t_lengths))]) ⟨hx, hb, hml, hown, hts⟩ hK hP hD hS hA (c_Book_hasRoom l dC dI cA h_t h_t_goals h_t_lengths f_t_entries r_1 hc1) (cwV 0 hts gX0_append_X0_hasRoom rfl rfl rfl (by decide +kernel) ⟨Nat.le_of_ble_eq_true rfl, Nat.le_of_ble_eq_true rfl⟩) [0] [1, 2] [2, 0, 1] rfl rfl rfl rfl (ci := 0) (q0 := 0) rfl rfl rfl rfl hl.1 (Nat.le_of_ble_eq_true rfl) dX0_append_1 ⟨Nat.zero_le _, Nat.zero_le _⟩ (fun H locs hP hD hS => ?_)
  refine lv_if_eq (tgt := 37) hx hb dX0_append_4 (by decide) (fun c4 => ?_) (fun c4 => ?_)
  · replace hm := if_t c4 hm
    cases hm
    exact W_mono hQ (W.vret hx hb hr (fun t ht hW => ⟨⟨(), rfl, trivial, by rw [ht]; exact hP, va_K.moved hW.alike hK, hD⟩, hS.F ht⟩) hS.2.2 dX0_append_37)
  · replace hm := if_f c4 hm
    refine lv_aload_n hx hb dX0_append_7 rfl (lv_at hl 0 rfl) ?_
    refine va_get (D := (dC, dI)) (ci := 0) (v := .ref h_t_goals) (C := RX0) (T := TX0) (N := 3) hx hb hts uX0 hown hK hP 0 rfl rfl 1 (by decide) k1 (fun _ h9 => h9) rfl dX0_append_8 ?_
    refine lv_aload_n hx hb dX0_append_11 rfl (lv_at hl 0 rfl) ?_
    refine va_get (D := (dC, dI)) (ci := 0) (v := .int f_t_entries) (C := RX0) (T := TX0) (N := 3) hx hb hts uX0 hown hK hP 0 rfl rfl 0 (by decide) k2 (fun _ h9 => h9) rfl dX0_append_12 ?_
    refine lv_iload_n hx hb dX0_append_15 rfl (lv_at hl 1 rfl) ?_
    obtain ⟨b16, hm⟩ := ck_go hm
    refine my_iast (W' := fun z' => [(h_t, .inr (0, [.int f_t_entries, .ref h_t_goals, .ref h_t_lengths])), (h_t_goals, .inl (cA, 20, .inl z')), (h_t_lengths, .inl (cA, 20, .inl f_t_lengths))]) hx hb hK hP hD hS 1 0 rfl rfl b16 dX0_append_16 (fun _ => rfl) (fun f_t_goals_1 ef_t_goals_1 H locs hP hD hS => ?_)
    replace hm := lt_go ef_t_goals_1 hm
    refine lv_aload_n hx hb dX0_append_17 rfl (lv_at hl 0 rfl) ?_
    refine va_get (D := (dC, dI)) (ci := 0) (v := .ref h_t_lengths) (C := RX0) (T := TX0) (N := 3) hx hb hts uX0 hown hK hP 0 rfl rfl 2 (by decide) k3 (fun _ h9 => h9) rfl dX0_append_18 ?_
    refine lv_aload_n hx hb dX0_append_21 rfl (lv_at hl 0 rfl) ?_
    refine va_get (D := (dC, dI)) (ci := 0) (v := .int f_t_entries) (C := RX0) (T := TX0) (N := 3) hx hb hts uX0 hown hK hP 0 rfl rfl 0 (by decide) k2 (fun _ h9 => h9) rfl dX0_append_22 ?_
    refine lv_iload_n hx hb dX0_append_25 rfl (lv_at hl 2 rfl) ?_
    obtain ⟨b26, hm⟩ := ck_go hm
    refine my_iast (W' := fun z' => [(h_t, .inr (0, [.int f_t_entries, .ref h_t_goals, .ref h_t_lengths])), (h_t_goals, .inl (cA, 20, .inl f_t_goals_1)), (h_t_lengths, .inl (cA, 20, .inl z'))]) hx hb hK hP hD hS 2 0 rfl rfl b26 dX0_append_26 (fun _ => rfl) (fun f_t_lengths_1 ef_t_lengths_1 H locs hP hD hS => ?_)
    replace hm := lt_go ef_t_lengths_1 hm
    refine lv_aload_n hx hb dX0_append_27 rfl (lv_at hl 0 rfl) ?_
    refine lv_dup hx hb dX0_append_28 rfl ?_
    refine va_get (D := (dC, dI)) (ci := 0) (v := .int f_t_entries) (C := RX0) (T := TX0) (N := 3) hx hb hts uX0 hown hK hP 0 rfl rfl 0 (by decide) k2 (fun _ h9 => h9) rfl dX0_append_29 ?_
    refine lv_iconst (v := 1) hx hb dX0_append_32 (by decide) ?_
    refine lv_iadd hx hb dX0_append_33 ?_
    refine lv_topi (fun f_t_entries_1 ef_t_entries_1 => ?_)
    replace hm := lt_go ef_t_entries_1 hm
    refine my_put (W' := [(h_t, .inr (0, [.int f_t_entries_1, .ref h_t_goals, .ref h_t_lengths])), (h_t_goals, .inl (cA, 20, .inl f_t_goals_1)), (h_t_lengths, .inl (cA, 20, .inl f_t_lengths_1))]) (ci := 0) (v := .int f_t_entries_1) (ty := .int) (C := RX0) (T := TX0) (N := 3) hx hb hts uX0 tyX0 tyX0_ok nmX0 hown hK hP hD hS 0 rfl rfl 0 (by decide) k2 (fun _ h9 => h9) rfl (by decide +kernel) rfl rfl (Nat.le_of_ble_eq_true rfl) dX0_append_34 rfl (fun H locs hP hD hS => ?_)
    cases hm
    exact W_mono hQ (W.vret hx hb hr (fun t ht hW => ⟨⟨(), rfl, trivial, by rw [ht]; exact hP, va_K.moved hW.alike hK, hD⟩, hS.F ht⟩) hS.2.2 dX0_append_37)
abbrev rmX7_has : Room := { frames := 0, cells := 0, slots := 0, locals := 0 }
theorem uX7_X7_has : ∀ w ∈ wsX70, w ∈ wsX7_has := fun _ h => List.mem_cons_of_mem _ (List.mem_append_right _ (h))
set_option maxHeartbeats 40000000 in
set_option maxRecDepth 100000 in
theorem c_Shelf_has (l : Launch) (dC : Nat → ClassId) (dI : Nat → Nat → Nat) (cA : ClassId) (h_t h_t_sets : Nat) (f_t_size : Int32) (f_t_places : Int32) (f_t_drawn : Int32) (a1 : Int32) (r0 : Int32) (hm : m_Shelf_has f_t_places a1 = some r0) (sz : Nat) : Met l yX7_has wsX7_has rmX7_has (mPre (dC, dI) cA [.ref h_t, .int a1] sz [(h_t, .inr (6, [.int f_t_size, .int f_t_places, .int f_t_drawn, .ref h_t_sets]))]) (mPosI (dC, dI) cA r0 (va_A [(h_t, .inr (6, [.int f_t_size, .int f_t_places, .int f_t_drawn, .ref h_t_sets]))] sz) [(h_t, .inr (6, [.int f_t_size, .int f_t_places, .int f_t_drawn, .ref h_t_sets]))]) 0 0 (va_A [(h_t, .inr (6, [.int f_t_size, .int f_t_places, .int f_t_drawn, .ref h_t_sets]))] sz) := by
  refine Met.ofW (cc := cX7_has) (maxL := 2) (ret := (some .boolean)) (by decide) rfl ?_
  intro p e s m args below meth c s₁ B hml hv
  obtain ⟨rfl, hsz, hP, hK, hD0⟩ := hv
  refine W_gen (fun Q hQ => ?_)
  have hx := B.exec
  have hb := B.bytes
  have hr := B.returns
  have hts := atoms_spec (ws := wsX7_has) B.pre
  have hown : s.vm.findClass RX7 = some m.cls := findClass_of_methodNamed B.named
  have hlocks := B.notSynchronized
  subst hsz
  have hD := hD0.self (sz := s.heap.size)
  clear hD0
  generalize hAe : va_A [(h_t, .inr (6, [.int f_t_size, .int f_t_places, .int f_t_drawn, .ref h_t_sets]))] s.heap.size = A at hD hQ
  have hA : ∀ q : Nat, s.heap.size ≤ q → A q := fun q h => by rw [← hAe]; exact Or.inr h
  clear hAe
  have hS : va_S A s.heap s.heap [] := va_S.rf
  have hl := lv_entry ([.ref h_t, .int a1]) (n := 2) (Nat.le_of_ble_eq_true rfl)
  rw [lg_entry_eq]
  generalize (lg_sl ([.ref h_t, .int a1]) ++ List.replicate (2 - (lg_sl ([.ref h_t, .int a1])).length) Slot.unset).toArray = ls at hl ⊢
  have hl : lv_has ls 2 [(0, .ref h_t), (1, .int a1)] := hl
  have k1 := hts (.fieldLink RX7 15 "ToneSets$Shelf" "places" "I") (List.mem_of_getElem? (i := 1) rfl)
  have uX7 := uX7_X7_has
  unfold m_Shelf_has at hm
  refine lv_iload_n hx hb dX7_has_0 rfl (lv_at hl 1 rfl) ?_
  refine lv_if_lt (tgt := 16) hx hb dX7_has_1 (by decide) (fun c1 => ?_) (fun c1 => ?_)
  · replace hm := if_t c1 hm
    refine lv_iconst (v := 0) hx hb dX7_has_16 (by decide) ?_
    cases hm
    exact W_mono hQ (W.zret hx hb hr rfl (fun t ht hW => ⟨⟨_, (), rfl, rfl, by rw [ht]; exact hP, va_K.moved hW.alike hK, hD⟩, hS.F ht⟩) hS.2.2 dX7_has_17)
  · replace hm := if_f c1 hm
    refine lv_iload_n hx hb dX7_has_4 rfl (lv_at hl 1 rfl) ?_
    refine lv_aload_n hx hb dX7_has_5 rfl (lv_at hl 0 rfl) ?_
    refine va_get (D := (dC, dI)) (ci := 6) (v := .int f_t_places) (C := RX7) (T := TX7) (N := 4) hx hb hts uX7 hown hK hP 0 rfl rfl 1 (by decide) k1 (fun _ h9 => h9) rfl dX7_has_6 ?_
    refine lv_icmp_ge (tgt := 16) hx hb dX7_has_9 (by decide) (fun c9 => ?_) (fun c9 => ?_)
    · replace hm := if_t c9 hm
      refine lv_iconst (v := 0) hx hb dX7_has_16 (by decide) ?_
      cases hm
      exact W_mono hQ (W.zret hx hb hr rfl (fun t ht hW => ⟨⟨_, (), rfl, rfl, by rw [ht]; exact hP, va_K.moved hW.alike hK, hD⟩, hS.F ht⟩) hS.2.2 dX7_has_17)
    · replace hm := if_f c9 hm
      refine lv_iconst (v := 1) hx hb dX7_has_12 (by decide) ?_
      refine lv_goto (tgt := 17) hx hb dX7_has_13 (by decide) ?_
      cases hm
      exact W_mono hQ (W.zret hx hb hr rfl (fun t ht hW => ⟨⟨_, (), rfl, rfl, by rw [ht]; exact hP, va_K.moved hW.alike hK, hD⟩, hS.F ht⟩) hS.2.2 dX7_has_17)
abbrev rmX7_setAt : Room := { frames := 1, cells := 0, slots := 0, locals := 21 }
theorem uX7_X7_setAt : ∀ w ∈ wsX70, w ∈ wsX7_setAt := fun _ h => List.mem_cons_of_mem _ (List.mem_append_right _ (h))
set_option maxHeartbeats 40000000 in
set_option maxRecDepth 100000 in
theorem c_Shelf_setAt (l : Launch) (dC : Nat → ClassId) (dI : Nat → Nat → Nat) (cA : ClassId) (h_t h_t_sets : Nat) (f_t_size : Int32) (f_t_places : Int32) (f_t_drawn : Int32) (f_t_sets : Nat → Int32) (a1 : Int32) (r0 : Int32) (hm : m_Shelf_setAt f_t_places f_t_sets a1 = some r0) (sz : Nat) : Met l yX7_setAt wsX7_setAt rmX7_setAt (mPre (dC, dI) cA [.ref h_t, .int a1] sz [(h_t, .inr (6, [.int f_t_size, .int f_t_places, .int f_t_drawn, .ref h_t_sets])), (h_t_sets, .inl (cA, 8, .inl f_t_sets))]) (mPosI (dC, dI) cA r0 (va_A [(h_t, .inr (6, [.int f_t_size, .int f_t_places, .int f_t_drawn, .ref h_t_sets])), (h_t_sets, .inl (cA, 8, .inl f_t_sets))] sz) [(h_t, .inr (6, [.int f_t_size, .int f_t_places, .int f_t_drawn, .ref h_t_sets])), (h_t_sets, .inl (cA, 8, .inl f_t_sets))]) 0 0 (va_A [(h_t, .inr (6, [.int f_t_size, .int f_t_places, .int f_t_drawn, .ref h_t_sets])), (h_t_sets, .inl (cA, 8, .inl f_t_sets))] sz) := by
  refine Met.ofW (cc := cX7_setAt) (maxL := 2) (ret := (some .int)) (by decide) rfl ?_
  intro p e s m args below meth c s₁ B hml hv
  obtain ⟨rfl, hsz, hP, hK, hD0⟩ := hv
  refine W_gen (fun Q hQ => ?_)
  have hx := B.exec
  have hb := B.bytes
  have hr := B.returns
  have hts := atoms_spec (ws := wsX7_setAt) B.pre
  have hown : s.vm.findClass RX7 = some m.cls := findClass_of_methodNamed B.named
  have hlocks := B.notSynchronized
  subst hsz
  have hD := hD0.self (sz := s.heap.size)
  clear hD0
  generalize hAe : va_A [(h_t, .inr (6, [.int f_t_size, .int f_t_places, .int f_t_drawn, .ref h_t_sets])), (h_t_sets, .inl (cA, 8, .inl f_t_sets))] s.heap.size = A at hD hQ
  have hA : ∀ q : Nat, s.heap.size ≤ q → A q := fun q h => by rw [← hAe]; exact Or.inr h
  clear hAe
  have hS : va_S A s.heap s.heap [] := va_S.rf
  have hl := lv_entry ([.ref h_t, .int a1]) (n := 2) (Nat.le_of_ble_eq_true rfl)
  rw [lg_entry_eq]
  generalize (lg_sl ([.ref h_t, .int a1]) ++ List.replicate (2 - (lg_sl ([.ref h_t, .int a1])).length) Slot.unset).toArray = ls at hl ⊢
  have hl : lv_has ls 2 [(0, .ref h_t), (1, .int a1)] := hl
  have k1 := hts (.fieldLink RX7 21 "ToneSets$Shelf" "sets" "[I") (List.mem_of_getElem? (i := 1) rfl)
  have uX7 := uX7_X7_setAt
  unfold m_Shelf_setAt at hm
  refine lv_aload_n hx hb dX7_setAt_0 rfl (lv_at hl 0 rfl) ?_
  refine lv_iload_n hx hb dX7_setAt_1 rfl (lv_at hl 1 rfl) ?_
  obtain ⟨r_1, hc2, hm⟩ := bd1_go hm
  refine my_cVi (As := [.int a1]) (rest := []) (WC := [(h_t, .inr (6, [.int f_t_size, .int f_t_places, .int f_t_drawn, .ref h_t_sets]))]) (WC' := [(h_t, .inr (6, [.int f_t_size, .int f_t_places, .int f_t_drawn, .ref h_t_sets]))]) (WR := [(h_t_sets, .inl (cA, 8, .inl f_t_sets))]) (W' := [(h_t, .inr (6, [.int f_t_size, .int f_t_places, .int f_t_drawn, .ref h_t_sets])), (h_t_sets, .inl (cA, 8, .inl f_t_sets))]) ⟨hx, hb, hml, hown, hts⟩ hK hP hD hS hA (c_Shelf_has l dC dI cA h_t h_t_sets f_t_size f_t_places f_t_drawn a1 r_1 hc2) (cwV 1 hts gX7_setAt_X7_has rfl rfl rfl (by decide +kernel) ⟨Nat.le_of_ble_eq_true rfl, Nat.le_of_ble_eq_true rfl⟩) [0] [1] [1, 0] rfl rfl rfl rfl (ci := 6) (q0 := 0) rfl rfl rfl rfl hl.1 (Nat.le_of_ble_eq_true rfl) dX7_setAt_2 ⟨Nat.zero_le _, Nat.zero_le _⟩ (fun H locs hP hD hS => ?_)
  refine lv_if_eq (tgt := 17) hx hb dX7_setAt_5 (by decide) (fun c5 => ?_) (fun c5 => ?_)
  · replace hm := if_t c5 hm
    refine lv_iconst (v := 0) hx hb dX7_setAt_17 (by decide) ?_
    cases hm
    exact W_mono hQ (W.iret hx hb hr (fun t ht hW => ⟨⟨_, (), rfl, rfl, by rw [ht]; exact hP, va_K.moved hW.alike hK, hD⟩, hS.F ht⟩) hS.2.2 dX7_setAt_18)
  · replace hm := if_f c5 hm
    refine lv_aload_n hx hb dX7_setAt_8 rfl (lv_at hl 0 rfl) ?_
    refine va_get (D := (dC, dI)) (ci := 6) (v := .ref h_t_sets) (C := RX7) (T := TX7) (N := 4) hx hb hts uX7 hown hK hP 0 rfl rfl 3 (by decide) k1 (fun _ h9 => h9) rfl dX7_setAt_9 ?_
    refine lv_iload_n hx hb dX7_setAt_12 rfl (lv_at hl 1 rfl) ?_
    obtain ⟨b13, hm⟩ := ck_go hm
    refine va_iald hx hb hK hP 1 0 rfl rfl b13 dX7_setAt_13 ?_
    refine lv_goto (tgt := 18) hx hb dX7_setAt_14 (by decide) ?_
    cases hm
    exact W_mono hQ (W.iret hx hb hr (fun t ht hW => ⟨⟨_, (), rfl, rfl, by rw [ht]; exact hP, va_K.moved hW.alike hK, hD⟩, hS.F ht⟩) hS.2.2 dX7_setAt_18)
abbrev rmX9_listTones : Room := { frames := 0, cells := 0, slots := 0, locals := 0 }
set_option maxHeartbeats 40000000 in
set_option maxRecDepth 100000 in
theorem c_Ways_listTones (l : Launch) (dC : Nat → ClassId) (dI : Nat → Nat → Nat) (cA : ClassId) (fu : Nat) (h_t h_t_goalTones h_t_goerTones h_t_extra h_t_goalPrices h_t_goerPrices h_t_goalOfGoer h_t_cameFrom h_t_slack h_p2 : Nat) (n_p2 : Nat) (f_t_nearestNumber : Int32) (f_t_nearestLength : Int32) (f_t_goals : Int32) (f_t_goers : Int32) (f_t_reached : Int32) (f_p2 : Nat → Int32) (a1 : Int32) (r0 : Int32) (f_p2_z : Nat → Int32) (hm : m_Ways_listTones fu n_p2 f_p2 a1 = some (r0, f_p2_z)) (sz : Nat) : Met l yX9_listTones wsX9_listTones rmX9_listTones (mPre (dC, dI) cA [.ref h_t, .int a1, .ref h_p2] sz [(h_t, .inr (8, [.int f_t_nearestNumber, .int f_t_nearestLength, .int f_t_goals, .int f_t_goers, .int f_t_reached, .ref h_t_goalTones, .ref h_t_goerTones, .ref h_t_extra, .ref h_t_goalPrices, .ref h_t_goerPrices, .ref h_t_goalOfGoer, .ref h_t_cameFrom, .ref h_t_slack])), (h_p2, .inl (cA, n_p2, .inl f_p2))]) (mPosI (dC, dI) cA r0 (va_A [(h_t, .inr (8, [.int f_t_nearestNumber, .int f_t_nearestLength, .int f_t_goals, .int f_t_goers, .int f_t_reached, .ref h_t_goalTones, .ref h_t_goerTones, .ref h_t_extra, .ref h_t_goalPrices, .ref h_t_goerPrices, .ref h_t_goalOfGoer, .ref h_t_cameFrom, .ref h_t_slack])), (h_p2, .inl (cA, n_p2, .inl f_p2))] sz) [(h_t, .inr (8, [.int f_t_nearestNumber, .int f_t_nearestLength, .int f_t_goals, .int f_t_goers, .int f_t_reached, .ref h_t_goalTones, .ref h_t_goerTones, .ref h_t_extra, .ref h_t_goalPrices, .ref h_t_goerPrices, .ref h_t_goalOfGoer, .ref h_t_cameFrom, .ref h_t_slack])), (h_p2, .inl (cA, n_p2, .inl f_p2_z))]) 0 0 (va_A [(h_t, .inr (8, [.int f_t_nearestNumber, .int f_t_nearestLength, .int f_t_goals, .int f_t_goers, .int f_t_reached, .ref h_t_goalTones, .ref h_t_goerTones, .ref h_t_extra, .ref h_t_goalPrices, .ref h_t_goerPrices, .ref h_t_goalOfGoer, .ref h_t_cameFrom, .ref h_t_slack])), (h_p2, .inl (cA, n_p2, .inl f_p2))] sz) := by
  refine Met.ofW (cc := cX9_listTones) (maxL := 5) (ret := (some .int)) (by decide) rfl ?_
  intro p e s m args below meth c s₁ B hml hv
  obtain ⟨rfl, hsz, hP, hK, hD0⟩ := hv
  refine W_gen (fun Q hQ => ?_)
  have hx := B.exec
  have hb := B.bytes
  have hr := B.returns
  have hts := atoms_spec (ws := wsX9_listTones) B.pre
  have hown : s.vm.findClass RX9 = some m.cls := findClass_of_methodNamed B.named
  have hlocks := B.notSynchronized
  subst hsz
  have hD := hD0.self (sz := s.heap.size)
  clear hD0
  generalize hAe : va_A [(h_t, .inr (8, [.int f_t_nearestNumber, .int f_t_nearestLength, .int f_t_goals, .int f_t_goers, .int f_t_reached, .ref h_t_goalTones, .ref h_t_goerTones, .ref h_t_extra, .ref h_t_goalPrices, .ref h_t_goerPrices, .ref h_t_goalOfGoer, .ref h_t_cameFrom, .ref h_t_slack])), (h_p2, .inl (cA, n_p2, .inl f_p2))] s.heap.size = A at hD hQ
  have hA : ∀ q : Nat, s.heap.size ≤ q → A q := fun q h => by rw [← hAe]; exact Or.inr h
  clear hAe
  have hS : va_S A s.heap s.heap [] := va_S.rf
  have hl := lv_entry ([.ref h_t, .int a1, .ref h_p2]) (n := 5) (Nat.le_of_ble_eq_true rfl)
  rw [lg_entry_eq]
  generalize (lg_sl ([.ref h_t, .int a1, .ref h_p2]) ++ List.replicate (5 - (lg_sl ([.ref h_t, .int a1, .ref h_p2])).length) Slot.unset).toArray = ls at hl ⊢
  have hl : lv_has ls 5 [(0, .ref h_t), (1, .int a1), (2, .ref h_p2)] := hl
  unfold m_Ways_listTones at hm
  refine lv_iconst (v := 0) hx hb dX9_listTones_0 (by decide) ?_
  refine lv_topi (fun v3_1 ev3_1 => ?_)
  replace hm := lt_go ev3_1 hm
  refine lv_istore_n (lv' := [(3, .int v3_1), (0, .ref h_t), (1, .int a1), (2, .ref h_p2)]) hx hb dX9_listTones_1 rfl hl (by decide) rfl (fun ls hl => ?_)
  refine lv_iconst (v := 0) hx hb dX9_listTones_2 (by decide) ?_
  refine lv_topi (fun v4_1 ev4_1 => ?_)
  replace hm := lt_go ev4_1 hm
  refine lv_istore (lv' := [(4, .int v4_1), (3, .int v3_1), (0, .ref h_t), (1, .int a1), (2, .ref h_p2)]) hx hb dX9_listTones_3 hl (by decide) rfl (fun ls hl => ?_)
  have L5 : ∀ (n : Nat) (v3_2 : Int32) (v4_2 : Int32) (f_p2_1 : Nat → Int32) (v3_3 : Int32) (f_p2_2 : Nat → Int32), m_Ways_listTones_L5 a1 n_p2 n v3_2 v4_2 f_p2_1 = some (v3_3, f_p2_2) → ∀ (H : Heap) (locs : List Loc), va_P (dC, dI) vwCl [(h_t, .inr (8, [.int f_t_nearestNumber, .int f_t_nearestLength, .int f_t_goals, .int f_t_goers, .int f_t_reached, .ref h_t_goalTones, .ref h_t_goerTones, .ref h_t_extra, .ref h_t_goalPrices, .ref h_t_goerPrices, .ref h_t_goalOfGoer, .ref h_t_cameFrom, .ref h_t_slack])), (h_p2, .inl (cA, n_p2, .inl f_p2_1))] H → va_D A [(h_t, .inr (8, [.int f_t_nearestNumber, .int f_t_nearestLength, .int f_t_goals, .int f_t_goers, .int f_t_reached, .ref h_t_goalTones, .ref h_t_goerTones, .ref h_t_extra, .ref h_t_goalPrices, .ref h_t_goerPrices, .ref h_t_goalOfGoer, .ref h_t_cameFrom, .ref h_t_slack])), (h_p2, .inl (cA, n_p2, .inl f_p2_1))] → va_S A s.heap H locs → ∀ ls : Array Slot, lv_has ls 5 [(1, .int a1), (2, .ref h_p2), (3, .int v3_2), (4, .int v4_2)] → (∀ (H : Heap) (locs : List Loc), va_P (dC, dI) vwCl [(h_t, .inr (8, [.int f_t_nearestNumber, .int f_t_nearestLength, .int f_t_goals, .int f_t_goers, .int f_t_reached, .ref h_t_goalTones, .ref h_t_goerTones, .ref h_t_extra, .ref h_t_goalPrices, .ref h_t_goerPrices, .ref h_t_goalOfGoer, .ref h_t_cameFrom, .ref h_t_slack])), (h_p2, .inl (cA, n_p2, .inl f_p2_2))] H → va_D A [(h_t, .inr (8, [.int f_t_nearestNumber, .int f_t_nearestLength, .int f_t_goals, .int f_t_goers, .int f_t_reached, .ref h_t_goalTones, .ref h_t_goerTones, .ref h_t_extra, .ref h_t_goalPrices, .ref h_t_goerPrices, .ref h_t_goalOfGoer, .ref h_t_cameFrom, .ref h_t_slack])), (h_p2, .inl (cA, n_p2, .inl f_p2_2))] → va_S A s.heap H locs → ∀ ls : Array Slot, lv_has ls 5 [(3, .int v3_3)] → W p l e (headSpec wsX9_listTones rmX9_listTones).room s m (([.ref h_t, .int a1, .ref h_p2] : List Value).toArray) below meth c H locs 0 0 Q (F0 m 35 ls [])) → W p l e (headSpec wsX9_listTones rmX9_listTones).room s m (([.ref h_t, .int a1, .ref h_p2] : List Value).toArray) below meth c H locs 0 0 Q (F0 m 5 ls []) := by
    clear hm hP hD hS hl
    intro n
    induction n with
    | zero => intro _ _ _ _ _ hm; exact nomatch (show none = some _ from hm)
    | succ n ih =>
      intro v3_2 v4_2 f_p2_1 v3_3 f_p2_2 hm H locs hP hD hS ls hl KK
      unfold m_Ways_listTones_L5 at hm
      refine lv_iload hx hb dX9_listTones_5 (lv_at hl 3 rfl) ?_
      refine lv_bipush (v := 12) hx hb dX9_listTones_7 (by decide) ?_
      refine lv_icmp_ge (tgt := 35) hx hb dX9_listTones_9 (by decide) (fun c9 => ?_) (fun c9 => ?_)
      · replace hm := if_t c9 hm
        cases hm
        exact KK _ _ hP hD hS _ (lv_sub hl [2] rfl)
      · replace hm := if_f c9 hm
        refine lv_iload_n hx hb dX9_listTones_12 rfl (lv_at hl 0 rfl) ?_
        refine lv_iconst (v := 1) hx hb dX9_listTones_13 (by decide) ?_
        refine lv_iload hx hb dX9_listTones_14 (lv_at hl 3 rfl) ?_
        refine lv_ishl hx hb dX9_listTones_16 ?_
        refine lv_iand hx hb dX9_listTones_17 ?_
        obtain ⟨v3_4, f_p2_3, hqJ_1, hm⟩ := bd2_go hm
        have J_1 : ∀ (H : Heap) (locs : List Loc), va_P (dC, dI) vwCl [(h_t, .inr (8, [.int f_t_nearestNumber, .int f_t_nearestLength, .int f_t_goals, .int f_t_goers, .int f_t_reached, .ref h_t_goalTones, .ref h_t_goerTones, .ref h_t_extra, .ref h_t_goalPrices, .ref h_t_goerPrices, .ref h_t_goalOfGoer, .ref h_t_cameFrom, .ref h_t_slack])), (h_p2, .inl (cA, n_p2, .inl f_p2_3))] H → va_D A [(h_t, .inr (8, [.int f_t_nearestNumber, .int f_t_nearestLength, .int f_t_goals, .int f_t_goers, .int f_t_reached, .ref h_t_goalTones, .ref h_t_goerTones, .ref h_t_extra, .ref h_t_goalPrices, .ref h_t_goerPrices, .ref h_t_goalOfGoer, .ref h_t_cameFrom, .ref h_t_slack])), (h_p2, .inl (cA, n_p2, .inl f_p2_3))] → va_S A s.heap H locs → ∀ ls : Array Slot, lv_has ls 5 [(1, .int a1), (2, .ref h_p2), (3, .int v3_4), (4, .int v4_2)] → W p l e (headSpec wsX9_listTones rmX9_listTones).room s m (([.ref h_t, .int a1, .ref h_p2] : List Value).toArray) below meth c H locs 0 0 Q (F0 m 29 ls []) := by
          intro H locs hP hD hS ls hl
          clear hqJ_1
          obtain ⟨v4_3, ev4_3⟩ : ∃ z : Int32, z = v4_2 + 1 := ⟨_, rfl⟩
          replace hm := lt_go ev4_3 hm
          refine lv_iinc (v := v4_3) (lv' := [(4, .int v4_3), (1, .int a1), (2, .ref h_p2), (3, .int v3_4)]) hx hb dX9_listTones_29 hl (k := 3) rfl (by rw [ev4_3]; rfl) (by decide) rfl (fun ls hl => ?_)
          refine lv_goto (tgt := 5) hx hb dX9_listTones_32 (by decide) ?_
          exact ih _ _ _ _ _ hm _ _ hP hD hS _ (lv_sub hl [1, 2, 3, 0] rfl) KK
        clear hm
        refine lv_if_eq (tgt := 29) hx hb dX9_listTones_18 (by decide) (fun c18 => ?_) (fun c18 => ?_)
        · replace hqJ_1 := if_t c18 hqJ_1
          cases hqJ_1
          exact J_1 _ _ hP hD hS _ (lv_sub hl [0, 1, 2, 3] rfl)
        · replace hqJ_1 := if_f c18 hqJ_1
          obtain ⟨v3_5, ev3_5⟩ : ∃ z : Int32, z = v3_2 + 1 := ⟨_, rfl⟩
          replace hqJ_1 := lt_go ev3_5 hqJ_1
          refine lv_iinc (v := v3_5) (lv' := [(3, .int v3_5), (1, .int a1), (2, .ref h_p2), (4, .int v4_2)]) hx hb dX9_listTones_21 hl (k := 2) rfl (by rw [ev3_5]; rfl) (by decide) rfl (fun ls hl => ?_)
          refine lv_aload_n hx hb dX9_listTones_24 rfl (lv_at hl 2 rfl) ?_
          refine lv_iload_n hx hb dX9_listTones_25 rfl (lv_at hl 0 rfl) ?_
          refine lv_iload hx hb dX9_listTones_26 (lv_at hl 3 rfl) ?_
          obtain ⟨b28, hqJ_1⟩ := ck_go hqJ_1
          refine my_iast (W' := fun z' => [(h_t, .inr (8, [.int f_t_nearestNumber, .int f_t_nearestLength, .int f_t_goals, .int f_t_goers, .int f_t_reached, .ref h_t_goalTones, .ref h_t_goerTones, .ref h_t_extra, .ref h_t_goalPrices, .ref h_t_goerPrices, .ref h_t_goalOfGoer, .ref h_t_cameFrom, .ref h_t_slack])), (h_p2, .inl (cA, n_p2, .inl z'))]) hx hb hK hP hD hS 1 0 rfl rfl b28 dX9_listTones_28 (fun _ => rfl) (fun f_p2_4 ef_p2_4 H locs hP hD hS => ?_)
          replace hqJ_1 := lt_go ef_p2_4 hqJ_1
          cases hqJ_1
          exact J_1 _ _ hP hD hS _ (lv_sub hl [1, 2, 0, 3] rfl)
  obtain ⟨v3_6, f_p2_5, hl5, hm⟩ := bd2_go hm
  refine L5 _ _ _ _ _ _ hl5 _ _ hP hD hS _ (lv_sub hl [3, 4, 1, 0] rfl) (fun H locs hP hD hS ls hl => ?_)
  refine lv_iload_n hx hb dX9_listTones_35 rfl (lv_at hl 0 rfl) ?_
  cases hm
  exact W_mono hQ (W.iret hx hb hr (fun t ht hW => ⟨⟨_, (), rfl, rfl, by rw [ht]; exact hP, va_K.moved hW.alike hK, hD⟩, hS.F ht⟩) hS.2.2 dX9_listTones_36)
abbrev rmX9_measure : Room := { frames := 1, cells := 0, slots := 0, locals := 21 }
theorem uX9_X9_measure : ∀ w ∈ wsX90, w ∈ wsX9_measure := fun _ h => List.mem_cons_of_mem _ (List.mem_append_right _ (h))
set_option maxHeartbeats 40000000 in
set_option maxRecDepth 100000 in
theorem c_Ways_measure (l : Launch) (dC : Nat → ClassId) (dI : Nat → Nat → Nat) (cA : ClassId) (fu : Nat) (h_t h_t_goalTones h_t_goerTones h_t_extra h_t_goalPrices h_t_goerPrices h_t_goalOfGoer h_t_cameFrom h_t_slack : Nat) (f_t_nearestNumber : Int32) (f_t_nearestLength : Int32) (f_t_goals : Int32) (f_t_goers : Int32) (f_t_reached : Int32) (f_t_extra : Nat → Int32) (f_t_goalTones : Nat → Int32) (f_t_goerTones : Nat → Int32) (a1 : Int32) (r0 : Int32) (f_t_extra_z : Nat → Int32) (hm : m_Ways_measure fu f_t_extra f_t_goalTones f_t_goals f_t_goerTones f_t_goers a1 = some (r0, f_t_extra_z)) (sz : Nat) : Met l yX9_measure wsX9_measure rmX9_measure (mPre (dC, dI) cA [.ref h_t, .int a1] sz [(h_t, .inr (8, [.int f_t_nearestNumber, .int f_t_nearestLength, .int f_t_goals, .int f_t_goers, .int f_t_reached, .ref h_t_goalTones, .ref h_t_goerTones, .ref h_t_extra, .ref h_t_goalPrices, .ref h_t_goerPrices, .ref h_t_goalOfGoer, .ref h_t_cameFrom, .ref h_t_slack])), (h_t_extra, .inl (cA, 169, .inl f_t_extra)), (h_t_goalTones, .inl (cA, 13, .inl f_t_goalTones)), (h_t_goerTones, .inl (cA, 13, .inl f_t_goerTones))]) (mPosI (dC, dI) cA r0 (va_A [(h_t, .inr (8, [.int f_t_nearestNumber, .int f_t_nearestLength, .int f_t_goals, .int f_t_goers, .int f_t_reached, .ref h_t_goalTones, .ref h_t_goerTones, .ref h_t_extra, .ref h_t_goalPrices, .ref h_t_goerPrices, .ref h_t_goalOfGoer, .ref h_t_cameFrom, .ref h_t_slack])), (h_t_extra, .inl (cA, 169, .inl f_t_extra)), (h_t_goalTones, .inl (cA, 13, .inl f_t_goalTones)), (h_t_goerTones, .inl (cA, 13, .inl f_t_goerTones))] sz) [(h_t, .inr (8, [.int f_t_nearestNumber, .int f_t_nearestLength, .int f_t_goals, .int f_t_goers, .int f_t_reached, .ref h_t_goalTones, .ref h_t_goerTones, .ref h_t_extra, .ref h_t_goalPrices, .ref h_t_goerPrices, .ref h_t_goalOfGoer, .ref h_t_cameFrom, .ref h_t_slack])), (h_t_extra, .inl (cA, 169, .inl f_t_extra_z)), (h_t_goalTones, .inl (cA, 13, .inl f_t_goalTones)), (h_t_goerTones, .inl (cA, 13, .inl f_t_goerTones))]) 0 0 (va_A [(h_t, .inr (8, [.int f_t_nearestNumber, .int f_t_nearestLength, .int f_t_goals, .int f_t_goers, .int f_t_reached, .ref h_t_goalTones, .ref h_t_goerTones, .ref h_t_extra, .ref h_t_goalPrices, .ref h_t_goerPrices, .ref h_t_goalOfGoer, .ref h_t_cameFrom, .ref h_t_slack])), (h_t_extra, .inl (cA, 169, .inl f_t_extra)), (h_t_goalTones, .inl (cA, 13, .inl f_t_goalTones)), (h_t_goerTones, .inl (cA, 13, .inl f_t_goerTones))] sz) := by
  refine Met.ofW (cc := cX9_measure) (maxL := 7) (ret := (some .int)) (by decide) rfl ?_
  intro p e s m args below meth c s₁ B hml hv
  obtain ⟨rfl, hsz, hP, hK, hD0⟩ := hv
  refine W_gen (fun Q hQ => ?_)
  have hx := B.exec
  have hb := B.bytes
  have hr := B.returns
  have hts := atoms_spec (ws := wsX9_measure) B.pre
  have hown : s.vm.findClass RX9 = some m.cls := findClass_of_methodNamed B.named
  have hlocks := B.notSynchronized
  subst hsz
  have hD := hD0.self (sz := s.heap.size)
  clear hD0
  generalize hAe : va_A [(h_t, .inr (8, [.int f_t_nearestNumber, .int f_t_nearestLength, .int f_t_goals, .int f_t_goers, .int f_t_reached, .ref h_t_goalTones, .ref h_t_goerTones, .ref h_t_extra, .ref h_t_goalPrices, .ref h_t_goerPrices, .ref h_t_goalOfGoer, .ref h_t_cameFrom, .ref h_t_slack])), (h_t_extra, .inl (cA, 169, .inl f_t_extra)), (h_t_goalTones, .inl (cA, 13, .inl f_t_goalTones)), (h_t_goerTones, .inl (cA, 13, .inl f_t_goerTones))] s.heap.size = A at hD hQ
  have hA : ∀ q : Nat, s.heap.size ≤ q → A q := fun q h => by rw [← hAe]; exact Or.inr h
  clear hAe
  have hS : va_S A s.heap s.heap [] := va_S.rf
  have hl := lv_entry ([.ref h_t, .int a1]) (n := 7) (Nat.le_of_ble_eq_true rfl)
  rw [lg_entry_eq]
  generalize (lg_sl ([.ref h_t, .int a1]) ++ List.replicate (7 - (lg_sl ([.ref h_t, .int a1])).length) Slot.unset).toArray = ls at hl ⊢
  have hl : lv_has ls 7 [(0, .ref h_t), (1, .int a1)] := hl
  have k1 := hts (.fieldLink RX9 21 "ToneSets$Ways" "goers" "I") (List.mem_of_getElem? (i := 1) rfl)
  have k2 := hts (.constant RX9 84 (1000000)) (List.mem_of_getElem? (i := 2) rfl)
  have k3 := hts (.fieldLink RX9 18 "ToneSets$Ways" "goals" "I") (List.mem_of_getElem? (i := 3) rfl)
  have k4 := hts (.fieldLink RX9 31 "ToneSets$Ways" "goerTones" "[I") (List.mem_of_getElem? (i := 4) rfl)
  have k5 := hts (.fieldLink RX9 27 "ToneSets$Ways" "goalTones" "[I") (List.mem_of_getElem? (i := 5) rfl)
  have k6 := hts (.methodLink RX9 92 Lib.Math.abs.name) (List.mem_of_getElem? (i := 6) rfl)
  have k7 := hts (.static Lib.Math.abs.name) (List.mem_of_getElem? (i := 7) rfl)
  have k8 := hts (.initialized "java/lang/Math") (List.mem_of_getElem? (i := 8) rfl)
  have k9 := hts (.code Lib.Math.abs.name Lib.Math.abs.code 1 (some .int)) (List.mem_of_getElem? (i := 9) rfl)
  have k10 := hts (.methodLink RX9 97 Lib.Math.min.name) (List.mem_of_getElem? (i := 10) rfl)
  have k11 := hts (.static Lib.Math.min.name) (List.mem_of_getElem? (i := 11) rfl)
  have k12 := hts (.code Lib.Math.min.name Lib.Math.min.code 2 (some .int)) (List.mem_of_getElem? (i := 12) rfl)
  have k13 := hts (.fieldLink RX9 34 "ToneSets$Ways" "extra" "[I") (List.mem_of_getElem? (i := 13) rfl)
  have uX9 := uX9_X9_measure
  unfold m_Ways_measure at hm
  refine lv_iconst (v := 0) hx hb dX9_measure_0 (by decide) ?_
  refine lv_topi (fun v2_1 ev2_1 => ?_)
  replace hm := lt_go ev2_1 hm
  refine lv_istore_n (lv' := [(2, .int v2_1), (0, .ref h_t), (1, .int a1)]) hx hb dX9_measure_1 rfl hl (by decide) rfl (fun ls hl => ?_)
  refine lv_iconst (v := 1) hx hb dX9_measure_2 (by decide) ?_
  refine lv_topi (fun v3_1 ev3_1 => ?_)
  replace hm := lt_go ev3_1 hm
  refine lv_istore_n (lv' := [(3, .int v3_1), (2, .int v2_1), (0, .ref h_t), (1, .int a1)]) hx hb dX9_measure_3 rfl hl (by decide) rfl (fun ls hl => ?_)
  have L4 : ∀ (n : Nat) (v2_2 : Int32) (v3_2 : Int32) (f_t_extra_1 : Nat → Int32) (v2_3 : Int32) (f_t_extra_2 : Nat → Int32), m_Ways_measure_L4 fu f_t_goers f_t_goals f_t_goerTones f_t_goalTones a1 n v2_2 v3_2 f_t_extra_1 = some (v2_3, f_t_extra_2) → ∀ (H : Heap) (locs : List Loc), va_P (dC, dI) vwCl [(h_t, .inr (8, [.int f_t_nearestNumber, .int f_t_nearestLength, .int f_t_goals, .int f_t_goers, .int f_t_reached, .ref h_t_goalTones, .ref h_t_goerTones, .ref h_t_extra, .ref h_t_goalPrices, .ref h_t_goerPrices, .ref h_t_goalOfGoer, .ref h_t_cameFrom, .ref h_t_slack])), (h_t_extra, .inl (cA, 169, .inl f_t_extra_1)), (h_t_goalTones, .inl (cA, 13, .inl f_t_goalTones)), (h_t_goerTones, .inl (cA, 13, .inl f_t_goerTones))] H → va_D A [(h_t, .inr (8, [.int f_t_nearestNumber, .int f_t_nearestLength, .int f_t_goals, .int f_t_goers, .int f_t_reached, .ref h_t_goalTones, .ref h_t_goerTones, .ref h_t_extra, .ref h_t_goalPrices, .ref h_t_goerPrices, .ref h_t_goalOfGoer, .ref h_t_cameFrom, .ref h_t_slack])), (h_t_extra, .inl (cA, 169, .inl f_t_extra_1)), (h_t_goalTones, .inl (cA, 13, .inl f_t_goalTones)), (h_t_goerTones, .inl (cA, 13, .inl f_t_goerTones))] → va_S A s.heap H locs → ∀ ls : Array Slot, lv_has ls 7 [(0, .ref h_t), (1, .int a1), (2, .int v2_2), (3, .int v3_2)] → (∀ (H : Heap) (locs : List Loc), va_P (dC, dI) vwCl [(h_t, .inr (8, [.int f_t_nearestNumber, .int f_t_nearestLength, .int f_t_goals, .int f_t_goers, .int f_t_reached, .ref h_t_goalTones, .ref h_t_goerTones, .ref h_t_extra, .ref h_t_goalPrices, .ref h_t_goerPrices, .ref h_t_goalOfGoer, .ref h_t_cameFrom, .ref h_t_slack])), (h_t_extra, .inl (cA, 169, .inl f_t_extra_2)), (h_t_goalTones, .inl (cA, 13, .inl f_t_goalTones)), (h_t_goerTones, .inl (cA, 13, .inl f_t_goerTones))] H → va_D A [(h_t, .inr (8, [.int f_t_nearestNumber, .int f_t_nearestLength, .int f_t_goals, .int f_t_goers, .int f_t_reached, .ref h_t_goalTones, .ref h_t_goerTones, .ref h_t_extra, .ref h_t_goalPrices, .ref h_t_goerPrices, .ref h_t_goalOfGoer, .ref h_t_cameFrom, .ref h_t_slack])), (h_t_extra, .inl (cA, 169, .inl f_t_extra_2)), (h_t_goalTones, .inl (cA, 13, .inl f_t_goalTones)), (h_t_goerTones, .inl (cA, 13, .inl f_t_goerTones))] → va_S A s.heap H locs → ∀ ls : Array Slot, lv_has ls 7 [(2, .int v2_3)] → W p l e (headSpec wsX9_measure rmX9_measure).room s m (([.ref h_t, .int a1] : List Value).toArray) below meth c H locs 0 0 Q (F0 m 133 ls [])) → W p l e (headSpec wsX9_measure rmX9_measure).room s m (([.ref h_t, .int a1] : List Value).toArray) below meth c H locs 0 0 Q (F0 m 4 ls []) := by
    clear hm hP hD hS hl
    intro n
    induction n with
    | zero => intro _ _ _ _ _ hm; exact nomatch (show none = some _ from hm)
    | succ n ih =>
      intro v2_2 v3_2 f_t_extra_1 v2_3 f_t_extra_2 hm H locs hP hD hS ls hl KK
      unfold m_Ways_measure_L4 at hm
      refine lv_iload_n hx hb dX9_measure_4 rfl (lv_at hl 3 rfl) ?_
      refine lv_aload_n hx hb dX9_measure_5 rfl (lv_at hl 0 rfl) ?_
      refine va_get (D := (dC, dI)) (ci := 8) (v := .int f_t_goers) (C := RX9) (T := TX9) (N := 13) hx hb hts uX9 hown hK hP 0 rfl rfl 3 (by decide) k1 (fun _ h9 => h9) rfl dX9_measure_6 ?_
      refine lv_icmp_gt (tgt := 133) hx hb dX9_measure_9 (by decide) (fun c9 => ?_) (fun c9 => ?_)
      · replace hm := if_t c9 hm
        cases hm
        exact KK _ _ hP hD hS _ (lv_sub hl [2] rfl)
      · replace hm := if_f c9 hm
        refine lv_ldc (v := 1000000) hx hb hown k2 dX9_measure_12 ?_
        refine lv_topi (fun v4_1 ev4_1 => ?_)
        replace hm := lt_go ev4_1 hm
        refine lv_istore (lv' := [(4, .int v4_1), (0, .ref h_t), (1, .int a1), (2, .int v2_2), (3, .int v3_2)]) hx hb dX9_measure_14 hl (by decide) rfl (fun ls hl => ?_)
        refine lv_iconst (v := 1) hx hb dX9_measure_16 (by decide) ?_
        refine lv_topi (fun v5_1 ev5_1 => ?_)
        replace hm := lt_go ev5_1 hm
        refine lv_istore (lv' := [(5, .int v5_1), (4, .int v4_1), (0, .ref h_t), (1, .int a1), (2, .int v2_2), (3, .int v3_2)]) hx hb dX9_measure_17 hl (by decide) rfl (fun ls hl => ?_)
        have L19 : ∀ (n : Nat) (v4_2 : Int32) (v5_2 : Int32) (f_t_extra_3 : Nat → Int32) (v4_3 : Int32) (f_t_extra_4 : Nat → Int32), m_Ways_measure_L19 f_t_goals v3_2 f_t_goerTones f_t_goalTones a1 n v4_2 v5_2 f_t_extra_3 = some (v4_3, f_t_extra_4) → ∀ (H : Heap) (locs : List Loc), va_P (dC, dI) vwCl [(h_t, .inr (8, [.int f_t_nearestNumber, .int f_t_nearestLength, .int f_t_goals, .int f_t_goers, .int f_t_reached, .ref h_t_goalTones, .ref h_t_goerTones, .ref h_t_extra, .ref h_t_goalPrices, .ref h_t_goerPrices, .ref h_t_goalOfGoer, .ref h_t_cameFrom, .ref h_t_slack])), (h_t_extra, .inl (cA, 169, .inl f_t_extra_3)), (h_t_goalTones, .inl (cA, 13, .inl f_t_goalTones)), (h_t_goerTones, .inl (cA, 13, .inl f_t_goerTones))] H → va_D A [(h_t, .inr (8, [.int f_t_nearestNumber, .int f_t_nearestLength, .int f_t_goals, .int f_t_goers, .int f_t_reached, .ref h_t_goalTones, .ref h_t_goerTones, .ref h_t_extra, .ref h_t_goalPrices, .ref h_t_goerPrices, .ref h_t_goalOfGoer, .ref h_t_cameFrom, .ref h_t_slack])), (h_t_extra, .inl (cA, 169, .inl f_t_extra_3)), (h_t_goalTones, .inl (cA, 13, .inl f_t_goalTones)), (h_t_goerTones, .inl (cA, 13, .inl f_t_goerTones))] → va_S A s.heap H locs → ∀ ls : Array Slot, lv_has ls 7 [(0, .ref h_t), (1, .int a1), (2, .int v2_2), (3, .int v3_2), (4, .int v4_2), (5, .int v5_2)] → (∀ (H : Heap) (locs : List Loc), va_P (dC, dI) vwCl [(h_t, .inr (8, [.int f_t_nearestNumber, .int f_t_nearestLength, .int f_t_goals, .int f_t_goers, .int f_t_reached, .ref h_t_goalTones, .ref h_t_goerTones, .ref h_t_extra, .ref h_t_goalPrices, .ref h_t_goerPrices, .ref h_t_goalOfGoer, .ref h_t_cameFrom, .ref h_t_slack])), (h_t_extra, .inl (cA, 169, .inl f_t_extra_4)), (h_t_goalTones, .inl (cA, 13, .inl f_t_goalTones)), (h_t_goerTones, .inl (cA, 13, .inl f_t_goerTones))] H → va_D A [(h_t, .inr (8, [.int f_t_nearestNumber, .int f_t_nearestLength, .int f_t_goals, .int f_t_goers, .int f_t_reached, .ref h_t_goalTones, .ref h_t_goerTones, .ref h_t_extra, .ref h_t_goalPrices, .ref h_t_goerPrices, .ref h_t_goalOfGoer, .ref h_t_cameFrom, .ref h_t_slack])), (h_t_extra, .inl (cA, 169, .inl f_t_extra_4)), (h_t_goalTones, .inl (cA, 13, .inl f_t_goalTones)), (h_t_goerTones, .inl (cA, 13, .inl f_t_goerTones))] → va_S A s.heap H locs → ∀ ls : Array Slot, lv_has ls 7 [(0, .ref h_t), (1, .int a1), (2, .int v2_2), (3, .int v3_2), (4, .int v4_3)] → W p l e (headSpec wsX9_measure rmX9_measure).room s m (([.ref h_t, .int a1] : List Value).toArray) below meth c H locs 0 0 Q (F0 m 87 ls [])) → W p l e (headSpec wsX9_measure rmX9_measure).room s m (([.ref h_t, .int a1] : List Value).toArray) below meth c H locs 0 0 Q (F0 m 19 ls []) := by
          clear hm hP hD hS hl
          intro n
          induction n with
          | zero => intro _ _ _ _ _ hm; exact nomatch (show none = some _ from hm)
          | succ n ih =>
            intro v4_2 v5_2 f_t_extra_3 v4_3 f_t_extra_4 hm H locs hP hD hS ls hl KK
            unfold m_Ways_measure_L19 at hm
            refine lv_iload hx hb dX9_measure_19 (lv_at hl 5 rfl) ?_
            refine lv_aload_n hx hb dX9_measure_21 rfl (lv_at hl 0 rfl) ?_
            refine va_get (D := (dC, dI)) (ci := 8) (v := .int f_t_goals) (C := RX9) (T := TX9) (N := 13) hx hb hts uX9 hown hK hP 0 rfl rfl 2 (by decide) k3 (fun _ h9 => h9) rfl dX9_measure_22 ?_
            refine lv_icmp_gt (tgt := 87) hx hb dX9_measure_25 (by decide) (fun c25 => ?_) (fun c25 => ?_)
            · replace hm := if_t c25 hm
              cases hm
              exact KK _ _ hP hD hS _ (lv_sub hl [0, 1, 2, 3, 4] rfl)
            · replace hm := if_f c25 hm
              refine lv_aload_n hx hb dX9_measure_28 rfl (lv_at hl 0 rfl) ?_
              refine va_get (D := (dC, dI)) (ci := 8) (v := .ref h_t_goerTones) (C := RX9) (T := TX9) (N := 13) hx hb hts uX9 hown hK hP 0 rfl rfl 6 (by decide) k4 (fun _ h9 => h9) rfl dX9_measure_29 ?_
              refine lv_iload_n hx hb dX9_measure_32 rfl (lv_at hl 3 rfl) ?_
              obtain ⟨b33, hm⟩ := ck_go hm
              refine va_iald hx hb hK hP 3 0 rfl rfl b33 dX9_measure_33 ?_
              refine lv_aload_n hx hb dX9_measure_34 rfl (lv_at hl 0 rfl) ?_
              refine va_get (D := (dC, dI)) (ci := 8) (v := .ref h_t_goalTones) (C := RX9) (T := TX9) (N := 13) hx hb hts uX9 hown hK hP 0 rfl rfl 5 (by decide) k5 (fun _ h9 => h9) rfl dX9_measure_35 ?_
              refine lv_iload hx hb dX9_measure_38 (lv_at hl 5 rfl) ?_
              obtain ⟨b40, hm⟩ := ck_go hm
              refine va_iald hx hb hK hP 2 0 rfl rfl b40 dX9_measure_40 ?_
              refine lv_isub hx hb dX9_measure_41 ?_
              refine va_mabs hx hb (hml.trans hl.1.symm) hown k6 k7 k8 k9 (Nat.le_of_ble_eq_true rfl) (Nat.le_of_ble_eq_true rfl) (Nat.zero_le _) (Nat.zero_le _) dX9_measure_42 ?_
              refine lv_topi (fun v6_1 ev6_1 => ?_)
              replace hm := lt_go ev6_1 hm
              refine lv_istore (lv' := [(6, .int v6_1), (0, .ref h_t), (1, .int a1), (2, .int v2_2), (3, .int v3_2), (4, .int v4_2), (5, .int v5_2)]) hx hb dX9_measure_45 hl (by decide) rfl (fun ls hl => ?_)
              refine lv_iload hx hb dX9_measure_47 (lv_at hl 0 rfl) ?_
              refine lv_iload_n hx hb dX9_measure_49 rfl (lv_at hl 2 rfl) ?_
              refine lv_iload hx hb dX9_measure_50 (lv_at hl 0 rfl) ?_
              refine lv_isub hx hb dX9_measure_52 ?_
              refine va_mmin hx hb (hml.trans hl.1.symm) hown k10 k11 k8 k12 (Nat.le_of_ble_eq_true rfl) (Nat.le_of_ble_eq_true rfl) (Nat.zero_le _) (Nat.zero_le _) dX9_measure_53 ?_
              refine lv_topi (fun v6_2 ev6_2 => ?_)
              replace hm := lt_go ev6_2 hm
              refine lv_istore (lv' := [(6, .int v6_2), (0, .ref h_t), (1, .int a1), (2, .int v2_2), (3, .int v3_2), (4, .int v4_2), (5, .int v5_2)]) hx hb dX9_measure_56 hl (by decide) rfl (fun ls hl => ?_)
              refine lv_aload_n hx hb dX9_measure_58 rfl (lv_at hl 1 rfl) ?_
              refine va_get (D := (dC, dI)) (ci := 8) (v := .ref h_t_extra) (C := RX9) (T := TX9) (N := 13) hx hb hts uX9 hown hK hP 0 rfl rfl 7 (by decide) k13 (fun _ h9 => h9) rfl dX9_measure_59 ?_
              refine lv_iload hx hb dX9_measure_62 (lv_at hl 6 rfl) ?_
              refine lv_bipush (v := 13) hx hb dX9_measure_64 (by decide) ?_
              refine lv_imul hx hb dX9_measure_66 ?_
              refine lv_iload_n hx hb dX9_measure_67 rfl (lv_at hl 4 rfl) ?_
              refine lv_iadd hx hb dX9_measure_68 ?_
              refine lv_iload hx hb dX9_measure_69 (lv_at hl 0 rfl) ?_
              obtain ⟨b71, hm⟩ := ck_go hm
              refine my_iast (W' := fun z' => [(h_t, .inr (8, [.int f_t_nearestNumber, .int f_t_nearestLength, .int f_t_goals, .int f_t_goers, .int f_t_reached, .ref h_t_goalTones, .ref h_t_goerTones, .ref h_t_extra, .ref h_t_goalPrices, .ref h_t_goerPrices, .ref h_t_goalOfGoer, .ref h_t_cameFrom, .ref h_t_slack])), (h_t_extra, .inl (cA, 169, .inl z')), (h_t_goalTones, .inl (cA, 13, .inl f_t_goalTones)), (h_t_goerTones, .inl (cA, 13, .inl f_t_goerTones))]) hx hb hK hP hD hS 1 0 rfl rfl b71 dX9_measure_71 (fun _ => rfl) (fun f_t_extra_5 ef_t_extra_5 H locs hP hD hS => ?_)
              replace hm := lt_go ef_t_extra_5 hm
              refine lv_iload hx hb dX9_measure_72 (lv_at hl 5 rfl) ?_
              refine lv_iload hx hb dX9_measure_74 (lv_at hl 0 rfl) ?_
              refine va_mmin hx hb (hml.trans hl.1.symm) hown k10 k11 k8 k12 (Nat.le_of_ble_eq_true rfl) (Nat.le_of_ble_eq_true rfl) (Nat.zero_le _) (Nat.zero_le _) dX9_measure_76 ?_
              refine lv_topi (fun v4_4 ev4_4 => ?_)
              replace hm := lt_go ev4_4 hm
              refine lv_istore (lv' := [(4, .int v4_4), (6, .int v6_2), (0, .ref h_t), (1, .int a1), (2, .int v2_2), (3, .int v3_2), (5, .int v5_2)]) hx hb dX9_measure_79 hl (by decide) rfl (fun ls hl => ?_)
              obtain ⟨v5_3, ev5_3⟩ : ∃ z : Int32, z = v5_2 + 1 := ⟨_, rfl⟩
              replace hm := lt_go ev5_3 hm
              refine lv_iinc (v := v5_3) (lv' := [(5, .int v5_3), (4, .int v4_4), (6, .int v6_2), (0, .ref h_t), (1, .int a1), (2, .int v2_2), (3, .int v3_2)]) hx hb dX9_measure_81 hl (k := 6) rfl (by rw [ev5_3]; rfl) (by decide) rfl (fun ls hl => ?_)
              refine lv_goto (tgt := 19) hx hb dX9_measure_84 (by decide) ?_
              exact ih _ _ _ _ _ hm _ _ hP hD hS _ (lv_sub hl [3, 4, 5, 6, 1, 0] rfl) KK
        obtain ⟨v4_5, f_t_extra_6, hl19, hm⟩ := bd2_go hm
        refine L19 _ _ _ _ _ _ hl19 _ _ hP hD hS _ (lv_sub hl [2, 3, 4, 5, 1, 0] rfl) (fun H locs hP hD hS ls hl => ?_)
        refine lv_iconst (v := 1) hx hb dX9_measure_87 (by decide) ?_
        refine lv_topi (fun v5_4 ev5_4 => ?_)
        replace hm := lt_go ev5_4 hm
        refine lv_istore (lv' := [(5, .int v5_4), (0, .ref h_t), (1, .int a1), (2, .int v2_2), (3, .int v3_2), (4, .int v4_5)]) hx hb dX9_measure_88 hl (by decide) rfl (fun ls hl => ?_)
        have L90 : ∀ (n : Nat) (v5_5 : Int32) (f_t_extra_7 : Nat → Int32) (f_t_extra_8 : Nat → Int32), m_Ways_measure_L90 f_t_goals v3_2 v4_5 n v5_5 f_t_extra_7 = some f_t_extra_8 → ∀ (H : Heap) (locs : List Loc), va_P (dC, dI) vwCl [(h_t, .inr (8, [.int f_t_nearestNumber, .int f_t_nearestLength, .int f_t_goals, .int f_t_goers, .int f_t_reached, .ref h_t_goalTones, .ref h_t_goerTones, .ref h_t_extra, .ref h_t_goalPrices, .ref h_t_goerPrices, .ref h_t_goalOfGoer, .ref h_t_cameFrom, .ref h_t_slack])), (h_t_extra, .inl (cA, 169, .inl f_t_extra_7)), (h_t_goalTones, .inl (cA, 13, .inl f_t_goalTones)), (h_t_goerTones, .inl (cA, 13, .inl f_t_goerTones))] H → va_D A [(h_t, .inr (8, [.int f_t_nearestNumber, .int f_t_nearestLength, .int f_t_goals, .int f_t_goers, .int f_t_reached, .ref h_t_goalTones, .ref h_t_goerTones, .ref h_t_extra, .ref h_t_goalPrices, .ref h_t_goerPrices, .ref h_t_goalOfGoer, .ref h_t_cameFrom, .ref h_t_slack])), (h_t_extra, .inl (cA, 169, .inl f_t_extra_7)), (h_t_goalTones, .inl (cA, 13, .inl f_t_goalTones)), (h_t_goerTones, .inl (cA, 13, .inl f_t_goerTones))] → va_S A s.heap H locs → ∀ ls : Array Slot, lv_has ls 7 [(0, .ref h_t), (1, .int a1), (2, .int v2_2), (3, .int v3_2), (4, .int v4_5), (5, .int v5_5)] → (∀ (H : Heap) (locs : List Loc), va_P (dC, dI) vwCl [(h_t, .inr (8, [.int f_t_nearestNumber, .int f_t_nearestLength, .int f_t_goals, .int f_t_goers, .int f_t_reached, .ref h_t_goalTones, .ref h_t_goerTones, .ref h_t_extra, .ref h_t_goalPrices, .ref h_t_goerPrices, .ref h_t_goalOfGoer, .ref h_t_cameFrom, .ref h_t_slack])), (h_t_extra, .inl (cA, 169, .inl f_t_extra_8)), (h_t_goalTones, .inl (cA, 13, .inl f_t_goalTones)), (h_t_goerTones, .inl (cA, 13, .inl f_t_goerTones))] H → va_D A [(h_t, .inr (8, [.int f_t_nearestNumber, .int f_t_nearestLength, .int f_t_goals, .int f_t_goers, .int f_t_reached, .ref h_t_goalTones, .ref h_t_goerTones, .ref h_t_extra, .ref h_t_goalPrices, .ref h_t_goerPrices, .ref h_t_goalOfGoer, .ref h_t_cameFrom, .ref h_t_slack])), (h_t_extra, .inl (cA, 169, .inl f_t_extra_8)), (h_t_goalTones, .inl (cA, 13, .inl f_t_goalTones)), (h_t_goerTones, .inl (cA, 13, .inl f_t_goerTones))] → va_S A s.heap H locs → ∀ ls : Array Slot, lv_has ls 7 [(0, .ref h_t), (1, .int a1), (2, .int v2_2), (3, .int v3_2), (4, .int v4_5)] → W p l e (headSpec wsX9_measure rmX9_measure).room s m (([.ref h_t, .int a1] : List Value).toArray) below meth c H locs 0 0 Q (F0 m 122 ls [])) → W p l e (headSpec wsX9_measure rmX9_measure).room s m (([.ref h_t, .int a1] : List Value).toArray) below meth c H locs 0 0 Q (F0 m 90 ls []) := by
          clear hm hP hD hS hl
          intro n
          induction n with
          | zero => intro _ _ _ hm; exact nomatch (show none = some _ from hm)
          | succ n ih =>
            intro v5_5 f_t_extra_7 f_t_extra_8 hm H locs hP hD hS ls hl KK
            unfold m_Ways_measure_L90 at hm
            refine lv_iload hx hb dX9_measure_90 (lv_at hl 5 rfl) ?_
            refine lv_aload_n hx hb dX9_measure_92 rfl (lv_at hl 0 rfl) ?_
            refine va_get (D := (dC, dI)) (ci := 8) (v := .int f_t_goals) (C := RX9) (T := TX9) (N := 13) hx hb hts uX9 hown hK hP 0 rfl rfl 2 (by decide) k3 (fun _ h9 => h9) rfl dX9_measure_93 ?_
            refine lv_icmp_gt (tgt := 122) hx hb dX9_measure_96 (by decide) (fun c96 => ?_) (fun c96 => ?_)
            · replace hm := if_t c96 hm
              cases hm
              exact KK _ _ hP hD hS _ (lv_sub hl [0, 1, 2, 3, 4] rfl)
            · replace hm := if_f c96 hm
              refine lv_aload_n hx hb dX9_measure_99 rfl (lv_at hl 0 rfl) ?_
              refine va_get (D := (dC, dI)) (ci := 8) (v := .ref h_t_extra) (C := RX9) (T := TX9) (N := 13) hx hb hts uX9 hown hK hP 0 rfl rfl 7 (by decide) k13 (fun _ h9 => h9) rfl dX9_measure_100 ?_
              refine lv_iload hx hb dX9_measure_103 (lv_at hl 5 rfl) ?_
              refine lv_bipush (v := 13) hx hb dX9_measure_105 (by decide) ?_
              refine lv_imul hx hb dX9_measure_107 ?_
              refine lv_iload_n hx hb dX9_measure_108 rfl (lv_at hl 3 rfl) ?_
              refine lv_iadd hx hb dX9_measure_109 ?_
              refine lv_dup2_11 hx hb dX9_measure_110 rfl rfl ?_
              obtain ⟨b111, hm⟩ := ck_go hm
              refine va_iald hx hb hK hP 1 0 rfl rfl b111 dX9_measure_111 ?_
              refine lv_iload hx hb dX9_measure_112 (lv_at hl 4 rfl) ?_
              refine lv_isub hx hb dX9_measure_114 ?_
              obtain ⟨b115, hm⟩ := ck_go hm
              refine my_iast (W' := fun z' => [(h_t, .inr (8, [.int f_t_nearestNumber, .int f_t_nearestLength, .int f_t_goals, .int f_t_goers, .int f_t_reached, .ref h_t_goalTones, .ref h_t_goerTones, .ref h_t_extra, .ref h_t_goalPrices, .ref h_t_goerPrices, .ref h_t_goalOfGoer, .ref h_t_cameFrom, .ref h_t_slack])), (h_t_extra, .inl (cA, 169, .inl z')), (h_t_goalTones, .inl (cA, 13, .inl f_t_goalTones)), (h_t_goerTones, .inl (cA, 13, .inl f_t_goerTones))]) hx hb hK hP hD hS 1 0 rfl rfl b115 dX9_measure_115 (fun _ => rfl) (fun f_t_extra_9 ef_t_extra_9 H locs hP hD hS => ?_)
              replace hm := lt_go ef_t_extra_9 hm
              obtain ⟨v5_6, ev5_6⟩ : ∃ z : Int32, z = v5_5 + 1 := ⟨_, rfl⟩
              replace hm := lt_go ev5_6 hm
              refine lv_iinc (v := v5_6) (lv' := [(5, .int v5_6), (0, .ref h_t), (1, .int a1), (2, .int v2_2), (3, .int v3_2), (4, .int v4_5)]) hx hb dX9_measure_116 hl (k := 5) rfl (by rw [ev5_6]; rfl) (by decide) rfl (fun ls hl => ?_)
              refine lv_goto (tgt := 90) hx hb dX9_measure_119 (by decide) ?_
              exact ih _ _ _ hm _ _ hP hD hS _ (lv_sub hl [1, 2, 3, 4, 5, 0] rfl) KK
        obtain ⟨f_t_extra_10, hl90, hm⟩ := bd1_go hm
        refine L90 _ _ _ _ hl90 _ _ hP hD hS _ (lv_sub hl [1, 2, 3, 4, 5, 0] rfl) (fun H locs hP hD hS ls hl => ?_)
        refine lv_iload_n hx hb dX9_measure_122 rfl (lv_at hl 2 rfl) ?_
        refine lv_iload hx hb dX9_measure_123 (lv_at hl 4 rfl) ?_
        refine lv_iadd hx hb dX9_measure_125 ?_
        refine lv_topi (fun v2_4 ev2_4 => ?_)
        replace hm := lt_go ev2_4 hm
        refine lv_istore_n (lv' := [(2, .int v2_4), (0, .ref h_t), (1, .int a1), (3, .int v3_2), (4, .int v4_5)]) hx hb dX9_measure_126 rfl hl (by decide) rfl (fun ls hl => ?_)
        obtain ⟨v3_3, ev3_3⟩ : ∃ z : Int32, z = v3_2 + 1 := ⟨_, rfl⟩
        replace hm := lt_go ev3_3 hm
        refine lv_iinc (v := v3_3) (lv' := [(3, .int v3_3), (2, .int v2_4), (0, .ref h_t), (1, .int a1), (4, .int v4_5)]) hx hb dX9_measure_127 hl (k := 3) rfl (by rw [ev3_3]; rfl) (by decide) rfl (fun ls hl => ?_)
        refine lv_goto (tgt := 4) hx hb dX9_measure_130 (by decide) ?_
        exact ih _ _ _ _ _ hm _ _ hP hD hS _ (lv_sub hl [2, 3, 1, 0] rfl) KK
  obtain ⟨v2_5, f_t_extra_11, hl4, hm⟩ := bd2_go hm
  refine L4 _ _ _ _ _ _ hl4 _ _ hP hD hS _ (lv_sub hl [2, 3, 1, 0] rfl) (fun H locs hP hD hS ls hl => ?_)
  refine lv_iload_n hx hb dX9_measure_133 rfl (lv_at hl 0 rfl) ?_
  cases hm
  exact W_mono hQ (W.iret hx hb hr (fun t ht hW => ⟨⟨_, (), rfl, rfl, by rw [ht]; exact hP, va_K.moved hW.alike hK, hD⟩, hS.F ht⟩) hS.2.2 dX9_measure_134)
abbrev rmX9_isReached : Room := { frames := 0, cells := 0, slots := 0, locals := 0 }
theorem uX9_X9_isReached : ∀ w ∈ wsX90, w ∈ wsX9_isReached := fun _ h => List.mem_cons_of_mem _ (List.mem_append_right _ (h))
set_option maxHeartbeats 40000000 in
set_option maxRecDepth 100000 in
theorem c_Ways_isReached (l : Launch) (dC : Nat → ClassId) (dI : Nat → Nat → Nat) (cA : ClassId) (h_t h_t_goalTones h_t_goerTones h_t_extra h_t_goalPrices h_t_goerPrices h_t_goalOfGoer h_t_cameFrom h_t_slack : Nat) (f_t_nearestNumber : Int32) (f_t_nearestLength : Int32) (f_t_goals : Int32) (f_t_goers : Int32) (f_t_reached : Int32) (a1 : Int32) (r0 : Int32) (hm : m_Ways_isReached f_t_reached a1 = some r0) (sz : Nat) : Met l yX9_isReached wsX9_isReached rmX9_isReached (mPre (dC, dI) cA [.ref h_t, .int a1] sz [(h_t, .inr (8, [.int f_t_nearestNumber, .int f_t_nearestLength, .int f_t_goals, .int f_t_goers, .int f_t_reached, .ref h_t_goalTones, .ref h_t_goerTones, .ref h_t_extra, .ref h_t_goalPrices, .ref h_t_goerPrices, .ref h_t_goalOfGoer, .ref h_t_cameFrom, .ref h_t_slack]))]) (mPosI (dC, dI) cA r0 (va_A [(h_t, .inr (8, [.int f_t_nearestNumber, .int f_t_nearestLength, .int f_t_goals, .int f_t_goers, .int f_t_reached, .ref h_t_goalTones, .ref h_t_goerTones, .ref h_t_extra, .ref h_t_goalPrices, .ref h_t_goerPrices, .ref h_t_goalOfGoer, .ref h_t_cameFrom, .ref h_t_slack]))] sz) [(h_t, .inr (8, [.int f_t_nearestNumber, .int f_t_nearestLength, .int f_t_goals, .int f_t_goers, .int f_t_reached, .ref h_t_goalTones, .ref h_t_goerTones, .ref h_t_extra, .ref h_t_goalPrices, .ref h_t_goerPrices, .ref h_t_goalOfGoer, .ref h_t_cameFrom, .ref h_t_slack]))]) 0 0 (va_A [(h_t, .inr (8, [.int f_t_nearestNumber, .int f_t_nearestLength, .int f_t_goals, .int f_t_goers, .int f_t_reached, .ref h_t_goalTones, .ref h_t_goerTones, .ref h_t_extra, .ref h_t_goalPrices, .ref h_t_goerPrices, .ref h_t_goalOfGoer, .ref h_t_cameFrom, .ref h_t_slack]))] sz) := by
  refine Met.ofW (cc := cX9_isReached) (maxL := 2) (ret := (some .boolean)) (by decide) rfl ?_
  intro p e s m args below meth c s₁ B hml hv
  obtain ⟨rfl, hsz, hP, hK, hD0⟩ := hv
  refine W_gen (fun Q hQ => ?_)
  have hx := B.exec
  have hb := B.bytes
  have hr := B.returns
  have hts := atoms_spec (ws := wsX9_isReached) B.pre
  have hown : s.vm.findClass RX9 = some m.cls := findClass_of_methodNamed B.named
  have hlocks := B.notSynchronized
  subst hsz
  have hD := hD0.self (sz := s.heap.size)
  clear hD0
  generalize hAe : va_A [(h_t, .inr (8, [.int f_t_nearestNumber, .int f_t_nearestLength, .int f_t_goals, .int f_t_goers, .int f_t_reached, .ref h_t_goalTones, .ref h_t_goerTones, .ref h_t_extra, .ref h_t_goalPrices, .ref h_t_goerPrices, .ref h_t_goalOfGoer, .ref h_t_cameFrom, .ref h_t_slack]))] s.heap.size = A at hD hQ
  have hA : ∀ q : Nat, s.heap.size ≤ q → A q := fun q h => by rw [← hAe]; exact Or.inr h
  clear hAe
  have hS : va_S A s.heap s.heap [] := va_S.rf
  have hl := lv_entry ([.ref h_t, .int a1]) (n := 2) (Nat.le_of_ble_eq_true rfl)
  rw [lg_entry_eq]
  generalize (lg_sl ([.ref h_t, .int a1]) ++ List.replicate (2 - (lg_sl ([.ref h_t, .int a1])).length) Slot.unset).toArray = ls at hl ⊢
  have hl : lv_has ls 2 [(0, .ref h_t), (1, .int a1)] := hl
  have k1 := hts (.fieldLink RX9 24 "ToneSets$Ways" "reached" "I") (List.mem_of_getElem? (i := 1) rfl)
  have uX9 := uX9_X9_isReached
  unfold m_Ways_isReached at hm
  refine lv_aload_n hx hb dX9_isReached_0 rfl (lv_at hl 0 rfl) ?_
  refine va_get (D := (dC, dI)) (ci := 8) (v := .int f_t_reached) (C := RX9) (T := TX9) (N := 13) hx hb hts uX9 hown hK hP 0 rfl rfl 4 (by decide) k1 (fun _ h9 => h9) rfl dX9_isReached_1 ?_
  refine lv_iconst (v := 1) hx hb dX9_isReached_4 (by decide) ?_
  refine lv_iload_n hx hb dX9_isReached_5 rfl (lv_at hl 1 rfl) ?_
  refine lv_ishl hx hb dX9_isReached_6 ?_
  refine lv_iand hx hb dX9_isReached_7 ?_
  refine lv_if_eq (tgt := 15) hx hb dX9_isReached_8 (by decide) (fun c8 => ?_) (fun c8 => ?_)
  · replace hm := if_t c8 hm
    refine lv_iconst (v := 0) hx hb dX9_isReached_15 (by decide) ?_
    cases hm
    exact W_mono hQ (W.zret hx hb hr rfl (fun t ht hW => ⟨⟨_, (), rfl, rfl, by rw [ht]; exact hP, va_K.moved hW.alike hK, hD⟩, hS.F ht⟩) hS.2.2 dX9_isReached_16)
  · replace hm := if_f c8 hm
    refine lv_iconst (v := 1) hx hb dX9_isReached_11 (by decide) ?_
    refine lv_goto (tgt := 16) hx hb dX9_isReached_12 (by decide) ?_
    cases hm
    exact W_mono hQ (W.zret hx hb hr rfl (fun t ht hW => ⟨⟨_, (), rfl, rfl, by rw [ht]; exact hP, va_K.moved hW.alike hK, hD⟩, hS.F ht⟩) hS.2.2 dX9_isReached_16)
abbrev rmX9_closestUnreached : Room := { frames := 1, cells := 0, slots := 0, locals := 21 }
theorem uX9_X9_closestUnreached : ∀ w ∈ wsX90, w ∈ wsX9_closestUnreached := fun _ h => List.mem_cons_of_mem _ (List.mem_append_right _ (h))
set_option maxHeartbeats 40000000 in
set_option maxRecDepth 100000 in
theorem c_Ways_closestUnreached (l : Launch) (dC : Nat → ClassId) (dI : Nat → Nat → Nat) (cA : ClassId) (fu : Nat) (h_t h_t_goalTones h_t_goerTones h_t_extra h_t_goalPrices h_t_goerPrices h_t_goalOfGoer h_t_cameFrom h_t_slack : Nat) (f_t_nearestNumber : Int32) (f_t_nearestLength : Int32) (f_t_goals : Int32) (f_t_goers : Int32) (f_t_reached : Int32) (f_t_cameFrom : Nat → Int32) (f_t_extra : Nat → Int32) (f_t_goalOfGoer : Nat → Int32) (f_t_goalPrices : Nat → Int32) (f_t_goerPrices : Nat → Int32) (f_t_slack : Nat → Int32) (a1 : Int32) (r0 : Int32) (f_t_cameFrom_z : Nat → Int32) (f_t_slack_z : Nat → Int32) (hm : m_Ways_closestUnreached fu f_t_cameFrom f_t_extra f_t_goalOfGoer f_t_goalPrices f_t_goerPrices f_t_goers f_t_reached f_t_slack a1 = some (r0, f_t_cameFrom_z, f_t_slack_z)) (sz : Nat) : Met l yX9_closestUnreached wsX9_closestUnreached rmX9_closestUnreached (mPre (dC, dI) cA [.ref h_t, .int a1] sz [(h_t, .inr (8, [.int f_t_nearestNumber, .int f_t_nearestLength, .int f_t_goals, .int f_t_goers, .int f_t_reached, .ref h_t_goalTones, .ref h_t_goerTones, .ref h_t_extra, .ref h_t_goalPrices, .ref h_t_goerPrices, .ref h_t_goalOfGoer, .ref h_t_cameFrom, .ref h_t_slack])), (h_t_cameFrom, .inl (cA, 13, .inl f_t_cameFrom)), (h_t_extra, .inl (cA, 169, .inl f_t_extra)), (h_t_goalOfGoer, .inl (cA, 13, .inl f_t_goalOfGoer)), (h_t_goalPrices, .inl (cA, 13, .inl f_t_goalPrices)), (h_t_goerPrices, .inl (cA, 13, .inl f_t_goerPrices)), (h_t_slack, .inl (cA, 13, .inl f_t_slack))]) (mPosI (dC, dI) cA r0 (va_A [(h_t, .inr (8, [.int f_t_nearestNumber, .int f_t_nearestLength, .int f_t_goals, .int f_t_goers, .int f_t_reached, .ref h_t_goalTones, .ref h_t_goerTones, .ref h_t_extra, .ref h_t_goalPrices, .ref h_t_goerPrices, .ref h_t_goalOfGoer, .ref h_t_cameFrom, .ref h_t_slack])), (h_t_cameFrom, .inl (cA, 13, .inl f_t_cameFrom)), (h_t_extra, .inl (cA, 169, .inl f_t_extra)), (h_t_goalOfGoer, .inl (cA, 13, .inl f_t_goalOfGoer)), (h_t_goalPrices, .inl (cA, 13, .inl f_t_goalPrices)), (h_t_goerPrices, .inl (cA, 13, .inl f_t_goerPrices)), (h_t_slack, .inl (cA, 13, .inl f_t_slack))] sz) [(h_t, .inr (8, [.int f_t_nearestNumber, .int f_t_nearestLength, .int f_t_goals, .int f_t_goers, .int f_t_reached, .ref h_t_goalTones, .ref h_t_goerTones, .ref h_t_extra, .ref h_t_goalPrices, .ref h_t_goerPrices, .ref h_t_goalOfGoer, .ref h_t_cameFrom, .ref h_t_slack])), (h_t_cameFrom, .inl (cA, 13, .inl f_t_cameFrom_z)), (h_t_extra, .inl (cA, 169, .inl f_t_extra)), (h_t_goalOfGoer, .inl (cA, 13, .inl f_t_goalOfGoer)), (h_t_goalPrices, .inl (cA, 13, .inl f_t_goalPrices)), (h_t_goerPrices, .inl (cA, 13, .inl f_t_goerPrices)), (h_t_slack, .inl (cA, 13, .inl f_t_slack_z))]) 0 0 (va_A [(h_t, .inr (8, [.int f_t_nearestNumber, .int f_t_nearestLength, .int f_t_goals, .int f_t_goers, .int f_t_reached, .ref h_t_goalTones, .ref h_t_goerTones, .ref h_t_extra, .ref h_t_goalPrices, .ref h_t_goerPrices, .ref h_t_goalOfGoer, .ref h_t_cameFrom, .ref h_t_slack])), (h_t_cameFrom, .inl (cA, 13, .inl f_t_cameFrom)), (h_t_extra, .inl (cA, 169, .inl f_t_extra)), (h_t_goalOfGoer, .inl (cA, 13, .inl f_t_goalOfGoer)), (h_t_goalPrices, .inl (cA, 13, .inl f_t_goalPrices)), (h_t_goerPrices, .inl (cA, 13, .inl f_t_goerPrices)), (h_t_slack, .inl (cA, 13, .inl f_t_slack))] sz) := by
  refine Met.ofW (cc := cX9_closestUnreached) (maxL := 6) (ret := (some .int)) (by decide) rfl ?_
  intro p e s m args below meth c s₁ B hml hv
  obtain ⟨rfl, hsz, hP, hK, hD0⟩ := hv
  refine W_gen (fun Q hQ => ?_)
  have hx := B.exec
  have hb := B.bytes
  have hr := B.returns
  have hts := atoms_spec (ws := wsX9_closestUnreached) B.pre
  have hown : s.vm.findClass RX9 = some m.cls := findClass_of_methodNamed B.named
  have hlocks := B.notSynchronized
  subst hsz
  have hD := hD0.self (sz := s.heap.size)
  clear hD0
  generalize hAe : va_A [(h_t, .inr (8, [.int f_t_nearestNumber, .int f_t_nearestLength, .int f_t_goals, .int f_t_goers, .int f_t_reached, .ref h_t_goalTones, .ref h_t_goerTones, .ref h_t_extra, .ref h_t_goalPrices, .ref h_t_goerPrices, .ref h_t_goalOfGoer, .ref h_t_cameFrom, .ref h_t_slack])), (h_t_cameFrom, .inl (cA, 13, .inl f_t_cameFrom)), (h_t_extra, .inl (cA, 169, .inl f_t_extra)), (h_t_goalOfGoer, .inl (cA, 13, .inl f_t_goalOfGoer)), (h_t_goalPrices, .inl (cA, 13, .inl f_t_goalPrices)), (h_t_goerPrices, .inl (cA, 13, .inl f_t_goerPrices)), (h_t_slack, .inl (cA, 13, .inl f_t_slack))] s.heap.size = A at hD hQ
  have hA : ∀ q : Nat, s.heap.size ≤ q → A q := fun q h => by rw [← hAe]; exact Or.inr h
  clear hAe
  have hS : va_S A s.heap s.heap [] := va_S.rf
  have hl := lv_entry ([.ref h_t, .int a1]) (n := 6) (Nat.le_of_ble_eq_true rfl)
  rw [lg_entry_eq]
  generalize (lg_sl ([.ref h_t, .int a1]) ++ List.replicate (6 - (lg_sl ([.ref h_t, .int a1])).length) Slot.unset).toArray = ls at hl ⊢
  have hl : lv_has ls 6 [(0, .ref h_t), (1, .int a1)] := hl
  have k1 := hts (.fieldLink RX9 43 "ToneSets$Ways" "goalOfGoer" "[I") (List.mem_of_getElem? (i := 1) rfl)
  have k2 := hts (.fieldLink RX9 21 "ToneSets$Ways" "goers" "I") (List.mem_of_getElem? (i := 2) rfl)
  have k3 := hts (.fieldLink RX9 34 "ToneSets$Ways" "extra" "[I") (List.mem_of_getElem? (i := 3) rfl)
  have k4 := hts (.fieldLink RX9 37 "ToneSets$Ways" "goalPrices" "[I") (List.mem_of_getElem? (i := 4) rfl)
  have k5 := hts (.fieldLink RX9 40 "ToneSets$Ways" "goerPrices" "[I") (List.mem_of_getElem? (i := 5) rfl)
  have k6 := hts (.fieldLink RX9 49 "ToneSets$Ways" "slack" "[I") (List.mem_of_getElem? (i := 6) rfl)
  have k7 := hts (.fieldLink RX9 46 "ToneSets$Ways" "cameFrom" "[I") (List.mem_of_getElem? (i := 7) rfl)
  have uX9 := uX9_X9_closestUnreached
  unfold m_Ways_closestUnreached at hm
  refine lv_aload_n hx hb dX9_closestUnreached_0 rfl (lv_at hl 0 rfl) ?_
  refine va_get (D := (dC, dI)) (ci := 8) (v := .ref h_t_goalOfGoer) (C := RX9) (T := TX9) (N := 13) hx hb hts uX9 hown hK hP 0 rfl rfl 10 (by decide) k1 (fun _ h9 => h9) rfl dX9_closestUnreached_1 ?_
  refine lv_iload_n hx hb dX9_closestUnreached_4 rfl (lv_at hl 1 rfl) ?_
  obtain ⟨b5, hm⟩ := ck_go hm
  refine va_iald hx hb hK hP 3 0 rfl rfl b5 dX9_closestUnreached_5 ?_
  refine lv_topi (fun v2_1 ev2_1 => ?_)
  replace hm := lt_go ev2_1 hm
  refine lv_istore_n (lv' := [(2, .int v2_1), (0, .ref h_t), (1, .int a1)]) hx hb dX9_closestUnreached_6 rfl hl (by decide) rfl (fun ls hl => ?_)
  refine lv_iconst (v := 0) hx hb dX9_closestUnreached_7 (by decide) ?_
  refine lv_topi (fun v3_1 ev3_1 => ?_)
  replace hm := lt_go ev3_1 hm
  refine lv_istore_n (lv' := [(3, .int v3_1), (2, .int v2_1), (0, .ref h_t), (1, .int a1)]) hx hb dX9_closestUnreached_8 rfl hl (by decide) rfl (fun ls hl => ?_)
  refine lv_iconst (v := 1) hx hb dX9_closestUnreached_9 (by decide) ?_
  refine lv_topi (fun v4_1 ev4_1 => ?_)
  replace hm := lt_go ev4_1 hm
  refine lv_istore (lv' := [(4, .int v4_1), (3, .int v3_1), (2, .int v2_1), (0, .ref h_t), (1, .int a1)]) hx hb dX9_closestUnreached_10 hl (by decide) rfl (fun ls hl => ?_)
  have L12 : ∀ (n : Nat) (v3_2 : Int32) (v4_2 : Int32) (f_t_cameFrom_1 : Nat → Int32) (f_t_slack_1 : Nat → Int32) (v3_3 : Int32) (f_t_cameFrom_2 : Nat → Int32) (f_t_slack_2 : Nat → Int32), m_Ways_closestUnreached_L12 f_t_goers f_t_reached v2_1 f_t_extra f_t_goalPrices f_t_goerPrices a1 n v3_2 v4_2 f_t_cameFrom_1 f_t_slack_1 = some (v3_3, f_t_cameFrom_2, f_t_slack_2) → ∀ (H : Heap) (locs : List Loc), va_P (dC, dI) vwCl [(h_t, .inr (8, [.int f_t_nearestNumber, .int f_t_nearestLength, .int f_t_goals, .int f_t_goers, .int f_t_reached, .ref h_t_goalTones, .ref h_t_goerTones, .ref h_t_extra, .ref h_t_goalPrices, .ref h_t_goerPrices, .ref h_t_goalOfGoer, .ref h_t_cameFrom, .ref h_t_slack])), (h_t_cameFrom, .inl (cA, 13, .inl f_t_cameFrom_1)), (h_t_extra, .inl (cA, 169, .inl f_t_extra)), (h_t_goalOfGoer, .inl (cA, 13, .inl f_t_goalOfGoer)), (h_t_goalPrices, .inl (cA, 13, .inl f_t_goalPrices)), (h_t_goerPrices, .inl (cA, 13, .inl f_t_goerPrices)), (h_t_slack, .inl (cA, 13, .inl f_t_slack_1))] H → va_D A [(h_t, .inr (8, [.int f_t_nearestNumber, .int f_t_nearestLength, .int f_t_goals, .int f_t_goers, .int f_t_reached, .ref h_t_goalTones, .ref h_t_goerTones, .ref h_t_extra, .ref h_t_goalPrices, .ref h_t_goerPrices, .ref h_t_goalOfGoer, .ref h_t_cameFrom, .ref h_t_slack])), (h_t_cameFrom, .inl (cA, 13, .inl f_t_cameFrom_1)), (h_t_extra, .inl (cA, 169, .inl f_t_extra)), (h_t_goalOfGoer, .inl (cA, 13, .inl f_t_goalOfGoer)), (h_t_goalPrices, .inl (cA, 13, .inl f_t_goalPrices)), (h_t_goerPrices, .inl (cA, 13, .inl f_t_goerPrices)), (h_t_slack, .inl (cA, 13, .inl f_t_slack_1))] → va_S A s.heap H locs → ∀ ls : Array Slot, lv_has ls 6 [(0, .ref h_t), (1, .int a1), (2, .int v2_1), (3, .int v3_2), (4, .int v4_2)] → (∀ (H : Heap) (locs : List Loc), va_P (dC, dI) vwCl [(h_t, .inr (8, [.int f_t_nearestNumber, .int f_t_nearestLength, .int f_t_goals, .int f_t_goers, .int f_t_reached, .ref h_t_goalTones, .ref h_t_goerTones, .ref h_t_extra, .ref h_t_goalPrices, .ref h_t_goerPrices, .ref h_t_goalOfGoer, .ref h_t_cameFrom, .ref h_t_slack])), (h_t_cameFrom, .inl (cA, 13, .inl f_t_cameFrom_2)), (h_t_extra, .inl (cA, 169, .inl f_t_extra)), (h_t_goalOfGoer, .inl (cA, 13, .inl f_t_goalOfGoer)), (h_t_goalPrices, .inl (cA, 13, .inl f_t_goalPrices)), (h_t_goerPrices, .inl (cA, 13, .inl f_t_goerPrices)), (h_t_slack, .inl (cA, 13, .inl f_t_slack_2))] H → va_D A [(h_t, .inr (8, [.int f_t_nearestNumber, .int f_t_nearestLength, .int f_t_goals, .int f_t_goers, .int f_t_reached, .ref h_t_goalTones, .ref h_t_goerTones, .ref h_t_extra, .ref h_t_goalPrices, .ref h_t_goerPrices, .ref h_t_goalOfGoer, .ref h_t_cameFrom, .ref h_t_slack])), (h_t_cameFrom, .inl (cA, 13, .inl f_t_cameFrom_2)), (h_t_extra, .inl (cA, 169, .inl f_t_extra)), (h_t_goalOfGoer, .inl (cA, 13, .inl f_t_goalOfGoer)), (h_t_goalPrices, .inl (cA, 13, .inl f_t_goalPrices)), (h_t_goerPrices, .inl (cA, 13, .inl f_t_goerPrices)), (h_t_slack, .inl (cA, 13, .inl f_t_slack_2))] → va_S A s.heap H locs → ∀ ls : Array Slot, lv_has ls 6 [(3, .int v3_3)] → W p l e (headSpec wsX9_closestUnreached rmX9_closestUnreached).room s m (([.ref h_t, .int a1] : List Value).toArray) below meth c H locs 0 0 Q (F0 m 120 ls [])) → W p l e (headSpec wsX9_closestUnreached rmX9_closestUnreached).room s m (([.ref h_t, .int a1] : List Value).toArray) below meth c H locs 0 0 Q (F0 m 12 ls []) := by
    clear hm hP hD hS hl
    intro n
    induction n with
    | zero => intro _ _ _ _ _ _ _ hm; exact nomatch (show none = some _ from hm)
    | succ n ih =>
      intro v3_2 v4_2 f_t_cameFrom_1 f_t_slack_1 v3_3 f_t_cameFrom_2 f_t_slack_2 hm H locs hP hD hS ls hl KK
      unfold m_Ways_closestUnreached_L12 at hm
      refine lv_iload hx hb dX9_closestUnreached_12 (lv_at hl 4 rfl) ?_
      refine lv_aload_n hx hb dX9_closestUnreached_14 rfl (lv_at hl 0 rfl) ?_
      refine va_get (D := (dC, dI)) (ci := 8) (v := .int f_t_goers) (C := RX9) (T := TX9) (N := 13) hx hb hts uX9 hown hK hP 0 rfl rfl 3 (by decide) k2 (fun _ h9 => h9) rfl dX9_closestUnreached_15 ?_
      refine lv_icmp_gt (tgt := 120) hx hb dX9_closestUnreached_18 (by decide) (fun c18 => ?_) (fun c18 => ?_)
      · replace hm := if_t c18 hm
        cases hm
        exact KK _ _ hP hD hS _ (lv_sub hl [3] rfl)
      · replace hm := if_f c18 hm
        refine lv_aload_n hx hb dX9_closestUnreached_21 rfl (lv_at hl 0 rfl) ?_
        refine lv_iload hx hb dX9_closestUnreached_22 (lv_at hl 4 rfl) ?_
        obtain ⟨r_1, hc24, hm⟩ := bd1_go hm
        refine my_cVi (As := [.int v4_2]) (rest := []) (WC := [(h_t, .inr (8, [.int f_t_nearestNumber, .int f_t_nearestLength, .int f_t_goals, .int f_t_goers, .int f_t_reached, .ref h_t_goalTones, .ref h_t_goerTones, .ref h_t_extra, .ref h_t_goalPrices, .ref h_t_goerPrices, .ref h_t_goalOfGoer, .ref h_t_cameFrom, .ref h_t_slack]))]) (WC' := [(h_t, .inr (8, [.int f_t_nearestNumber, .int f_t_nearestLength, .int f_t_goals, .int f_t_goers, .int f_t_reached, .ref h_t_goalTones, .ref h_t_goerTones, .ref h_t_extra, .ref h_t_goalPrices, .ref h_t_goerPrices, .ref h_t_goalOfGoer, .ref h_t_cameFrom, .ref h_t_slack]))]) (WR := [(h_t_cameFrom, .inl (cA, 13, .inl f_t_cameFrom_1)), (h_t_extra, .inl (cA, 169, .inl f_t_extra)), (h_t_goalOfGoer, .inl (cA, 13, .inl f_t_goalOfGoer)), (h_t_goalPrices, .inl (cA, 13, .inl f_t_goalPrices)), (h_t_goerPrices, .inl (cA, 13, .inl f_t_goerPrices)), (h_t_slack, .inl (cA, 13, .inl f_t_slack_1))]) (W' := [(h_t, .inr (8, [.int f_t_nearestNumber, .int f_t_nearestLength, .int f_t_goals, .int f_t_goers, .int f_t_reached, .ref h_t_goalTones, .ref h_t_goerTones, .ref h_t_extra, .ref h_t_goalPrices, .ref h_t_goerPrices, .ref h_t_goalOfGoer, .ref h_t_cameFrom, .ref h_t_slack])), (h_t_cameFrom, .inl (cA, 13, .inl f_t_cameFrom_1)), (h_t_extra, .inl (cA, 169, .inl f_t_extra)), (h_t_goalOfGoer, .inl (cA, 13, .inl f_t_goalOfGoer)), (h_t_goalPrices, .inl (cA, 13, .inl f_t_goalPrices)), (h_t_goerPrices, .inl (cA, 13, .inl f_t_goerPrices)), (h_t_slack, .inl (cA, 13, .inl f_t_slack_1))]) ⟨hx, hb, hml, hown, hts⟩ hK hP hD hS hA (c_Ways_isReached l dC dI cA h_t h_t_goalTones h_t_goerTones h_t_extra h_t_goalPrices h_t_goerPrices h_t_goalOfGoer h_t_cameFrom h_t_slack f_t_nearestNumber f_t_nearestLength f_t_goals f_t_goers f_t_reached v4_2 r_1 hc24) (cwV 1 hts gX9_closestUnreached_X9_isReached rfl rfl rfl (by decide +kernel) ⟨Nat.le_of_ble_eq_true rfl, Nat.le_of_ble_eq_true rfl⟩) [0] [1, 2, 3, 4, 5, 6] [6, 0, 1, 2, 3, 4, 5] rfl rfl rfl rfl (ci := 8) (q0 := 0) rfl rfl rfl rfl hl.1 (Nat.le_of_ble_eq_true rfl) dX9_closestUnreached_24 ⟨Nat.zero_le _, Nat.zero_le _⟩ (fun H locs hP hD hS => ?_)
        obtain ⟨v3_4, f_t_cameFrom_3, f_t_slack_3, hqJ_1, hm⟩ := bd3_go hm
        have J_1 : ∀ (H : Heap) (locs : List Loc), va_P (dC, dI) vwCl [(h_t, .inr (8, [.int f_t_nearestNumber, .int f_t_nearestLength, .int f_t_goals, .int f_t_goers, .int f_t_reached, .ref h_t_goalTones, .ref h_t_goerTones, .ref h_t_extra, .ref h_t_goalPrices, .ref h_t_goerPrices, .ref h_t_goalOfGoer, .ref h_t_cameFrom, .ref h_t_slack])), (h_t_cameFrom, .inl (cA, 13, .inl f_t_cameFrom_3)), (h_t_extra, .inl (cA, 169, .inl f_t_extra)), (h_t_goalOfGoer, .inl (cA, 13, .inl f_t_goalOfGoer)), (h_t_goalPrices, .inl (cA, 13, .inl f_t_goalPrices)), (h_t_goerPrices, .inl (cA, 13, .inl f_t_goerPrices)), (h_t_slack, .inl (cA, 13, .inl f_t_slack_3))] H → va_D A [(h_t, .inr (8, [.int f_t_nearestNumber, .int f_t_nearestLength, .int f_t_goals, .int f_t_goers, .int f_t_reached, .ref h_t_goalTones, .ref h_t_goerTones, .ref h_t_extra, .ref h_t_goalPrices, .ref h_t_goerPrices, .ref h_t_goalOfGoer, .ref h_t_cameFrom, .ref h_t_slack])), (h_t_cameFrom, .inl (cA, 13, .inl f_t_cameFrom_3)), (h_t_extra, .inl (cA, 169, .inl f_t_extra)), (h_t_goalOfGoer, .inl (cA, 13, .inl f_t_goalOfGoer)), (h_t_goalPrices, .inl (cA, 13, .inl f_t_goalPrices)), (h_t_goerPrices, .inl (cA, 13, .inl f_t_goerPrices)), (h_t_slack, .inl (cA, 13, .inl f_t_slack_3))] → va_S A s.heap H locs → ∀ ls : Array Slot, lv_has ls 6 [(0, .ref h_t), (1, .int a1), (2, .int v2_1), (3, .int v3_4), (4, .int v4_2)] → W p l e (headSpec wsX9_closestUnreached rmX9_closestUnreached).room s m (([.ref h_t, .int a1] : List Value).toArray) below meth c H locs 0 0 Q (F0 m 114 ls []) := by
          intro H locs hP hD hS ls hl
          clear hqJ_1
          obtain ⟨v4_3, ev4_3⟩ : ∃ z : Int32, z = v4_2 + 1 := ⟨_, rfl⟩
          replace hm := lt_go ev4_3 hm
          refine lv_iinc (v := v4_3) (lv' := [(4, .int v4_3), (0, .ref h_t), (1, .int a1), (2, .int v2_1), (3, .int v3_4)]) hx hb dX9_closestUnreached_114 hl (k := 4) rfl (by rw [ev4_3]; rfl) (by decide) rfl (fun ls hl => ?_)
          refine lv_goto (tgt := 12) hx hb dX9_closestUnreached_117 (by decide) ?_
          exact ih _ _ _ _ _ _ _ hm _ _ hP hD hS _ (lv_sub hl [1, 2, 3, 4, 0] rfl) KK
        clear hm
        refine lv_if_eq (tgt := 33) hx hb dX9_closestUnreached_27 (by decide) (fun c27 => ?_) (fun c27 => ?_)
        · replace hqJ_1 := if_t c27 hqJ_1
          refine lv_aload_n hx hb dX9_closestUnreached_33 rfl (lv_at hl 0 rfl) ?_
          refine va_get (D := (dC, dI)) (ci := 8) (v := .ref h_t_extra) (C := RX9) (T := TX9) (N := 13) hx hb hts uX9 hown hK hP 0 rfl rfl 7 (by decide) k3 (fun _ h9 => h9) rfl dX9_closestUnreached_34 ?_
          refine lv_iload_n hx hb dX9_closestUnreached_37 rfl (lv_at hl 2 rfl) ?_
          refine lv_bipush (v := 13) hx hb dX9_closestUnreached_38 (by decide) ?_
          refine lv_imul hx hb dX9_closestUnreached_40 ?_
          refine lv_iload hx hb dX9_closestUnreached_41 (lv_at hl 4 rfl) ?_
          refine lv_iadd hx hb dX9_closestUnreached_43 ?_
          obtain ⟨b44, hqJ_1⟩ := ck_go hqJ_1
          refine va_iald hx hb hK hP 2 0 rfl rfl b44 dX9_closestUnreached_44 ?_
          refine lv_aload_n hx hb dX9_closestUnreached_45 rfl (lv_at hl 0 rfl) ?_
          refine va_get (D := (dC, dI)) (ci := 8) (v := .ref h_t_goalPrices) (C := RX9) (T := TX9) (N := 13) hx hb hts uX9 hown hK hP 0 rfl rfl 8 (by decide) k4 (fun _ h9 => h9) rfl dX9_closestUnreached_46 ?_
          refine lv_iload_n hx hb dX9_closestUnreached_49 rfl (lv_at hl 2 rfl) ?_
          obtain ⟨b50, hqJ_1⟩ := ck_go hqJ_1
          refine va_iald hx hb hK hP 4 0 rfl rfl b50 dX9_closestUnreached_50 ?_
          refine lv_isub hx hb dX9_closestUnreached_51 ?_
          refine lv_aload_n hx hb dX9_closestUnreached_52 rfl (lv_at hl 0 rfl) ?_
          refine va_get (D := (dC, dI)) (ci := 8) (v := .ref h_t_goerPrices) (C := RX9) (T := TX9) (N := 13) hx hb hts uX9 hown hK hP 0 rfl rfl 9 (by decide) k5 (fun _ h9 => h9) rfl dX9_closestUnreached_53 ?_
          refine lv_iload hx hb dX9_closestUnreached_56 (lv_at hl 4 rfl) ?_
          obtain ⟨b58, hqJ_1⟩ := ck_go hqJ_1
          refine va_iald hx hb hK hP 5 0 rfl rfl b58 dX9_closestUnreached_58 ?_
          refine lv_isub hx hb dX9_closestUnreached_59 ?_
          refine lv_topi (fun v5_1 ev5_1 => ?_)
          replace hqJ_1 := lt_go ev5_1 hqJ_1
          refine lv_istore (lv' := [(5, .int v5_1), (0, .ref h_t), (1, .int a1), (2, .int v2_1), (3, .int v3_2), (4, .int v4_2)]) hx hb dX9_closestUnreached_60 hl (by decide) rfl (fun ls hl => ?_)
          refine lv_iload hx hb dX9_closestUnreached_62 (lv_at hl 0 rfl) ?_
          refine lv_aload_n hx hb dX9_closestUnreached_64 rfl (lv_at hl 1 rfl) ?_
          refine va_get (D := (dC, dI)) (ci := 8) (v := .ref h_t_slack) (C := RX9) (T := TX9) (N := 13) hx hb hts uX9 hown hK hP 0 rfl rfl 12 (by decide) k6 (fun _ h9 => h9) rfl dX9_closestUnreached_65 ?_
          refine lv_iload hx hb dX9_closestUnreached_68 (lv_at hl 5 rfl) ?_
          obtain ⟨b70, hqJ_1⟩ := ck_go hqJ_1
          refine va_iald hx hb hK hP 6 0 rfl rfl b70 dX9_closestUnreached_70 ?_
          obtain ⟨f_t_cameFrom_4, f_t_slack_4, hqJ_2, hqJ_1⟩ := bd2_go hqJ_1
          have J_2 : ∀ (H : Heap) (locs : List Loc), va_P (dC, dI) vwCl [(h_t, .inr (8, [.int f_t_nearestNumber, .int f_t_nearestLength, .int f_t_goals, .int f_t_goers, .int f_t_reached, .ref h_t_goalTones, .ref h_t_goerTones, .ref h_t_extra, .ref h_t_goalPrices, .ref h_t_goerPrices, .ref h_t_goalOfGoer, .ref h_t_cameFrom, .ref h_t_slack])), (h_t_cameFrom, .inl (cA, 13, .inl f_t_cameFrom_4)), (h_t_extra, .inl (cA, 169, .inl f_t_extra)), (h_t_goalOfGoer, .inl (cA, 13, .inl f_t_goalOfGoer)), (h_t_goalPrices, .inl (cA, 13, .inl f_t_goalPrices)), (h_t_goerPrices, .inl (cA, 13, .inl f_t_goerPrices)), (h_t_slack, .inl (cA, 13, .inl f_t_slack_4))] H → va_D A [(h_t, .inr (8, [.int f_t_nearestNumber, .int f_t_nearestLength, .int f_t_goals, .int f_t_goers, .int f_t_reached, .ref h_t_goalTones, .ref h_t_goerTones, .ref h_t_extra, .ref h_t_goalPrices, .ref h_t_goerPrices, .ref h_t_goalOfGoer, .ref h_t_cameFrom, .ref h_t_slack])), (h_t_cameFrom, .inl (cA, 13, .inl f_t_cameFrom_4)), (h_t_extra, .inl (cA, 169, .inl f_t_extra)), (h_t_goalOfGoer, .inl (cA, 13, .inl f_t_goalOfGoer)), (h_t_goalPrices, .inl (cA, 13, .inl f_t_goalPrices)), (h_t_goerPrices, .inl (cA, 13, .inl f_t_goerPrices)), (h_t_slack, .inl (cA, 13, .inl f_t_slack_4))] → va_S A s.heap H locs → ∀ ls : Array Slot, lv_has ls 6 [(0, .ref h_t), (1, .int a1), (2, .int v2_1), (3, .int v3_2), (4, .int v4_2)] → W p l e (headSpec wsX9_closestUnreached rmX9_closestUnreached).room s m (([.ref h_t, .int a1] : List Value).toArray) below meth c H locs 0 0 Q (F0 m 91 ls []) := by
            intro H locs hP hD hS ls hl
            clear hqJ_2
            refine lv_iload_n hx hb dX9_closestUnreached_91 rfl (lv_at hl 3 rfl) ?_
            refine lv_if_eq (tgt := 111) hx hb dX9_closestUnreached_92 (by decide) (fun c92 => ?_) (fun c92 => ?_)
            · replace hqJ_1 := if_t c92 hqJ_1
              refine lv_iload hx hb dX9_closestUnreached_111 (lv_at hl 4 rfl) ?_
              refine lv_topi (fun v3_5 ev3_5 => ?_)
              replace hqJ_1 := lt_go ev3_5 hqJ_1
              refine lv_istore_n (lv' := [(3, .int v3_5), (0, .ref h_t), (1, .int a1), (2, .int v2_1), (4, .int v4_2)]) hx hb dX9_closestUnreached_113 rfl hl (by decide) rfl (fun ls hl => ?_)
              cases hqJ_1
              exact J_1 _ _ hP hD hS _ (lv_sub hl [1, 2, 3, 0, 4] rfl)
            · replace hqJ_1 := if_f c92 hqJ_1
              refine lv_aload_n hx hb dX9_closestUnreached_95 rfl (lv_at hl 0 rfl) ?_
              refine va_get (D := (dC, dI)) (ci := 8) (v := .ref h_t_slack) (C := RX9) (T := TX9) (N := 13) hx hb hts uX9 hown hK hP 0 rfl rfl 12 (by decide) k6 (fun _ h9 => h9) rfl dX9_closestUnreached_96 ?_
              refine lv_iload hx hb dX9_closestUnreached_99 (lv_at hl 4 rfl) ?_
              obtain ⟨b101, hqJ_1⟩ := ck_go hqJ_1
              refine va_iald hx hb hK hP 6 0 rfl rfl b101 dX9_closestUnreached_101 ?_
              refine lv_aload_n hx hb dX9_closestUnreached_102 rfl (lv_at hl 0 rfl) ?_
              refine va_get (D := (dC, dI)) (ci := 8) (v := .ref h_t_slack) (C := RX9) (T := TX9) (N := 13) hx hb hts uX9 hown hK hP 0 rfl rfl 12 (by decide) k6 (fun _ h9 => h9) rfl dX9_closestUnreached_103 ?_
              refine lv_iload_n hx hb dX9_closestUnreached_106 rfl (lv_at hl 3 rfl) ?_
              obtain ⟨b107, hqJ_1⟩ := ck_go hqJ_1
              refine va_iald hx hb hK hP 6 0 rfl rfl b107 dX9_closestUnreached_107 ?_
              refine lv_icmp_ge (tgt := 114) hx hb dX9_closestUnreached_108 (by decide) (fun c108 => ?_) (fun c108 => ?_)
              · replace hqJ_1 := if_t c108 hqJ_1
                cases hqJ_1
                exact J_1 _ _ hP hD hS _ (lv_sub hl [0, 1, 2, 3, 4] rfl)
              · replace hqJ_1 := if_f c108 hqJ_1
                refine lv_iload hx hb dX9_closestUnreached_111 (lv_at hl 4 rfl) ?_
                refine lv_topi (fun v3_6 ev3_6 => ?_)
                replace hqJ_1 := lt_go ev3_6 hqJ_1
                refine lv_istore_n (lv' := [(3, .int v3_6), (0, .ref h_t), (1, .int a1), (2, .int v2_1), (4, .int v4_2)]) hx hb dX9_closestUnreached_113 rfl hl (by decide) rfl (fun ls hl => ?_)
                cases hqJ_1
                exact J_1 _ _ hP hD hS _ (lv_sub hl [1, 2, 3, 0, 4] rfl)
          clear hqJ_1
          refine lv_icmp_ge (tgt := 91) hx hb dX9_closestUnreached_71 (by decide) (fun c71 => ?_) (fun c71 => ?_)
          · replace hqJ_2 := if_t c71 hqJ_2
            cases hqJ_2
            exact J_2 _ _ hP hD hS _ (lv_sub hl [1, 2, 3, 4, 5] rfl)
          · replace hqJ_2 := if_f c71 hqJ_2
            refine lv_aload_n hx hb dX9_closestUnreached_74 rfl (lv_at hl 1 rfl) ?_
            refine va_get (D := (dC, dI)) (ci := 8) (v := .ref h_t_slack) (C := RX9) (T := TX9) (N := 13) hx hb hts uX9 hown hK hP 0 rfl rfl 12 (by decide) k6 (fun _ h9 => h9) rfl dX9_closestUnreached_75 ?_
            refine lv_iload hx hb dX9_closestUnreached_78 (lv_at hl 5 rfl) ?_
            refine lv_iload hx hb dX9_closestUnreached_80 (lv_at hl 0 rfl) ?_
            obtain ⟨b82, hqJ_2⟩ := ck_go hqJ_2
            refine my_iast (W' := fun z' => [(h_t, .inr (8, [.int f_t_nearestNumber, .int f_t_nearestLength, .int f_t_goals, .int f_t_goers, .int f_t_reached, .ref h_t_goalTones, .ref h_t_goerTones, .ref h_t_extra, .ref h_t_goalPrices, .ref h_t_goerPrices, .ref h_t_goalOfGoer, .ref h_t_cameFrom, .ref h_t_slack])), (h_t_cameFrom, .inl (cA, 13, .inl f_t_cameFrom_1)), (h_t_extra, .inl (cA, 169, .inl f_t_extra)), (h_t_goalOfGoer, .inl (cA, 13, .inl f_t_goalOfGoer)), (h_t_goalPrices, .inl (cA, 13, .inl f_t_goalPrices)), (h_t_goerPrices, .inl (cA, 13, .inl f_t_goerPrices)), (h_t_slack, .inl (cA, 13, .inl z'))]) hx hb hK hP hD hS 6 0 rfl rfl b82 dX9_closestUnreached_82 (fun _ => rfl) (fun f_t_slack_5 ef_t_slack_5 H locs hP hD hS => ?_)
            replace hqJ_2 := lt_go ef_t_slack_5 hqJ_2
            refine lv_aload_n hx hb dX9_closestUnreached_83 rfl (lv_at hl 1 rfl) ?_
            refine va_get (D := (dC, dI)) (ci := 8) (v := .ref h_t_cameFrom) (C := RX9) (T := TX9) (N := 13) hx hb hts uX9 hown hK hP 0 rfl rfl 11 (by decide) k7 (fun _ h9 => h9) rfl dX9_closestUnreached_84 ?_
            refine lv_iload hx hb dX9_closestUnreached_87 (lv_at hl 5 rfl) ?_
            refine lv_iload_n hx hb dX9_closestUnreached_89 rfl (lv_at hl 2 rfl) ?_
            obtain ⟨b90, hqJ_2⟩ := ck_go hqJ_2
            refine my_iast (W' := fun z' => [(h_t, .inr (8, [.int f_t_nearestNumber, .int f_t_nearestLength, .int f_t_goals, .int f_t_goers, .int f_t_reached, .ref h_t_goalTones, .ref h_t_goerTones, .ref h_t_extra, .ref h_t_goalPrices, .ref h_t_goerPrices, .ref h_t_goalOfGoer, .ref h_t_cameFrom, .ref h_t_slack])), (h_t_cameFrom, .inl (cA, 13, .inl z')), (h_t_extra, .inl (cA, 169, .inl f_t_extra)), (h_t_goalOfGoer, .inl (cA, 13, .inl f_t_goalOfGoer)), (h_t_goalPrices, .inl (cA, 13, .inl f_t_goalPrices)), (h_t_goerPrices, .inl (cA, 13, .inl f_t_goerPrices)), (h_t_slack, .inl (cA, 13, .inl f_t_slack_5))]) hx hb hK hP hD hS 1 0 rfl rfl b90 dX9_closestUnreached_90 (fun _ => rfl) (fun f_t_cameFrom_5 ef_t_cameFrom_5 H locs hP hD hS => ?_)
            replace hqJ_2 := lt_go ef_t_cameFrom_5 hqJ_2
            cases hqJ_2
            exact J_2 _ _ hP hD hS _ (lv_sub hl [1, 2, 3, 4, 5] rfl)
        · replace hqJ_1 := if_f c27 hqJ_1
          refine lv_goto (tgt := 114) hx hb dX9_closestUnreached_30 (by decide) ?_
          cases hqJ_1
          exact J_1 _ _ hP hD hS _ (lv_sub hl [0, 1, 2, 3, 4] rfl)
  obtain ⟨v3_7, f_t_cameFrom_6, f_t_slack_6, hl12, hm⟩ := bd3_go hm
  refine L12 _ _ _ _ _ _ _ _ hl12 _ _ hP hD hS _ (lv_sub hl [3, 4, 2, 1, 0] rfl) (fun H locs hP hD hS ls hl => ?_)
  refine lv_iload_n hx hb dX9_closestUnreached_120 rfl (lv_at hl 0 rfl) ?_
  cases hm
  exact W_mono hQ (W.iret hx hb hr (fun t ht hW => ⟨⟨_, (), rfl, rfl, by rw [ht]; exact hP, va_K.moved hW.alike hK, hD⟩, hS.F ht⟩) hS.2.2 dX9_closestUnreached_121)
abbrev rmX9_shiftPrices : Room := { frames := 1, cells := 0, slots := 0, locals := 21 }
theorem uX9_X9_shiftPrices : ∀ w ∈ wsX90, w ∈ wsX9_shiftPrices := fun _ h => List.mem_cons_of_mem _ (List.mem_append_right _ (h))
set_option maxHeartbeats 40000000 in
set_option maxRecDepth 100000 in
theorem c_Ways_shiftPrices (l : Launch) (dC : Nat → ClassId) (dI : Nat → Nat → Nat) (cA : ClassId) (fu : Nat) (h_t h_t_goalTones h_t_goerTones h_t_extra h_t_goalPrices h_t_goerPrices h_t_goalOfGoer h_t_cameFrom h_t_slack : Nat) (f_t_nearestNumber : Int32) (f_t_nearestLength : Int32) (f_t_goals : Int32) (f_t_goers : Int32) (f_t_reached : Int32) (f_t_goalOfGoer : Nat → Int32) (f_t_goalPrices : Nat → Int32) (f_t_goerPrices : Nat → Int32) (f_t_slack : Nat → Int32) (a1 : Int32) (f_t_goalPrices_z : Nat → Int32) (f_t_goerPrices_z : Nat → Int32) (f_t_slack_z : Nat → Int32) (hm : m_Ways_shiftPrices fu f_t_goalOfGoer f_t_goalPrices f_t_goerPrices f_t_goers f_t_reached f_t_slack a1 = some (f_t_goalPrices_z, f_t_goerPrices_z, f_t_slack_z)) (sz : Nat) : Met l yX9_shiftPrices wsX9_shiftPrices rmX9_shiftPrices (mPre (dC, dI) cA [.ref h_t, .int a1] sz [(h_t, .inr (8, [.int f_t_nearestNumber, .int f_t_nearestLength, .int f_t_goals, .int f_t_goers, .int f_t_reached, .ref h_t_goalTones, .ref h_t_goerTones, .ref h_t_extra, .ref h_t_goalPrices, .ref h_t_goerPrices, .ref h_t_goalOfGoer, .ref h_t_cameFrom, .ref h_t_slack])), (h_t_goalOfGoer, .inl (cA, 13, .inl f_t_goalOfGoer)), (h_t_goalPrices, .inl (cA, 13, .inl f_t_goalPrices)), (h_t_goerPrices, .inl (cA, 13, .inl f_t_goerPrices)), (h_t_slack, .inl (cA, 13, .inl f_t_slack))]) (mPosV (dC, dI) cA (va_A [(h_t, .inr (8, [.int f_t_nearestNumber, .int f_t_nearestLength, .int f_t_goals, .int f_t_goers, .int f_t_reached, .ref h_t_goalTones, .ref h_t_goerTones, .ref h_t_extra, .ref h_t_goalPrices, .ref h_t_goerPrices, .ref h_t_goalOfGoer, .ref h_t_cameFrom, .ref h_t_slack])), (h_t_goalOfGoer, .inl (cA, 13, .inl f_t_goalOfGoer)), (h_t_goalPrices, .inl (cA, 13, .inl f_t_goalPrices)), (h_t_goerPrices, .inl (cA, 13, .inl f_t_goerPrices)), (h_t_slack, .inl (cA, 13, .inl f_t_slack))] sz) [(h_t, .inr (8, [.int f_t_nearestNumber, .int f_t_nearestLength, .int f_t_goals, .int f_t_goers, .int f_t_reached, .ref h_t_goalTones, .ref h_t_goerTones, .ref h_t_extra, .ref h_t_goalPrices, .ref h_t_goerPrices, .ref h_t_goalOfGoer, .ref h_t_cameFrom, .ref h_t_slack])), (h_t_goalOfGoer, .inl (cA, 13, .inl f_t_goalOfGoer)), (h_t_goalPrices, .inl (cA, 13, .inl f_t_goalPrices_z)), (h_t_goerPrices, .inl (cA, 13, .inl f_t_goerPrices_z)), (h_t_slack, .inl (cA, 13, .inl f_t_slack_z))]) 0 0 (va_A [(h_t, .inr (8, [.int f_t_nearestNumber, .int f_t_nearestLength, .int f_t_goals, .int f_t_goers, .int f_t_reached, .ref h_t_goalTones, .ref h_t_goerTones, .ref h_t_extra, .ref h_t_goalPrices, .ref h_t_goerPrices, .ref h_t_goalOfGoer, .ref h_t_cameFrom, .ref h_t_slack])), (h_t_goalOfGoer, .inl (cA, 13, .inl f_t_goalOfGoer)), (h_t_goalPrices, .inl (cA, 13, .inl f_t_goalPrices)), (h_t_goerPrices, .inl (cA, 13, .inl f_t_goerPrices)), (h_t_slack, .inl (cA, 13, .inl f_t_slack))] sz) := by
  refine Met.ofW (cc := cX9_shiftPrices) (maxL := 3) (ret := none) (by decide) rfl ?_
  intro p e s m args below meth c s₁ B hml hv
  obtain ⟨rfl, hsz, hP, hK, hD0⟩ := hv
  refine W_gen (fun Q hQ => ?_)
  have hx := B.exec
  have hb := B.bytes
  have hr := B.returns
  have hts := atoms_spec (ws := wsX9_shiftPrices) B.pre
  have hown : s.vm.findClass RX9 = some m.cls := findClass_of_methodNamed B.named
  have hlocks := B.notSynchronized
  subst hsz
  have hD := hD0.self (sz := s.heap.size)
  clear hD0
  generalize hAe : va_A [(h_t, .inr (8, [.int f_t_nearestNumber, .int f_t_nearestLength, .int f_t_goals, .int f_t_goers, .int f_t_reached, .ref h_t_goalTones, .ref h_t_goerTones, .ref h_t_extra, .ref h_t_goalPrices, .ref h_t_goerPrices, .ref h_t_goalOfGoer, .ref h_t_cameFrom, .ref h_t_slack])), (h_t_goalOfGoer, .inl (cA, 13, .inl f_t_goalOfGoer)), (h_t_goalPrices, .inl (cA, 13, .inl f_t_goalPrices)), (h_t_goerPrices, .inl (cA, 13, .inl f_t_goerPrices)), (h_t_slack, .inl (cA, 13, .inl f_t_slack))] s.heap.size = A at hD hQ
  have hA : ∀ q : Nat, s.heap.size ≤ q → A q := fun q h => by rw [← hAe]; exact Or.inr h
  clear hAe
  have hS : va_S A s.heap s.heap [] := va_S.rf
  have hl := lv_entry ([.ref h_t, .int a1]) (n := 3) (Nat.le_of_ble_eq_true rfl)
  rw [lg_entry_eq]
  generalize (lg_sl ([.ref h_t, .int a1]) ++ List.replicate (3 - (lg_sl ([.ref h_t, .int a1])).length) Slot.unset).toArray = ls at hl ⊢
  have hl : lv_has ls 3 [(0, .ref h_t), (1, .int a1)] := hl
  have k1 := hts (.fieldLink RX9 21 "ToneSets$Ways" "goers" "I") (List.mem_of_getElem? (i := 1) rfl)
  have k5 := hts (.fieldLink RX9 49 "ToneSets$Ways" "slack" "[I") (List.mem_of_getElem? (i := 5) rfl)
  have k2 := hts (.fieldLink RX9 37 "ToneSets$Ways" "goalPrices" "[I") (List.mem_of_getElem? (i := 2) rfl)
  have k3 := hts (.fieldLink RX9 43 "ToneSets$Ways" "goalOfGoer" "[I") (List.mem_of_getElem? (i := 3) rfl)
  have k4 := hts (.fieldLink RX9 40 "ToneSets$Ways" "goerPrices" "[I") (List.mem_of_getElem? (i := 4) rfl)
  have uX9 := uX9_X9_shiftPrices
  unfold m_Ways_shiftPrices at hm
  refine lv_iconst (v := 0) hx hb dX9_shiftPrices_0 (by decide) ?_
  refine lv_topi (fun v2_1 ev2_1 => ?_)
  replace hm := lt_go ev2_1 hm
  refine lv_istore_n (lv' := [(2, .int v2_1), (0, .ref h_t), (1, .int a1)]) hx hb dX9_shiftPrices_1 rfl hl (by decide) rfl (fun ls hl => ?_)
  have L2 : ∀ (n : Nat) (v2_2 : Int32) (f_t_goalPrices_1 : Nat → Int32) (f_t_goerPrices_1 : Nat → Int32) (f_t_slack_1 : Nat → Int32) (f_t_goalPrices_2 : Nat → Int32) (f_t_goerPrices_2 : Nat → Int32) (f_t_slack_2 : Nat → Int32), m_Ways_shiftPrices_L2 f_t_goers f_t_reached a1 f_t_goalOfGoer n v2_2 f_t_goalPrices_1 f_t_goerPrices_1 f_t_slack_1 = some (f_t_goalPrices_2, f_t_goerPrices_2, f_t_slack_2) → ∀ (H : Heap) (locs : List Loc), va_P (dC, dI) vwCl [(h_t, .inr (8, [.int f_t_nearestNumber, .int f_t_nearestLength, .int f_t_goals, .int f_t_goers, .int f_t_reached, .ref h_t_goalTones, .ref h_t_goerTones, .ref h_t_extra, .ref h_t_goalPrices, .ref h_t_goerPrices, .ref h_t_goalOfGoer, .ref h_t_cameFrom, .ref h_t_slack])), (h_t_goalOfGoer, .inl (cA, 13, .inl f_t_goalOfGoer)), (h_t_goalPrices, .inl (cA, 13, .inl f_t_goalPrices_1)), (h_t_goerPrices, .inl (cA, 13, .inl f_t_goerPrices_1)), (h_t_slack, .inl (cA, 13, .inl f_t_slack_1))] H → va_D A [(h_t, .inr (8, [.int f_t_nearestNumber, .int f_t_nearestLength, .int f_t_goals, .int f_t_goers, .int f_t_reached, .ref h_t_goalTones, .ref h_t_goerTones, .ref h_t_extra, .ref h_t_goalPrices, .ref h_t_goerPrices, .ref h_t_goalOfGoer, .ref h_t_cameFrom, .ref h_t_slack])), (h_t_goalOfGoer, .inl (cA, 13, .inl f_t_goalOfGoer)), (h_t_goalPrices, .inl (cA, 13, .inl f_t_goalPrices_1)), (h_t_goerPrices, .inl (cA, 13, .inl f_t_goerPrices_1)), (h_t_slack, .inl (cA, 13, .inl f_t_slack_1))] → va_S A s.heap H locs → ∀ ls : Array Slot, lv_has ls 3 [(0, .ref h_t), (1, .int a1), (2, .int v2_2)] → (∀ (H : Heap) (locs : List Loc), va_P (dC, dI) vwCl [(h_t, .inr (8, [.int f_t_nearestNumber, .int f_t_nearestLength, .int f_t_goals, .int f_t_goers, .int f_t_reached, .ref h_t_goalTones, .ref h_t_goerTones, .ref h_t_extra, .ref h_t_goalPrices, .ref h_t_goerPrices, .ref h_t_goalOfGoer, .ref h_t_cameFrom, .ref h_t_slack])), (h_t_goalOfGoer, .inl (cA, 13, .inl f_t_goalOfGoer)), (h_t_goalPrices, .inl (cA, 13, .inl f_t_goalPrices_2)), (h_t_goerPrices, .inl (cA, 13, .inl f_t_goerPrices_2)), (h_t_slack, .inl (cA, 13, .inl f_t_slack_2))] H → va_D A [(h_t, .inr (8, [.int f_t_nearestNumber, .int f_t_nearestLength, .int f_t_goals, .int f_t_goers, .int f_t_reached, .ref h_t_goalTones, .ref h_t_goerTones, .ref h_t_extra, .ref h_t_goalPrices, .ref h_t_goerPrices, .ref h_t_goalOfGoer, .ref h_t_cameFrom, .ref h_t_slack])), (h_t_goalOfGoer, .inl (cA, 13, .inl f_t_goalOfGoer)), (h_t_goalPrices, .inl (cA, 13, .inl f_t_goalPrices_2)), (h_t_goerPrices, .inl (cA, 13, .inl f_t_goerPrices_2)), (h_t_slack, .inl (cA, 13, .inl f_t_slack_2))] → va_S A s.heap H locs → ∀ ls : Array Slot, lv_has ls 3 [] → W p l e (headSpec wsX9_shiftPrices rmX9_shiftPrices).room s m (([.ref h_t, .int a1] : List Value).toArray) below meth c H locs 0 0 Q (F0 m 62 ls [])) → W p l e (headSpec wsX9_shiftPrices rmX9_shiftPrices).room s m (([.ref h_t, .int a1] : List Value).toArray) below meth c H locs 0 0 Q (F0 m 2 ls []) := by
    clear hm hP hD hS hl
    intro n
    induction n with
    | zero => intro _ _ _ _ _ _ _ hm; exact nomatch (show none = some _ from hm)
    | succ n ih =>
      intro v2_2 f_t_goalPrices_1 f_t_goerPrices_1 f_t_slack_1 f_t_goalPrices_2 f_t_goerPrices_2 f_t_slack_2 hm H locs hP hD hS ls hl KK
      unfold m_Ways_shiftPrices_L2 at hm
      refine lv_iload_n hx hb dX9_shiftPrices_2 rfl (lv_at hl 2 rfl) ?_
      refine lv_aload_n hx hb dX9_shiftPrices_3 rfl (lv_at hl 0 rfl) ?_
      refine va_get (D := (dC, dI)) (ci := 8) (v := .int f_t_goers) (C := RX9) (T := TX9) (N := 13) hx hb hts uX9 hown hK hP 0 rfl rfl 3 (by decide) k1 (fun _ h9 => h9) rfl dX9_shiftPrices_4 ?_
      refine lv_icmp_gt (tgt := 62) hx hb dX9_shiftPrices_7 (by decide) (fun c7 => ?_) (fun c7 => ?_)
      · replace hm := if_t c7 hm
        cases hm
        exact KK _ _ hP hD hS _ (lv_sub hl [] rfl)
      · replace hm := if_f c7 hm
        refine lv_aload_n hx hb dX9_shiftPrices_10 rfl (lv_at hl 0 rfl) ?_
        refine lv_iload_n hx hb dX9_shiftPrices_11 rfl (lv_at hl 2 rfl) ?_
        obtain ⟨r_1, hc12, hm⟩ := bd1_go hm
        refine my_cVi (As := [.int v2_2]) (rest := []) (WC := [(h_t, .inr (8, [.int f_t_nearestNumber, .int f_t_nearestLength, .int f_t_goals, .int f_t_goers, .int f_t_reached, .ref h_t_goalTones, .ref h_t_goerTones, .ref h_t_extra, .ref h_t_goalPrices, .ref h_t_goerPrices, .ref h_t_goalOfGoer, .ref h_t_cameFrom, .ref h_t_slack]))]) (WC' := [(h_t, .inr (8, [.int f_t_nearestNumber, .int f_t_nearestLength, .int f_t_goals, .int f_t_goers, .int f_t_reached, .ref h_t_goalTones, .ref h_t_goerTones, .ref h_t_extra, .ref h_t_goalPrices, .ref h_t_goerPrices, .ref h_t_goalOfGoer, .ref h_t_cameFrom, .ref h_t_slack]))]) (WR := [(h_t_goalOfGoer, .inl (cA, 13, .inl f_t_goalOfGoer)), (h_t_goalPrices, .inl (cA, 13, .inl f_t_goalPrices_1)), (h_t_goerPrices, .inl (cA, 13, .inl f_t_goerPrices_1)), (h_t_slack, .inl (cA, 13, .inl f_t_slack_1))]) (W' := [(h_t, .inr (8, [.int f_t_nearestNumber, .int f_t_nearestLength, .int f_t_goals, .int f_t_goers, .int f_t_reached, .ref h_t_goalTones, .ref h_t_goerTones, .ref h_t_extra, .ref h_t_goalPrices, .ref h_t_goerPrices, .ref h_t_goalOfGoer, .ref h_t_cameFrom, .ref h_t_slack])), (h_t_goalOfGoer, .inl (cA, 13, .inl f_t_goalOfGoer)), (h_t_goalPrices, .inl (cA, 13, .inl f_t_goalPrices_1)), (h_t_goerPrices, .inl (cA, 13, .inl f_t_goerPrices_1)), (h_t_slack, .inl (cA, 13, .inl f_t_slack_1))]) ⟨hx, hb, hml, hown, hts⟩ hK hP hD hS hA (c_Ways_isReached l dC dI cA h_t h_t_goalTones h_t_goerTones h_t_extra h_t_goalPrices h_t_goerPrices h_t_goalOfGoer h_t_cameFrom h_t_slack f_t_nearestNumber f_t_nearestLength f_t_goals f_t_goers f_t_reached v2_2 r_1 hc12) (cwV 1 hts gX9_shiftPrices_X9_isReached rfl rfl rfl (by decide +kernel) ⟨Nat.le_of_ble_eq_true rfl, Nat.le_of_ble_eq_true rfl⟩) [0] [1, 2, 3, 4] [4, 0, 1, 2, 3] rfl rfl rfl rfl (ci := 8) (q0 := 0) rfl rfl rfl rfl hl.1 (Nat.le_of_ble_eq_true rfl) dX9_shiftPrices_12 ⟨Nat.zero_le _, Nat.zero_le _⟩ (fun H locs hP hD hS => ?_)
        obtain ⟨f_t_goalPrices_3, f_t_goerPrices_3, f_t_slack_3, hqJ_1, hm⟩ := bd3_go hm
        have J_1 : ∀ (H : Heap) (locs : List Loc), va_P (dC, dI) vwCl [(h_t, .inr (8, [.int f_t_nearestNumber, .int f_t_nearestLength, .int f_t_goals, .int f_t_goers, .int f_t_reached, .ref h_t_goalTones, .ref h_t_goerTones, .ref h_t_extra, .ref h_t_goalPrices, .ref h_t_goerPrices, .ref h_t_goalOfGoer, .ref h_t_cameFrom, .ref h_t_slack])), (h_t_goalOfGoer, .inl (cA, 13, .inl f_t_goalOfGoer)), (h_t_goalPrices, .inl (cA, 13, .inl f_t_goalPrices_3)), (h_t_goerPrices, .inl (cA, 13, .inl f_t_goerPrices_3)), (h_t_slack, .inl (cA, 13, .inl f_t_slack_3))] H → va_D A [(h_t, .inr (8, [.int f_t_nearestNumber, .int f_t_nearestLength, .int f_t_goals, .int f_t_goers, .int f_t_reached, .ref h_t_goalTones, .ref h_t_goerTones, .ref h_t_extra, .ref h_t_goalPrices, .ref h_t_goerPrices, .ref h_t_goalOfGoer, .ref h_t_cameFrom, .ref h_t_slack])), (h_t_goalOfGoer, .inl (cA, 13, .inl f_t_goalOfGoer)), (h_t_goalPrices, .inl (cA, 13, .inl f_t_goalPrices_3)), (h_t_goerPrices, .inl (cA, 13, .inl f_t_goerPrices_3)), (h_t_slack, .inl (cA, 13, .inl f_t_slack_3))] → va_S A s.heap H locs → ∀ ls : Array Slot, lv_has ls 3 [(0, .ref h_t), (1, .int a1), (2, .int v2_2)] → W p l e (headSpec wsX9_shiftPrices rmX9_shiftPrices).room s m (([.ref h_t, .int a1] : List Value).toArray) below meth c H locs 0 0 Q (F0 m 56 ls []) := by
          intro H locs hP hD hS ls hl
          clear hqJ_1
          obtain ⟨v2_3, ev2_3⟩ : ∃ z : Int32, z = v2_2 + 1 := ⟨_, rfl⟩
          replace hm := lt_go ev2_3 hm
          refine lv_iinc (v := v2_3) (lv' := [(2, .int v2_3), (0, .ref h_t), (1, .int a1)]) hx hb dX9_shiftPrices_56 hl (k := 2) rfl (by rw [ev2_3]; rfl) (by decide) rfl (fun ls hl => ?_)
          refine lv_goto (tgt := 2) hx hb dX9_shiftPrices_59 (by decide) ?_
          exact ih _ _ _ _ _ _ _ hm _ _ hP hD hS _ (lv_sub hl [1, 2, 0] rfl) KK
        clear hm
        refine lv_if_eq (tgt := 46) hx hb dX9_shiftPrices_15 (by decide) (fun c15 => ?_) (fun c15 => ?_)
        · replace hqJ_1 := if_t c15 hqJ_1
          refine lv_aload_n hx hb dX9_shiftPrices_46 rfl (lv_at hl 0 rfl) ?_
          refine va_get (D := (dC, dI)) (ci := 8) (v := .ref h_t_slack) (C := RX9) (T := TX9) (N := 13) hx hb hts uX9 hown hK hP 0 rfl rfl 12 (by decide) k5 (fun _ h9 => h9) rfl dX9_shiftPrices_47 ?_
          refine lv_iload_n hx hb dX9_shiftPrices_50 rfl (lv_at hl 2 rfl) ?_
          refine lv_dup2_11 hx hb dX9_shiftPrices_51 rfl rfl ?_
          obtain ⟨b52, hqJ_1⟩ := ck_go hqJ_1
          refine va_iald hx hb hK hP 4 0 rfl rfl b52 dX9_shiftPrices_52 ?_
          refine lv_iload_n hx hb dX9_shiftPrices_53 rfl (lv_at hl 1 rfl) ?_
          refine lv_isub hx hb dX9_shiftPrices_54 ?_
          obtain ⟨b55, hqJ_1⟩ := ck_go hqJ_1
          refine my_iast (W' := fun z' => [(h_t, .inr (8, [.int f_t_nearestNumber, .int f_t_nearestLength, .int f_t_goals, .int f_t_goers, .int f_t_reached, .ref h_t_goalTones, .ref h_t_goerTones, .ref h_t_extra, .ref h_t_goalPrices, .ref h_t_goerPrices, .ref h_t_goalOfGoer, .ref h_t_cameFrom, .ref h_t_slack])), (h_t_goalOfGoer, .inl (cA, 13, .inl f_t_goalOfGoer)), (h_t_goalPrices, .inl (cA, 13, .inl f_t_goalPrices_1)), (h_t_goerPrices, .inl (cA, 13, .inl f_t_goerPrices_1)), (h_t_slack, .inl (cA, 13, .inl z'))]) hx hb hK hP hD hS 4 0 rfl rfl b55 dX9_shiftPrices_55 (fun _ => rfl) (fun f_t_slack_4 ef_t_slack_4 H locs hP hD hS => ?_)
          replace hqJ_1 := lt_go ef_t_slack_4 hqJ_1
          cases hqJ_1
          exact J_1 _ _ hP hD hS _ (lv_sub hl [0, 1, 2] rfl)
        · replace hqJ_1 := if_f c15 hqJ_1
          refine lv_aload_n hx hb dX9_shiftPrices_18 rfl (lv_at hl 0 rfl) ?_
          refine va_get (D := (dC, dI)) (ci := 8) (v := .ref h_t_goalPrices) (C := RX9) (T := TX9) (N := 13) hx hb hts uX9 hown hK hP 0 rfl rfl 8 (by decide) k2 (fun _ h9 => h9) rfl dX9_shiftPrices_19 ?_
          refine lv_aload_n hx hb dX9_shiftPrices_22 rfl (lv_at hl 0 rfl) ?_
          refine va_get (D := (dC, dI)) (ci := 8) (v := .ref h_t_goalOfGoer) (C := RX9) (T := TX9) (N := 13) hx hb hts uX9 hown hK hP 0 rfl rfl 10 (by decide) k3 (fun _ h9 => h9) rfl dX9_shiftPrices_23 ?_
          refine lv_iload_n hx hb dX9_shiftPrices_26 rfl (lv_at hl 2 rfl) ?_
          obtain ⟨b27, hqJ_1⟩ := ck_go hqJ_1
          refine va_iald hx hb hK hP 1 0 rfl rfl b27 dX9_shiftPrices_27 ?_
          refine lv_dup2_11 hx hb dX9_shiftPrices_28 rfl rfl ?_
          obtain ⟨b29, hqJ_1⟩ := ck_go hqJ_1
          refine va_iald hx hb hK hP 2 0 rfl rfl b29 dX9_shiftPrices_29 ?_
          refine lv_iload_n hx hb dX9_shiftPrices_30 rfl (lv_at hl 1 rfl) ?_
          refine lv_iadd hx hb dX9_shiftPrices_31 ?_
          obtain ⟨b32, hqJ_1⟩ := ck_go hqJ_1
          refine my_iast (W' := fun z' => [(h_t, .inr (8, [.int f_t_nearestNumber, .int f_t_nearestLength, .int f_t_goals, .int f_t_goers, .int f_t_reached, .ref h_t_goalTones, .ref h_t_goerTones, .ref h_t_extra, .ref h_t_goalPrices, .ref h_t_goerPrices, .ref h_t_goalOfGoer, .ref h_t_cameFrom, .ref h_t_slack])), (h_t_goalOfGoer, .inl (cA, 13, .inl f_t_goalOfGoer)), (h_t_goalPrices, .inl (cA, 13, .inl z')), (h_t_goerPrices, .inl (cA, 13, .inl f_t_goerPrices_1)), (h_t_slack, .inl (cA, 13, .inl f_t_slack_1))]) hx hb hK hP hD hS 2 0 rfl rfl b32 dX9_shiftPrices_32 (fun _ => rfl) (fun f_t_goalPrices_4 ef_t_goalPrices_4 H locs hP hD hS => ?_)
          replace hqJ_1 := lt_go ef_t_goalPrices_4 hqJ_1
          refine lv_aload_n hx hb dX9_shiftPrices_33 rfl (lv_at hl 0 rfl) ?_
          refine va_get (D := (dC, dI)) (ci := 8) (v := .ref h_t_goerPrices) (C := RX9) (T := TX9) (N := 13) hx hb hts uX9 hown hK hP 0 rfl rfl 9 (by decide) k4 (fun _ h9 => h9) rfl dX9_shiftPrices_34 ?_
          refine lv_iload_n hx hb dX9_shiftPrices_37 rfl (lv_at hl 2 rfl) ?_
          refine lv_dup2_11 hx hb dX9_shiftPrices_38 rfl rfl ?_
          obtain ⟨b39, hqJ_1⟩ := ck_go hqJ_1
          refine va_iald hx hb hK hP 3 0 rfl rfl b39 dX9_shiftPrices_39 ?_
          refine lv_iload_n hx hb dX9_shiftPrices_40 rfl (lv_at hl 1 rfl) ?_
          refine lv_isub hx hb dX9_shiftPrices_41 ?_
          obtain ⟨b42, hqJ_1⟩ := ck_go hqJ_1
          refine my_iast (W' := fun z' => [(h_t, .inr (8, [.int f_t_nearestNumber, .int f_t_nearestLength, .int f_t_goals, .int f_t_goers, .int f_t_reached, .ref h_t_goalTones, .ref h_t_goerTones, .ref h_t_extra, .ref h_t_goalPrices, .ref h_t_goerPrices, .ref h_t_goalOfGoer, .ref h_t_cameFrom, .ref h_t_slack])), (h_t_goalOfGoer, .inl (cA, 13, .inl f_t_goalOfGoer)), (h_t_goalPrices, .inl (cA, 13, .inl f_t_goalPrices_4)), (h_t_goerPrices, .inl (cA, 13, .inl z')), (h_t_slack, .inl (cA, 13, .inl f_t_slack_1))]) hx hb hK hP hD hS 3 0 rfl rfl b42 dX9_shiftPrices_42 (fun _ => rfl) (fun f_t_goerPrices_4 ef_t_goerPrices_4 H locs hP hD hS => ?_)
          replace hqJ_1 := lt_go ef_t_goerPrices_4 hqJ_1
          refine lv_goto (tgt := 56) hx hb dX9_shiftPrices_43 (by decide) ?_
          cases hqJ_1
          exact J_1 _ _ hP hD hS _ (lv_sub hl [0, 1, 2] rfl)
  obtain ⟨f_t_goalPrices_5, f_t_goerPrices_5, f_t_slack_5, hl2, hm⟩ := bd3_go hm
  refine L2 _ _ _ _ _ _ _ _ hl2 _ _ hP hD hS _ (lv_sub hl [1, 2, 0] rfl) (fun H locs hP hD hS ls hl => ?_)
  cases hm
  exact W_mono hQ (W.vret hx hb hr (fun t ht hW => ⟨⟨(), rfl, trivial, by rw [ht]; exact hP, va_K.moved hW.alike hK, hD⟩, hS.F ht⟩) hS.2.2 dX9_shiftPrices_62)
abbrev rmX9_findFreeGoer : Room := { frames := 2, cells := 0, slots := 0, locals := 46 }
theorem uX9_X9_findFreeGoer : ∀ w ∈ wsX90, w ∈ wsX9_findFreeGoer := fun _ h => List.mem_cons_of_mem _ (List.mem_append_right _ (h))
set_option maxHeartbeats 40000000 in
set_option maxRecDepth 100000 in
theorem c_Ways_findFreeGoer (l : Launch) (dC : Nat → ClassId) (dI : Nat → Nat → Nat) (cA : ClassId) (fu : Nat) (h_t h_t_goalTones h_t_goerTones h_t_extra h_t_goalPrices h_t_goerPrices h_t_goalOfGoer h_t_cameFrom h_t_slack : Nat) (f_t_nearestNumber : Int32) (f_t_nearestLength : Int32) (f_t_goals : Int32) (f_t_goers : Int32) (f_t_reached : Int32) (f_t_cameFrom : Nat → Int32) (f_t_extra : Nat → Int32) (f_t_goalOfGoer : Nat → Int32) (f_t_goalPrices : Nat → Int32) (f_t_goerPrices : Nat → Int32) (f_t_slack : Nat → Int32) (a1 : Int32) (r0 : Int32) (f_t_cameFrom_z : Nat → Int32) (f_t_goalOfGoer_z : Nat → Int32) (f_t_goalPrices_z : Nat → Int32) (f_t_goerPrices_z : Nat → Int32) (f_t_reached_z : Int32) (f_t_slack_z : Nat → Int32) (hm : m_Ways_findFreeGoer fu f_t_cameFrom f_t_extra f_t_goalOfGoer f_t_goalPrices f_t_goerPrices f_t_goers f_t_reached f_t_slack a1 = some (r0, f_t_cameFrom_z, f_t_goalOfGoer_z, f_t_goalPrices_z, f_t_goerPrices_z, f_t_reached_z, f_t_slack_z)) (sz : Nat) : Met l yX9_findFreeGoer wsX9_findFreeGoer rmX9_findFreeGoer (mPre (dC, dI) cA [.ref h_t, .int a1] sz [(h_t, .inr (8, [.int f_t_nearestNumber, .int f_t_nearestLength, .int f_t_goals, .int f_t_goers, .int f_t_reached, .ref h_t_goalTones, .ref h_t_goerTones, .ref h_t_extra, .ref h_t_goalPrices, .ref h_t_goerPrices, .ref h_t_goalOfGoer, .ref h_t_cameFrom, .ref h_t_slack])), (h_t_cameFrom, .inl (cA, 13, .inl f_t_cameFrom)), (h_t_extra, .inl (cA, 169, .inl f_t_extra)), (h_t_goalOfGoer, .inl (cA, 13, .inl f_t_goalOfGoer)), (h_t_goalPrices, .inl (cA, 13, .inl f_t_goalPrices)), (h_t_goerPrices, .inl (cA, 13, .inl f_t_goerPrices)), (h_t_slack, .inl (cA, 13, .inl f_t_slack))]) (mPosI (dC, dI) cA r0 (va_A [(h_t, .inr (8, [.int f_t_nearestNumber, .int f_t_nearestLength, .int f_t_goals, .int f_t_goers, .int f_t_reached, .ref h_t_goalTones, .ref h_t_goerTones, .ref h_t_extra, .ref h_t_goalPrices, .ref h_t_goerPrices, .ref h_t_goalOfGoer, .ref h_t_cameFrom, .ref h_t_slack])), (h_t_cameFrom, .inl (cA, 13, .inl f_t_cameFrom)), (h_t_extra, .inl (cA, 169, .inl f_t_extra)), (h_t_goalOfGoer, .inl (cA, 13, .inl f_t_goalOfGoer)), (h_t_goalPrices, .inl (cA, 13, .inl f_t_goalPrices)), (h_t_goerPrices, .inl (cA, 13, .inl f_t_goerPrices)), (h_t_slack, .inl (cA, 13, .inl f_t_slack))] sz) [(h_t, .inr (8, [.int f_t_nearestNumber, .int f_t_nearestLength, .int f_t_goals, .int f_t_goers, .int f_t_reached_z, .ref h_t_goalTones, .ref h_t_goerTones, .ref h_t_extra, .ref h_t_goalPrices, .ref h_t_goerPrices, .ref h_t_goalOfGoer, .ref h_t_cameFrom, .ref h_t_slack])), (h_t_cameFrom, .inl (cA, 13, .inl f_t_cameFrom_z)), (h_t_extra, .inl (cA, 169, .inl f_t_extra)), (h_t_goalOfGoer, .inl (cA, 13, .inl f_t_goalOfGoer_z)), (h_t_goalPrices, .inl (cA, 13, .inl f_t_goalPrices_z)), (h_t_goerPrices, .inl (cA, 13, .inl f_t_goerPrices_z)), (h_t_slack, .inl (cA, 13, .inl f_t_slack_z))]) 0 0 (va_A [(h_t, .inr (8, [.int f_t_nearestNumber, .int f_t_nearestLength, .int f_t_goals, .int f_t_goers, .int f_t_reached, .ref h_t_goalTones, .ref h_t_goerTones, .ref h_t_extra, .ref h_t_goalPrices, .ref h_t_goerPrices, .ref h_t_goalOfGoer, .ref h_t_cameFrom, .ref h_t_slack])), (h_t_cameFrom, .inl (cA, 13, .inl f_t_cameFrom)), (h_t_extra, .inl (cA, 169, .inl f_t_extra)), (h_t_goalOfGoer, .inl (cA, 13, .inl f_t_goalOfGoer)), (h_t_goalPrices, .inl (cA, 13, .inl f_t_goalPrices)), (h_t_goerPrices, .inl (cA, 13, .inl f_t_goerPrices)), (h_t_slack, .inl (cA, 13, .inl f_t_slack))] sz) := by
  refine Met.ofW (cc := cX9_findFreeGoer) (maxL := 5) (ret := (some .int)) (by decide) rfl ?_
  intro p e s m args below meth c s₁ B hml hv
  obtain ⟨rfl, hsz, hP, hK, hD0⟩ := hv
  refine W_gen (fun Q hQ => ?_)
  have hx := B.exec
  have hb := B.bytes
  have hr := B.returns
  have hts := atoms_spec (ws := wsX9_findFreeGoer) B.pre
  have hown : s.vm.findClass RX9 = some m.cls := findClass_of_methodNamed B.named
  have hlocks := B.notSynchronized
  subst hsz
  have hD := hD0.self (sz := s.heap.size)
  clear hD0
  generalize hAe : va_A [(h_t, .inr (8, [.int f_t_nearestNumber, .int f_t_nearestLength, .int f_t_goals, .int f_t_goers, .int f_t_reached, .ref h_t_goalTones, .ref h_t_goerTones, .ref h_t_extra, .ref h_t_goalPrices, .ref h_t_goerPrices, .ref h_t_goalOfGoer, .ref h_t_cameFrom, .ref h_t_slack])), (h_t_cameFrom, .inl (cA, 13, .inl f_t_cameFrom)), (h_t_extra, .inl (cA, 169, .inl f_t_extra)), (h_t_goalOfGoer, .inl (cA, 13, .inl f_t_goalOfGoer)), (h_t_goalPrices, .inl (cA, 13, .inl f_t_goalPrices)), (h_t_goerPrices, .inl (cA, 13, .inl f_t_goerPrices)), (h_t_slack, .inl (cA, 13, .inl f_t_slack))] s.heap.size = A at hD hQ
  have hA : ∀ q : Nat, s.heap.size ≤ q → A q := fun q h => by rw [← hAe]; exact Or.inr h
  clear hAe
  have hS : va_S A s.heap s.heap [] := va_S.rf
  have hl := lv_entry ([.ref h_t, .int a1]) (n := 5) (Nat.le_of_ble_eq_true rfl)
  rw [lg_entry_eq]
  generalize (lg_sl ([.ref h_t, .int a1]) ++ List.replicate (5 - (lg_sl ([.ref h_t, .int a1])).length) Slot.unset).toArray = ls at hl ⊢
  have hl : lv_has ls 5 [(0, .ref h_t), (1, .int a1)] := hl
  have k1 := hts (.fieldLink RX9 49 "ToneSets$Ways" "slack" "[I") (List.mem_of_getElem? (i := 1) rfl)
  have k2 := hts (.constant RX9 84 (1000000)) (List.mem_of_getElem? (i := 2) rfl)
  have k3 := hts (.fieldLink RX9 24 "ToneSets$Ways" "reached" "I") (List.mem_of_getElem? (i := 3) rfl)
  have k4 := hts (.fieldLink RX9 43 "ToneSets$Ways" "goalOfGoer" "[I") (List.mem_of_getElem? (i := 4) rfl)
  have k5 := hts (.fieldLink RX9 21 "ToneSets$Ways" "goers" "I") (List.mem_of_getElem? (i := 5) rfl)
  have uX9 := uX9_X9_findFreeGoer
  unfold m_Ways_findFreeGoer at hm
  refine lv_aload_n hx hb dX9_findFreeGoer_0 rfl (lv_at hl 0 rfl) ?_
  refine va_get (D := (dC, dI)) (ci := 8) (v := .ref h_t_slack) (C := RX9) (T := TX9) (N := 13) hx hb hts uX9 hown hK hP 0 rfl rfl 12 (by decide) k1 (fun _ h9 => h9) rfl dX9_findFreeGoer_1 ?_
  refine lv_ldc (v := 1000000) hx hb hown k2 dX9_findFreeGoer_4 ?_
  obtain ⟨f_t_slack_1, hc6, hm⟩ := bd1_go hm
  refine my_cSv (As := [.ref h_t_slack, .int 1000000]) (rest := []) (WC := [(h_t_slack, .inl (cA, 13, .inl f_t_slack))]) (WC' := [(h_t_slack, .inl (cA, 13, .inl f_t_slack_1))]) (WR := [(h_t, .inr (8, [.int f_t_nearestNumber, .int f_t_nearestLength, .int f_t_goals, .int f_t_goers, .int f_t_reached, .ref h_t_goalTones, .ref h_t_goerTones, .ref h_t_extra, .ref h_t_goalPrices, .ref h_t_goerPrices, .ref h_t_goalOfGoer, .ref h_t_cameFrom, .ref h_t_slack])), (h_t_cameFrom, .inl (cA, 13, .inl f_t_cameFrom)), (h_t_extra, .inl (cA, 169, .inl f_t_extra)), (h_t_goalOfGoer, .inl (cA, 13, .inl f_t_goalOfGoer)), (h_t_goalPrices, .inl (cA, 13, .inl f_t_goalPrices)), (h_t_goerPrices, .inl (cA, 13, .inl f_t_goerPrices))]) (W' := [(h_t, .inr (8, [.int f_t_nearestNumber, .int f_t_nearestLength, .int f_t_goals, .int f_t_goers, .int f_t_reached, .ref h_t_goalTones, .ref h_t_goerTones, .ref h_t_extra, .ref h_t_goalPrices, .ref h_t_goerPrices, .ref h_t_goalOfGoer, .ref h_t_cameFrom, .ref h_t_slack])), (h_t_cameFrom, .inl (cA, 13, .inl f_t_cameFrom)), (h_t_extra, .inl (cA, 169, .inl f_t_extra)), (h_t_goalOfGoer, .inl (cA, 13, .inl f_t_goalOfGoer)), (h_t_goalPrices, .inl (cA, 13, .inl f_t_goalPrices)), (h_t_goerPrices, .inl (cA, 13, .inl f_t_goerPrices)), (h_t_slack, .inl (cA, 13, .inl f_t_slack_1))]) ⟨hx, hb, hml, hown, hts⟩ hK hP hD hS hA (c_Ja_fill l dC dI cA fu h_t_slack 13 f_t_slack 1000000 f_t_slack_1 hc6) (va_cwS 2 hts gX9_findFreeGoer_J7_fill_53178 rfl rfl rfl (by decide +kernel) ⟨Nat.le_of_ble_eq_true rfl, Nat.le_of_ble_eq_true rfl⟩) [6] [0, 1, 2, 3, 4, 5] [0, 1, 2, 3, 4, 5, 6] rfl rfl rfl rfl rfl rfl hl.1 (Nat.le_of_ble_eq_true rfl) dX9_findFreeGoer_6 ⟨Nat.zero_le _, Nat.zero_le _⟩ (fun H locs hP hD hS => ?_)
  refine lv_aload_n hx hb dX9_findFreeGoer_9 rfl (lv_at hl 0 rfl) ?_
  refine lv_iconst (v := 0) hx hb dX9_findFreeGoer_10 (by decide) ?_
  refine lv_topi (fun f_t_reached_1 ef_t_reached_1 => ?_)
  replace hm := lt_go ef_t_reached_1 hm
  refine my_put (W' := [(h_t, .inr (8, [.int f_t_nearestNumber, .int f_t_nearestLength, .int f_t_goals, .int f_t_goers, .int f_t_reached_1, .ref h_t_goalTones, .ref h_t_goerTones, .ref h_t_extra, .ref h_t_goalPrices, .ref h_t_goerPrices, .ref h_t_goalOfGoer, .ref h_t_cameFrom, .ref h_t_slack])), (h_t_cameFrom, .inl (cA, 13, .inl f_t_cameFrom)), (h_t_extra, .inl (cA, 169, .inl f_t_extra)), (h_t_goalOfGoer, .inl (cA, 13, .inl f_t_goalOfGoer)), (h_t_goalPrices, .inl (cA, 13, .inl f_t_goalPrices)), (h_t_goerPrices, .inl (cA, 13, .inl f_t_goerPrices)), (h_t_slack, .inl (cA, 13, .inl f_t_slack_1))]) (ci := 8) (v := .int f_t_reached_1) (ty := .int) (C := RX9) (T := TX9) (N := 13) hx hb hts uX9 tyX9 tyX9_ok nmX9 hown hK hP hD hS 0 rfl rfl 4 (by decide) k3 (fun _ h9 => h9) rfl (by decide +kernel) rfl rfl (Nat.le_of_ble_eq_true rfl) dX9_findFreeGoer_11 rfl (fun H locs hP hD hS => ?_)
  refine lv_aload_n hx hb dX9_findFreeGoer_14 rfl (lv_at hl 0 rfl) ?_
  refine va_get (D := (dC, dI)) (ci := 8) (v := .ref h_t_goalOfGoer) (C := RX9) (T := TX9) (N := 13) hx hb hts uX9 hown hK hP 0 rfl rfl 10 (by decide) k4 (fun _ h9 => h9) rfl dX9_findFreeGoer_15 ?_
  refine lv_iconst (v := 0) hx hb dX9_findFreeGoer_18 (by decide) ?_
  refine lv_iload_n hx hb dX9_findFreeGoer_19 rfl (lv_at hl 1 rfl) ?_
  obtain ⟨b20, hm⟩ := ck_go hm
  refine my_iast (W' := fun z' => [(h_t, .inr (8, [.int f_t_nearestNumber, .int f_t_nearestLength, .int f_t_goals, .int f_t_goers, .int f_t_reached_1, .ref h_t_goalTones, .ref h_t_goerTones, .ref h_t_extra, .ref h_t_goalPrices, .ref h_t_goerPrices, .ref h_t_goalOfGoer, .ref h_t_cameFrom, .ref h_t_slack])), (h_t_cameFrom, .inl (cA, 13, .inl f_t_cameFrom)), (h_t_extra, .inl (cA, 169, .inl f_t_extra)), (h_t_goalOfGoer, .inl (cA, 13, .inl z')), (h_t_goalPrices, .inl (cA, 13, .inl f_t_goalPrices)), (h_t_goerPrices, .inl (cA, 13, .inl f_t_goerPrices)), (h_t_slack, .inl (cA, 13, .inl f_t_slack_1))]) hx hb hK hP hD hS 3 0 rfl rfl b20 dX9_findFreeGoer_20 (fun _ => rfl) (fun f_t_goalOfGoer_1 ef_t_goalOfGoer_1 H locs hP hD hS => ?_)
  replace hm := lt_go ef_t_goalOfGoer_1 hm
  refine lv_iconst (v := 0) hx hb dX9_findFreeGoer_21 (by decide) ?_
  refine lv_topi (fun v2_1 ev2_1 => ?_)
  replace hm := lt_go ev2_1 hm
  refine lv_istore_n (lv' := [(2, .int v2_1), (0, .ref h_t), (1, .int a1)]) hx hb dX9_findFreeGoer_22 rfl hl (by decide) rfl (fun ls hl => ?_)
  refine lv_iconst (v := 0) hx hb dX9_findFreeGoer_23 (by decide) ?_
  refine lv_topi (fun v3_1 ev3_1 => ?_)
  replace hm := lt_go ev3_1 hm
  refine lv_istore_n (lv' := [(3, .int v3_1), (2, .int v2_1), (0, .ref h_t), (1, .int a1)]) hx hb dX9_findFreeGoer_24 rfl hl (by decide) rfl (fun ls hl => ?_)
  have L25 : ∀ (n : Nat) (v2_2 : Int32) (v3_2 : Int32) (f_t_cameFrom_1 : Nat → Int32) (f_t_goalPrices_1 : Nat → Int32) (f_t_goerPrices_1 : Nat → Int32) (f_t_reached_2 : Int32) (f_t_slack_2 : Nat → Int32) (v2_3 : Int32) (f_t_cameFrom_2 : Nat → Int32) (f_t_goalPrices_2 : Nat → Int32) (f_t_goerPrices_2 : Nat → Int32) (f_t_reached_3 : Int32) (f_t_slack_3 : Nat → Int32), m_Ways_findFreeGoer_L25 fu f_t_goers f_t_goalOfGoer_1 f_t_extra n v2_2 v3_2 f_t_cameFrom_1 f_t_goalPrices_1 f_t_goerPrices_1 f_t_reached_2 f_t_slack_2 = some (v2_3, f_t_cameFrom_2, f_t_goalPrices_2, f_t_goerPrices_2, f_t_reached_3, f_t_slack_3) → ∀ (H : Heap) (locs : List Loc), va_P (dC, dI) vwCl [(h_t, .inr (8, [.int f_t_nearestNumber, .int f_t_nearestLength, .int f_t_goals, .int f_t_goers, .int f_t_reached_2, .ref h_t_goalTones, .ref h_t_goerTones, .ref h_t_extra, .ref h_t_goalPrices, .ref h_t_goerPrices, .ref h_t_goalOfGoer, .ref h_t_cameFrom, .ref h_t_slack])), (h_t_cameFrom, .inl (cA, 13, .inl f_t_cameFrom_1)), (h_t_extra, .inl (cA, 169, .inl f_t_extra)), (h_t_goalOfGoer, .inl (cA, 13, .inl f_t_goalOfGoer_1)), (h_t_goalPrices, .inl (cA, 13, .inl f_t_goalPrices_1)), (h_t_goerPrices, .inl (cA, 13, .inl f_t_goerPrices_1)), (h_t_slack, .inl (cA, 13, .inl f_t_slack_2))] H → va_D A [(h_t, .inr (8, [.int f_t_nearestNumber, .int f_t_nearestLength, .int f_t_goals, .int f_t_goers, .int f_t_reached_2, .ref h_t_goalTones, .ref h_t_goerTones, .ref h_t_extra, .ref h_t_goalPrices, .ref h_t_goerPrices, .ref h_t_goalOfGoer, .ref h_t_cameFrom, .ref h_t_slack])), (h_t_cameFrom, .inl (cA, 13, .inl f_t_cameFrom_1)), (h_t_extra, .inl (cA, 169, .inl f_t_extra)), (h_t_goalOfGoer, .inl (cA, 13, .inl f_t_goalOfGoer_1)), (h_t_goalPrices, .inl (cA, 13, .inl f_t_goalPrices_1)), (h_t_goerPrices, .inl (cA, 13, .inl f_t_goerPrices_1)), (h_t_slack, .inl (cA, 13, .inl f_t_slack_2))] → va_S A s.heap H locs → ∀ ls : Array Slot, lv_has ls 5 [(0, .ref h_t), (2, .int v2_2), (3, .int v3_2)] → (∀ (H : Heap) (locs : List Loc), va_P (dC, dI) vwCl [(h_t, .inr (8, [.int f_t_nearestNumber, .int f_t_nearestLength, .int f_t_goals, .int f_t_goers, .int f_t_reached_3, .ref h_t_goalTones, .ref h_t_goerTones, .ref h_t_extra, .ref h_t_goalPrices, .ref h_t_goerPrices, .ref h_t_goalOfGoer, .ref h_t_cameFrom, .ref h_t_slack])), (h_t_cameFrom, .inl (cA, 13, .inl f_t_cameFrom_2)), (h_t_extra, .inl (cA, 169, .inl f_t_extra)), (h_t_goalOfGoer, .inl (cA, 13, .inl f_t_goalOfGoer_1)), (h_t_goalPrices, .inl (cA, 13, .inl f_t_goalPrices_2)), (h_t_goerPrices, .inl (cA, 13, .inl f_t_goerPrices_2)), (h_t_slack, .inl (cA, 13, .inl f_t_slack_3))] H → va_D A [(h_t, .inr (8, [.int f_t_nearestNumber, .int f_t_nearestLength, .int f_t_goals, .int f_t_goers, .int f_t_reached_3, .ref h_t_goalTones, .ref h_t_goerTones, .ref h_t_extra, .ref h_t_goalPrices, .ref h_t_goerPrices, .ref h_t_goalOfGoer, .ref h_t_cameFrom, .ref h_t_slack])), (h_t_cameFrom, .inl (cA, 13, .inl f_t_cameFrom_2)), (h_t_extra, .inl (cA, 169, .inl f_t_extra)), (h_t_goalOfGoer, .inl (cA, 13, .inl f_t_goalOfGoer_1)), (h_t_goalPrices, .inl (cA, 13, .inl f_t_goalPrices_2)), (h_t_goerPrices, .inl (cA, 13, .inl f_t_goerPrices_2)), (h_t_slack, .inl (cA, 13, .inl f_t_slack_3))] → va_S A s.heap H locs → ∀ ls : Array Slot, lv_has ls 5 [(2, .int v2_3)] → W p l e (headSpec wsX9_findFreeGoer rmX9_findFreeGoer).room s m (([.ref h_t, .int a1] : List Value).toArray) below meth c H locs 0 0 Q (F0 m 81 ls [])) → W p l e (headSpec wsX9_findFreeGoer rmX9_findFreeGoer).room s m (([.ref h_t, .int a1] : List Value).toArray) below meth c H locs 0 0 Q (F0 m 25 ls []) := by
    clear hm hP hD hS hl
    intro n
    induction n with
    | zero => intro _ _ _ _ _ _ _ _ _ _ _ _ _ hm; exact nomatch (show none = some _ from hm)
    | succ n ih =>
      intro v2_2 v3_2 f_t_cameFrom_1 f_t_goalPrices_1 f_t_goerPrices_1 f_t_reached_2 f_t_slack_2 v2_3 f_t_cameFrom_2 f_t_goalPrices_2 f_t_goerPrices_2 f_t_reached_3 f_t_slack_3 hm H locs hP hD hS ls hl KK
      unfold m_Ways_findFreeGoer_L25 at hm
      refine lv_iload_n hx hb dX9_findFreeGoer_25 rfl (lv_at hl 2 rfl) ?_
      refine lv_aload_n hx hb dX9_findFreeGoer_26 rfl (lv_at hl 0 rfl) ?_
      refine va_get (D := (dC, dI)) (ci := 8) (v := .int f_t_goers) (C := RX9) (T := TX9) (N := 13) hx hb hts uX9 hown hK hP 0 rfl rfl 3 (by decide) k5 (fun _ h9 => h9) rfl dX9_findFreeGoer_27 ?_
      refine lv_icmp_gt (tgt := 81) hx hb dX9_findFreeGoer_30 (by decide) (fun c30 => ?_) (fun c30 => ?_)
      · replace hm := if_t c30 hm
        cases hm
        exact KK _ _ hP hD hS _ (lv_sub hl [1] rfl)
      · replace hm := if_f c30 hm
        refine lv_aload_n hx hb dX9_findFreeGoer_33 rfl (lv_at hl 0 rfl) ?_
        refine va_get (D := (dC, dI)) (ci := 8) (v := .ref h_t_goalOfGoer) (C := RX9) (T := TX9) (N := 13) hx hb hts uX9 hown hK hP 0 rfl rfl 10 (by decide) k4 (fun _ h9 => h9) rfl dX9_findFreeGoer_34 ?_
        refine lv_iload_n hx hb dX9_findFreeGoer_37 rfl (lv_at hl 1 rfl) ?_
        obtain ⟨b38, hm⟩ := ck_go hm
        refine va_iald hx hb hK hP 3 0 rfl rfl b38 dX9_findFreeGoer_38 ?_
        refine lv_if_eq (tgt := 81) hx hb dX9_findFreeGoer_39 (by decide) (fun c39 => ?_) (fun c39 => ?_)
        · replace hm := if_t c39 hm
          cases hm
          exact KK _ _ hP hD hS _ (lv_sub hl [1] rfl)
        · replace hm := if_f c39 hm
          refine lv_aload_n hx hb dX9_findFreeGoer_42 rfl (lv_at hl 0 rfl) ?_
          refine lv_dup hx hb dX9_findFreeGoer_43 rfl ?_
          refine va_get (D := (dC, dI)) (ci := 8) (v := .int f_t_reached_2) (C := RX9) (T := TX9) (N := 13) hx hb hts uX9 hown hK hP 0 rfl rfl 4 (by decide) k3 (fun _ h9 => h9) rfl dX9_findFreeGoer_44 ?_
          refine lv_iconst (v := 1) hx hb dX9_findFreeGoer_47 (by decide) ?_
          refine lv_iload_n hx hb dX9_findFreeGoer_48 rfl (lv_at hl 1 rfl) ?_
          refine lv_ishl hx hb dX9_findFreeGoer_49 ?_
          refine lv_ior hx hb dX9_findFreeGoer_50 ?_
          refine lv_topi (fun f_t_reached_4 ef_t_reached_4 => ?_)
          replace hm := lt_go ef_t_reached_4 hm
          refine my_put (W' := [(h_t, .inr (8, [.int f_t_nearestNumber, .int f_t_nearestLength, .int f_t_goals, .int f_t_goers, .int f_t_reached_4, .ref h_t_goalTones, .ref h_t_goerTones, .ref h_t_extra, .ref h_t_goalPrices, .ref h_t_goerPrices, .ref h_t_goalOfGoer, .ref h_t_cameFrom, .ref h_t_slack])), (h_t_cameFrom, .inl (cA, 13, .inl f_t_cameFrom_1)), (h_t_extra, .inl (cA, 169, .inl f_t_extra)), (h_t_goalOfGoer, .inl (cA, 13, .inl f_t_goalOfGoer_1)), (h_t_goalPrices, .inl (cA, 13, .inl f_t_goalPrices_1)), (h_t_goerPrices, .inl (cA, 13, .inl f_t_goerPrices_1)), (h_t_slack, .inl (cA, 13, .inl f_t_slack_2))]) (ci := 8) (v := .int f_t_reached_4) (ty := .int) (C := RX9) (T := TX9) (N := 13) hx hb hts uX9 tyX9 tyX9_ok nmX9 hown hK hP hD hS 0 rfl rfl 4 (by decide) k3 (fun _ h9 => h9) rfl (by decide +kernel) rfl rfl (Nat.le_of_ble_eq_true rfl) dX9_findFreeGoer_51 rfl (fun H locs hP hD hS => ?_)
          refine lv_aload_n hx hb dX9_findFreeGoer_54 rfl (lv_at hl 0 rfl) ?_
          refine lv_iload_n hx hb dX9_findFreeGoer_55 rfl (lv_at hl 1 rfl) ?_
          obtain ⟨r_1, f_t_cameFrom_3, f_t_slack_4, hc56, hm⟩ := bd3_go hm
          refine my_cVi (As := [.int v2_2]) (rest := []) (WC := [(h_t, .inr (8, [.int f_t_nearestNumber, .int f_t_nearestLength, .int f_t_goals, .int f_t_goers, .int f_t_reached_4, .ref h_t_goalTones, .ref h_t_goerTones, .ref h_t_extra, .ref h_t_goalPrices, .ref h_t_goerPrices, .ref h_t_goalOfGoer, .ref h_t_cameFrom, .ref h_t_slack])), (h_t_cameFrom, .inl (cA, 13, .inl f_t_cameFrom_1)), (h_t_extra, .inl (cA, 169, .inl f_t_extra)), (h_t_goalOfGoer, .inl (cA, 13, .inl f_t_goalOfGoer_1)), (h_t_goalPrices, .inl (cA, 13, .inl f_t_goalPrices_1)), (h_t_goerPrices, .inl (cA, 13, .inl f_t_goerPrices_1)), (h_t_slack, .inl (cA, 13, .inl f_t_slack_2))]) (WC' := [(h_t, .inr (8, [.int f_t_nearestNumber, .int f_t_nearestLength, .int f_t_goals, .int f_t_goers, .int f_t_reached_4, .ref h_t_goalTones, .ref h_t_goerTones, .ref h_t_extra, .ref h_t_goalPrices, .ref h_t_goerPrices, .ref h_t_goalOfGoer, .ref h_t_cameFrom, .ref h_t_slack])), (h_t_cameFrom, .inl (cA, 13, .inl f_t_cameFrom_3)), (h_t_extra, .inl (cA, 169, .inl f_t_extra)), (h_t_goalOfGoer, .inl (cA, 13, .inl f_t_goalOfGoer_1)), (h_t_goalPrices, .inl (cA, 13, .inl f_t_goalPrices_1)), (h_t_goerPrices, .inl (cA, 13, .inl f_t_goerPrices_1)), (h_t_slack, .inl (cA, 13, .inl f_t_slack_4))]) (WR := []) (W' := [(h_t, .inr (8, [.int f_t_nearestNumber, .int f_t_nearestLength, .int f_t_goals, .int f_t_goers, .int f_t_reached_4, .ref h_t_goalTones, .ref h_t_goerTones, .ref h_t_extra, .ref h_t_goalPrices, .ref h_t_goerPrices, .ref h_t_goalOfGoer, .ref h_t_cameFrom, .ref h_t_slack])), (h_t_cameFrom, .inl (cA, 13, .inl f_t_cameFrom_3)), (h_t_extra, .inl (cA, 169, .inl f_t_extra)), (h_t_goalOfGoer, .inl (cA, 13, .inl f_t_goalOfGoer_1)), (h_t_goalPrices, .inl (cA, 13, .inl f_t_goalPrices_1)), (h_t_goerPrices, .inl (cA, 13, .inl f_t_goerPrices_1)), (h_t_slack, .inl (cA, 13, .inl f_t_slack_4))]) ⟨hx, hb, hml, hown, hts⟩ hK hP hD hS hA (c_Ways_closestUnreached l dC dI cA fu h_t h_t_goalTones h_t_goerTones h_t_extra h_t_goalPrices h_t_goerPrices h_t_goalOfGoer h_t_cameFrom h_t_slack f_t_nearestNumber f_t_nearestLength f_t_goals f_t_goers f_t_reached_4 f_t_cameFrom_1 f_t_extra f_t_goalOfGoer_1 f_t_goalPrices_1 f_t_goerPrices_1 f_t_slack_2 v2_2 r_1 f_t_cameFrom_3 f_t_slack_4 hc56) (cwV 1 hts gX9_findFreeGoer_X9_closestUnreached rfl rfl rfl (by decide +kernel) ⟨Nat.le_of_ble_eq_true rfl, Nat.le_of_ble_eq_true rfl⟩) [0, 1, 2, 3, 4, 5, 6] [] [0, 1, 2, 3, 4, 5, 6] rfl rfl rfl rfl (ci := 8) (q0 := 0) rfl rfl rfl rfl hl.1 (Nat.le_of_ble_eq_true rfl) dX9_findFreeGoer_56 ⟨Nat.zero_le _, Nat.zero_le _⟩ (fun H locs hP hD hS => ?_)
          refine lv_topi (fun v4_1 ev4_1 => ?_)
          replace hm := lt_go ev4_1 hm
          refine lv_istore (lv' := [(4, .int v4_1), (0, .ref h_t), (2, .int v2_2), (3, .int v3_2)]) hx hb dX9_findFreeGoer_59 hl (by decide) rfl (fun ls hl => ?_)
          refine lv_aload_n hx hb dX9_findFreeGoer_61 rfl (lv_at hl 1 rfl) ?_
          refine lv_aload_n hx hb dX9_findFreeGoer_62 rfl (lv_at hl 1 rfl) ?_
          refine va_get (D := (dC, dI)) (ci := 8) (v := .ref h_t_slack) (C := RX9) (T := TX9) (N := 13) hx hb hts uX9 hown hK hP 0 rfl rfl 12 (by decide) k1 (fun _ h9 => h9) rfl dX9_findFreeGoer_63 ?_
          refine lv_iload hx hb dX9_findFreeGoer_66 (lv_at hl 0 rfl) ?_
          obtain ⟨b68, hm⟩ := ck_go hm
          refine va_iald hx hb hK hP 6 0 rfl rfl b68 dX9_findFreeGoer_68 ?_
          obtain ⟨f_t_goalPrices_3, f_t_goerPrices_3, f_t_slack_5, hc69, hm⟩ := bd3_go hm
          refine my_cVv (As := [.int (f_t_slack_4 v4_1.toNatClampNeg)]) (rest := []) (WC := [(h_t, .inr (8, [.int f_t_nearestNumber, .int f_t_nearestLength, .int f_t_goals, .int f_t_goers, .int f_t_reached_4, .ref h_t_goalTones, .ref h_t_goerTones, .ref h_t_extra, .ref h_t_goalPrices, .ref h_t_goerPrices, .ref h_t_goalOfGoer, .ref h_t_cameFrom, .ref h_t_slack])), (h_t_goalOfGoer, .inl (cA, 13, .inl f_t_goalOfGoer_1)), (h_t_goalPrices, .inl (cA, 13, .inl f_t_goalPrices_1)), (h_t_goerPrices, .inl (cA, 13, .inl f_t_goerPrices_1)), (h_t_slack, .inl (cA, 13, .inl f_t_slack_4))]) (WC' := [(h_t, .inr (8, [.int f_t_nearestNumber, .int f_t_nearestLength, .int f_t_goals, .int f_t_goers, .int f_t_reached_4, .ref h_t_goalTones, .ref h_t_goerTones, .ref h_t_extra, .ref h_t_goalPrices, .ref h_t_goerPrices, .ref h_t_goalOfGoer, .ref h_t_cameFrom, .ref h_t_slack])), (h_t_goalOfGoer, .inl (cA, 13, .inl f_t_goalOfGoer_1)), (h_t_goalPrices, .inl (cA, 13, .inl f_t_goalPrices_3)), (h_t_goerPrices, .inl (cA, 13, .inl f_t_goerPrices_3)), (h_t_slack, .inl (cA, 13, .inl f_t_slack_5))]) (WR := [(h_t_cameFrom, .inl (cA, 13, .inl f_t_cameFrom_3)), (h_t_extra, .inl (cA, 169, .inl f_t_extra))]) (W' := [(h_t, .inr (8, [.int f_t_nearestNumber, .int f_t_nearestLength, .int f_t_goals, .int f_t_goers, .int f_t_reached_4, .ref h_t_goalTones, .ref h_t_goerTones, .ref h_t_extra, .ref h_t_goalPrices, .ref h_t_goerPrices, .ref h_t_goalOfGoer, .ref h_t_cameFrom, .ref h_t_slack])), (h_t_cameFrom, .inl (cA, 13, .inl f_t_cameFrom_3)), (h_t_extra, .inl (cA, 169, .inl f_t_extra)), (h_t_goalOfGoer, .inl (cA, 13, .inl f_t_goalOfGoer_1)), (h_t_goalPrices, .inl (cA, 13, .inl f_t_goalPrices_3)), (h_t_goerPrices, .inl (cA, 13, .inl f_t_goerPrices_3)), (h_t_slack, .inl (cA, 13, .inl f_t_slack_5))]) ⟨hx, hb, hml, hown, hts⟩ hK hP hD hS hA (c_Ways_shiftPrices l dC dI cA fu h_t h_t_goalTones h_t_goerTones h_t_extra h_t_goalPrices h_t_goerPrices h_t_goalOfGoer h_t_cameFrom h_t_slack f_t_nearestNumber f_t_nearestLength f_t_goals f_t_goers f_t_reached_4 f_t_goalOfGoer_1 f_t_goalPrices_1 f_t_goerPrices_1 f_t_slack_4 (f_t_slack_4 v4_1.toNatClampNeg) f_t_goalPrices_3 f_t_goerPrices_3 f_t_slack_5 hc69) (cwV 1 hts gX9_findFreeGoer_X9_shiftPrices rfl rfl rfl (by decide +kernel) ⟨Nat.le_of_ble_eq_true rfl, Nat.le_of_ble_eq_true rfl⟩) [0, 3, 4, 5, 6] [1, 2] [2, 0, 1, 3, 4, 5, 6] rfl rfl rfl rfl (ci := 8) (q0 := 0) rfl rfl rfl rfl hl.1 (Nat.le_of_ble_eq_true rfl) dX9_findFreeGoer_69 ⟨Nat.zero_le _, Nat.zero_le _⟩ (fun H locs hP hD hS => ?_)
          refine lv_iload hx hb dX9_findFreeGoer_72 (lv_at hl 0 rfl) ?_
          refine lv_topi (fun v2_4 ev2_4 => ?_)
          replace hm := lt_go ev2_4 hm
          refine lv_istore_n (lv' := [(2, .int v2_4), (4, .int v4_1), (0, .ref h_t), (3, .int v3_2)]) hx hb dX9_findFreeGoer_74 rfl hl (by decide) rfl (fun ls hl => ?_)
          obtain ⟨v3_3, ev3_3⟩ : ∃ z : Int32, z = v3_2 + 1 := ⟨_, rfl⟩
          replace hm := lt_go ev3_3 hm
          refine lv_iinc (v := v3_3) (lv' := [(3, .int v3_3), (2, .int v2_4), (4, .int v4_1), (0, .ref h_t)]) hx hb dX9_findFreeGoer_75 hl (k := 3) rfl (by rw [ev3_3]; rfl) (by decide) rfl (fun ls hl => ?_)
          refine lv_goto (tgt := 25) hx hb dX9_findFreeGoer_78 (by decide) ?_
          exact ih _ _ _ _ _ _ _ _ _ _ _ _ _ hm _ _ hP hD hS _ (lv_sub hl [3, 1, 0] rfl) KK
  obtain ⟨v2_5, f_t_cameFrom_4, f_t_goalPrices_4, f_t_goerPrices_4, f_t_reached_5, f_t_slack_6, hl25, hm⟩ := bd6_go hm
  refine L25 _ _ _ _ _ _ _ _ _ _ _ _ _ _ hl25 _ _ hP hD hS _ (lv_sub hl [2, 1, 0] rfl) (fun H locs hP hD hS ls hl => ?_)
  refine lv_iload_n hx hb dX9_findFreeGoer_81 rfl (lv_at hl 0 rfl) ?_
  cases hm
  exact W_mono hQ (W.iret hx hb hr (fun t ht hW => ⟨⟨_, (), rfl, rfl, by rw [ht]; exact hP, va_K.moved hW.alike hK, hD⟩, hS.F ht⟩) hS.2.2 dX9_findFreeGoer_82)
abbrev rmX9_passOn : Room := { frames := 0, cells := 0, slots := 0, locals := 0 }
theorem uX9_X9_passOn : ∀ w ∈ wsX90, w ∈ wsX9_passOn := fun _ h => List.mem_cons_of_mem _ (List.mem_append_right _ (h))
set_option maxHeartbeats 40000000 in
set_option maxRecDepth 100000 in
theorem c_Ways_passOn (l : Launch) (dC : Nat → ClassId) (dI : Nat → Nat → Nat) (cA : ClassId) (fu : Nat) (h_t h_t_goalTones h_t_goerTones h_t_extra h_t_goalPrices h_t_goerPrices h_t_goalOfGoer h_t_cameFrom h_t_slack : Nat) (f_t_nearestNumber : Int32) (f_t_nearestLength : Int32) (f_t_goals : Int32) (f_t_goers : Int32) (f_t_reached : Int32) (f_t_cameFrom : Nat → Int32) (f_t_goalOfGoer : Nat → Int32) (a1 : Int32) (f_t_goalOfGoer_z : Nat → Int32) (hm : m_Ways_passOn fu f_t_cameFrom f_t_goalOfGoer f_t_goers a1 = some f_t_goalOfGoer_z) (sz : Nat) : Met l yX9_passOn wsX9_passOn rmX9_passOn (mPre (dC, dI) cA [.ref h_t, .int a1] sz [(h_t, .inr (8, [.int f_t_nearestNumber, .int f_t_nearestLength, .int f_t_goals, .int f_t_goers, .int f_t_reached, .ref h_t_goalTones, .ref h_t_goerTones, .ref h_t_extra, .ref h_t_goalPrices, .ref h_t_goerPrices, .ref h_t_goalOfGoer, .ref h_t_cameFrom, .ref h_t_slack])), (h_t_cameFrom, .inl (cA, 13, .inl f_t_cameFrom)), (h_t_goalOfGoer, .inl (cA, 13, .inl f_t_goalOfGoer))]) (mPosV (dC, dI) cA (va_A [(h_t, .inr (8, [.int f_t_nearestNumber, .int f_t_nearestLength, .int f_t_goals, .int f_t_goers, .int f_t_reached, .ref h_t_goalTones, .ref h_t_goerTones, .ref h_t_extra, .ref h_t_goalPrices, .ref h_t_goerPrices, .ref h_t_goalOfGoer, .ref h_t_cameFrom, .ref h_t_slack])), (h_t_cameFrom, .inl (cA, 13, .inl f_t_cameFrom)), (h_t_goalOfGoer, .inl (cA, 13, .inl f_t_goalOfGoer))] sz) [(h_t, .inr (8, [.int f_t_nearestNumber, .int f_t_nearestLength, .int f_t_goals, .int f_t_goers, .int f_t_reached, .ref h_t_goalTones, .ref h_t_goerTones, .ref h_t_extra, .ref h_t_goalPrices, .ref h_t_goerPrices, .ref h_t_goalOfGoer, .ref h_t_cameFrom, .ref h_t_slack])), (h_t_cameFrom, .inl (cA, 13, .inl f_t_cameFrom)), (h_t_goalOfGoer, .inl (cA, 13, .inl f_t_goalOfGoer_z))]) 0 0 (va_A [(h_t, .inr (8, [.int f_t_nearestNumber, .int f_t_nearestLength, .int f_t_goals, .int f_t_goers, .int f_t_reached, .ref h_t_goalTones, .ref h_t_goerTones, .ref h_t_extra, .ref h_t_goalPrices, .ref h_t_goerPrices, .ref h_t_goalOfGoer, .ref h_t_cameFrom, .ref h_t_slack])), (h_t_cameFrom, .inl (cA, 13, .inl f_t_cameFrom)), (h_t_goalOfGoer, .inl (cA, 13, .inl f_t_goalOfGoer))] sz) := by
  refine Met.ofW (cc := cX9_passOn) (maxL := 5) (ret := none) (by decide) rfl ?_
  intro p e s m args below meth c s₁ B hml hv
  obtain ⟨rfl, hsz, hP, hK, hD0⟩ := hv
  refine W_gen (fun Q hQ => ?_)
  have hx := B.exec
  have hb := B.bytes
  have hr := B.returns
  have hts := atoms_spec (ws := wsX9_passOn) B.pre
  have hown : s.vm.findClass RX9 = some m.cls := findClass_of_methodNamed B.named
  have hlocks := B.notSynchronized
  subst hsz
  have hD := hD0.self (sz := s.heap.size)
  clear hD0
  generalize hAe : va_A [(h_t, .inr (8, [.int f_t_nearestNumber, .int f_t_nearestLength, .int f_t_goals, .int f_t_goers, .int f_t_reached, .ref h_t_goalTones, .ref h_t_goerTones, .ref h_t_extra, .ref h_t_goalPrices, .ref h_t_goerPrices, .ref h_t_goalOfGoer, .ref h_t_cameFrom, .ref h_t_slack])), (h_t_cameFrom, .inl (cA, 13, .inl f_t_cameFrom)), (h_t_goalOfGoer, .inl (cA, 13, .inl f_t_goalOfGoer))] s.heap.size = A at hD hQ
  have hA : ∀ q : Nat, s.heap.size ≤ q → A q := fun q h => by rw [← hAe]; exact Or.inr h
  clear hAe
  have hS : va_S A s.heap s.heap [] := va_S.rf
  have hl := lv_entry ([.ref h_t, .int a1]) (n := 5) (Nat.le_of_ble_eq_true rfl)
  rw [lg_entry_eq]
  generalize (lg_sl ([.ref h_t, .int a1]) ++ List.replicate (5 - (lg_sl ([.ref h_t, .int a1])).length) Slot.unset).toArray = ls at hl ⊢
  have hl : lv_has ls 5 [(0, .ref h_t), (1, .int a1)] := hl
  have k1 := hts (.fieldLink RX9 21 "ToneSets$Ways" "goers" "I") (List.mem_of_getElem? (i := 1) rfl)
  have k2 := hts (.fieldLink RX9 46 "ToneSets$Ways" "cameFrom" "[I") (List.mem_of_getElem? (i := 2) rfl)
  have k3 := hts (.fieldLink RX9 43 "ToneSets$Ways" "goalOfGoer" "[I") (List.mem_of_getElem? (i := 3) rfl)
  have uX9 := uX9_X9_passOn
  unfold m_Ways_passOn at hm
  refine lv_iload_n hx hb dX9_passOn_0 rfl (lv_at hl 1 rfl) ?_
  refine lv_topi (fun v2_1 ev2_1 => ?_)
  replace hm := lt_go ev2_1 hm
  refine lv_istore_n (lv' := [(2, .int v2_1), (0, .ref h_t), (1, .int a1)]) hx hb dX9_passOn_1 rfl hl (by decide) rfl (fun ls hl => ?_)
  refine lv_iconst (v := 0) hx hb dX9_passOn_2 (by decide) ?_
  refine lv_topi (fun v3_1 ev3_1 => ?_)
  replace hm := lt_go ev3_1 hm
  refine lv_istore_n (lv' := [(3, .int v3_1), (2, .int v2_1), (0, .ref h_t), (1, .int a1)]) hx hb dX9_passOn_3 rfl hl (by decide) rfl (fun ls hl => ?_)
  have L4 : ∀ (n : Nat) (v2_2 : Int32) (v3_2 : Int32) (f_t_goalOfGoer_1 : Nat → Int32) (f_t_goalOfGoer_2 : Nat → Int32), m_Ways_passOn_L4 f_t_goers f_t_cameFrom n v2_2 v3_2 f_t_goalOfGoer_1 = some f_t_goalOfGoer_2 → ∀ (H : Heap) (locs : List Loc), va_P (dC, dI) vwCl [(h_t, .inr (8, [.int f_t_nearestNumber, .int f_t_nearestLength, .int f_t_goals, .int f_t_goers, .int f_t_reached, .ref h_t_goalTones, .ref h_t_goerTones, .ref h_t_extra, .ref h_t_goalPrices, .ref h_t_goerPrices, .ref h_t_goalOfGoer, .ref h_t_cameFrom, .ref h_t_slack])), (h_t_cameFrom, .inl (cA, 13, .inl f_t_cameFrom)), (h_t_goalOfGoer, .inl (cA, 13, .inl f_t_goalOfGoer_1))] H → va_D A [(h_t, .inr (8, [.int f_t_nearestNumber, .int f_t_nearestLength, .int f_t_goals, .int f_t_goers, .int f_t_reached, .ref h_t_goalTones, .ref h_t_goerTones, .ref h_t_extra, .ref h_t_goalPrices, .ref h_t_goerPrices, .ref h_t_goalOfGoer, .ref h_t_cameFrom, .ref h_t_slack])), (h_t_cameFrom, .inl (cA, 13, .inl f_t_cameFrom)), (h_t_goalOfGoer, .inl (cA, 13, .inl f_t_goalOfGoer_1))] → va_S A s.heap H locs → ∀ ls : Array Slot, lv_has ls 5 [(0, .ref h_t), (2, .int v2_2), (3, .int v3_2)] → (∀ (H : Heap) (locs : List Loc), va_P (dC, dI) vwCl [(h_t, .inr (8, [.int f_t_nearestNumber, .int f_t_nearestLength, .int f_t_goals, .int f_t_goers, .int f_t_reached, .ref h_t_goalTones, .ref h_t_goerTones, .ref h_t_extra, .ref h_t_goalPrices, .ref h_t_goerPrices, .ref h_t_goalOfGoer, .ref h_t_cameFrom, .ref h_t_slack])), (h_t_cameFrom, .inl (cA, 13, .inl f_t_cameFrom)), (h_t_goalOfGoer, .inl (cA, 13, .inl f_t_goalOfGoer_2))] H → va_D A [(h_t, .inr (8, [.int f_t_nearestNumber, .int f_t_nearestLength, .int f_t_goals, .int f_t_goers, .int f_t_reached, .ref h_t_goalTones, .ref h_t_goerTones, .ref h_t_extra, .ref h_t_goalPrices, .ref h_t_goerPrices, .ref h_t_goalOfGoer, .ref h_t_cameFrom, .ref h_t_slack])), (h_t_cameFrom, .inl (cA, 13, .inl f_t_cameFrom)), (h_t_goalOfGoer, .inl (cA, 13, .inl f_t_goalOfGoer_2))] → va_S A s.heap H locs → ∀ ls : Array Slot, lv_has ls 5 [] → W p l e (headSpec wsX9_passOn rmX9_passOn).room s m (([.ref h_t, .int a1] : List Value).toArray) below meth c H locs 0 0 Q (F0 m 46 ls [])) → W p l e (headSpec wsX9_passOn rmX9_passOn).room s m (([.ref h_t, .int a1] : List Value).toArray) below meth c H locs 0 0 Q (F0 m 4 ls []) := by
    clear hm hP hD hS hl
    intro n
    induction n with
    | zero => intro _ _ _ _ hm; exact nomatch (show none = some _ from hm)
    | succ n ih =>
      intro v2_2 v3_2 f_t_goalOfGoer_1 f_t_goalOfGoer_2 hm H locs hP hD hS ls hl KK
      unfold m_Ways_passOn_L4 at hm
      refine lv_iload_n hx hb dX9_passOn_4 rfl (lv_at hl 2 rfl) ?_
      refine lv_aload_n hx hb dX9_passOn_5 rfl (lv_at hl 0 rfl) ?_
      refine va_get (D := (dC, dI)) (ci := 8) (v := .int f_t_goers) (C := RX9) (T := TX9) (N := 13) hx hb hts uX9 hown hK hP 0 rfl rfl 3 (by decide) k1 (fun _ h9 => h9) rfl dX9_passOn_6 ?_
      refine lv_icmp_gt (tgt := 46) hx hb dX9_passOn_9 (by decide) (fun c9 => ?_) (fun c9 => ?_)
      · replace hm := if_t c9 hm
        cases hm
        exact KK _ _ hP hD hS _ (lv_sub hl [] rfl)
      · replace hm := if_f c9 hm
        refine lv_iload_n hx hb dX9_passOn_12 rfl (lv_at hl 1 rfl) ?_
        refine lv_if_eq (tgt := 46) hx hb dX9_passOn_13 (by decide) (fun c13 => ?_) (fun c13 => ?_)
        · replace hm := if_t c13 hm
          cases hm
          exact KK _ _ hP hD hS _ (lv_sub hl [] rfl)
        · replace hm := if_f c13 hm
          refine lv_aload_n hx hb dX9_passOn_16 rfl (lv_at hl 0 rfl) ?_
          refine va_get (D := (dC, dI)) (ci := 8) (v := .ref h_t_cameFrom) (C := RX9) (T := TX9) (N := 13) hx hb hts uX9 hown hK hP 0 rfl rfl 11 (by decide) k2 (fun _ h9 => h9) rfl dX9_passOn_17 ?_
          refine lv_iload_n hx hb dX9_passOn_20 rfl (lv_at hl 1 rfl) ?_
          obtain ⟨b21, hm⟩ := ck_go hm
          refine va_iald hx hb hK hP 1 0 rfl rfl b21 dX9_passOn_21 ?_
          refine lv_topi (fun v4_1 ev4_1 => ?_)
          replace hm := lt_go ev4_1 hm
          refine lv_istore (lv' := [(4, .int v4_1), (0, .ref h_t), (2, .int v2_2), (3, .int v3_2)]) hx hb dX9_passOn_22 hl (by decide) rfl (fun ls hl => ?_)
          refine lv_aload_n hx hb dX9_passOn_24 rfl (lv_at hl 1 rfl) ?_
          refine va_get (D := (dC, dI)) (ci := 8) (v := .ref h_t_goalOfGoer) (C := RX9) (T := TX9) (N := 13) hx hb hts uX9 hown hK hP 0 rfl rfl 10 (by decide) k3 (fun _ h9 => h9) rfl dX9_passOn_25 ?_
          refine lv_iload_n hx hb dX9_passOn_28 rfl (lv_at hl 2 rfl) ?_
          refine lv_aload_n hx hb dX9_passOn_29 rfl (lv_at hl 1 rfl) ?_
          refine va_get (D := (dC, dI)) (ci := 8) (v := .ref h_t_goalOfGoer) (C := RX9) (T := TX9) (N := 13) hx hb hts uX9 hown hK hP 0 rfl rfl 10 (by decide) k3 (fun _ h9 => h9) rfl dX9_passOn_30 ?_
          refine lv_iload hx hb dX9_passOn_33 (lv_at hl 0 rfl) ?_
          obtain ⟨b35, hm⟩ := ck_go hm
          refine va_iald hx hb hK hP 2 0 rfl rfl b35 dX9_passOn_35 ?_
          obtain ⟨b36, hm⟩ := ck_go hm
          refine my_iast (W' := fun z' => [(h_t, .inr (8, [.int f_t_nearestNumber, .int f_t_nearestLength, .int f_t_goals, .int f_t_goers, .int f_t_reached, .ref h_t_goalTones, .ref h_t_goerTones, .ref h_t_extra, .ref h_t_goalPrices, .ref h_t_goerPrices, .ref h_t_goalOfGoer, .ref h_t_cameFrom, .ref h_t_slack])), (h_t_cameFrom, .inl (cA, 13, .inl f_t_cameFrom)), (h_t_goalOfGoer, .inl (cA, 13, .inl z'))]) hx hb hK hP hD hS 2 0 rfl rfl b36 dX9_passOn_36 (fun _ => rfl) (fun f_t_goalOfGoer_3 ef_t_goalOfGoer_3 H locs hP hD hS => ?_)
          replace hm := lt_go ef_t_goalOfGoer_3 hm
          refine lv_iload hx hb dX9_passOn_37 (lv_at hl 0 rfl) ?_
          refine lv_topi (fun v2_3 ev2_3 => ?_)
          replace hm := lt_go ev2_3 hm
          refine lv_istore_n (lv' := [(2, .int v2_3), (4, .int v4_1), (0, .ref h_t), (3, .int v3_2)]) hx hb dX9_passOn_39 rfl hl (by decide) rfl (fun ls hl => ?_)
          obtain ⟨v3_3, ev3_3⟩ : ∃ z : Int32, z = v3_2 + 1 := ⟨_, rfl⟩
          replace hm := lt_go ev3_3 hm
          refine lv_iinc (v := v3_3) (lv' := [(3, .int v3_3), (2, .int v2_3), (4, .int v4_1), (0, .ref h_t)]) hx hb dX9_passOn_40 hl (k := 3) rfl (by rw [ev3_3]; rfl) (by decide) rfl (fun ls hl => ?_)
          refine lv_goto (tgt := 4) hx hb dX9_passOn_43 (by decide) ?_
          exact ih _ _ _ _ hm _ _ hP hD hS _ (lv_sub hl [3, 1, 0] rfl) KK
  obtain ⟨f_t_goalOfGoer_4, hl4, hm⟩ := bd1_go hm
  refine L4 _ _ _ _ _ hl4 _ _ hP hD hS _ (lv_sub hl [2, 1, 0] rfl) (fun H locs hP hD hS ls hl => ?_)
  cases hm
  exact W_mono hQ (W.vret hx hb hr (fun t ht hW => ⟨⟨(), rfl, trivial, by rw [ht]; exact hP, va_K.moved hW.alike hK, hD⟩, hS.F ht⟩) hS.2.2 dX9_passOn_46)
