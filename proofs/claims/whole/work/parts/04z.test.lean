abbrev rmJ6_bitCount_0f7a4 : Room := { frames := 0, cells := 0, slots := 0, locals := 0 }
set_option maxHeartbeats 40000000 in
set_option maxRecDepth 100000 in
theorem c_Ji_bitCount (l : Launch) (dC : Nat → ClassId) (dI : Nat → Nat → Nat) (cA : ClassId) (a0 : Int32) (r0 : Int32) (hm : m_Ji_bitCount a0 = some r0) (sz : Nat) : Met l yJ6_bitCount_0f7a4 wsJ6_bitCount_0f7a4 rmJ6_bitCount_0f7a4 (mPre (dC, dI) cA [.int a0] sz []) (mPosI (dC, dI) cA r0 (va_A [] sz) []) 0 0 (va_A [] sz) := by
  refine Met.ofW (cc := cJ6_bitCount_0f7a4) (maxL := 1) (ret := (some .int)) (by decide) rfl ?_
  intro p e s m args below meth c s₁ B hml hv
  obtain ⟨rfl, hsz, hP, hK, hD0⟩ := hv
  refine W_gen (fun Q hQ => ?_)
  have hx := B.exec
  have hb := B.bytes
  have hr := B.returns
  have hts := atoms_spec (ws := wsJ6_bitCount_0f7a4) B.pre
  have hown : s.vm.findClass RJ6 = some m.cls := findClass_of_methodNamed B.named
  have hlocks := B.notSynchronized
  subst hsz
  have hD := hD0.self (sz := s.heap.size)
  clear hD0
  generalize hAe : va_A [] s.heap.size = A at hD hQ
  have hA : ∀ q : Nat, s.heap.size ≤ q → A q := fun q h => by rw [← hAe]; exact Or.inr h
  clear hAe
  have hS : va_S A s.heap s.heap [] := va_S.rf
  have hl := lv_entry ([.int a0]) (n := 1) (Nat.le_of_ble_eq_true rfl)
  rw [lg_entry_eq]
  generalize (lg_sl ([.int a0]) ++ List.replicate (1 - (lg_sl ([.int a0])).length) Slot.unset).toArray = ls at hl ⊢
  have hl : lv_has ls 1 [(0, .int a0)] := hl
  have k1 := hts (.constant RJ6 265 (1431655765)) (List.mem_of_getElem? (i := 1) rfl)
  have k2 := hts (.constant RJ6 266 (858993459)) (List.mem_of_getElem? (i := 2) rfl)
  have k3 := hts (.constant RJ6 267 (252645135)) (List.mem_of_getElem? (i := 3) rfl)
  unfold m_Ji_bitCount at hm
  refine lv_iload_n hx hb dJ6_bitCount_0f7a4_0 rfl (lv_at hl 0 rfl) ?_
  refine lv_iload_n hx hb dJ6_bitCount_0f7a4_1 rfl (lv_at hl 0 rfl) ?_
  refine lv_iconst (v := 1) hx hb dJ6_bitCount_0f7a4_2 (by decide) ?_
  refine lv_iushr (v := ushr a0 1) hx hb dJ6_bitCount_0f7a4_3 rfl ?_
  refine lv_ldcw (v := 1431655765) hx hb hown k1 dJ6_bitCount_0f7a4_4 ?_
  refine lv_iand hx hb dJ6_bitCount_0f7a4_7 ?_
  refine lv_isub hx hb dJ6_bitCount_0f7a4_8 ?_
  refine lv_topi (fun v0_1 ev0_1 => ?_)
  replace hm := lt_go ev0_1 hm
  refine lv_istore_n (lv' := [(0, .int v0_1)]) hx hb dJ6_bitCount_0f7a4_9 rfl hl (by decide) rfl (fun ls hl => ?_)
  refine lv_iload_n hx hb dJ6_bitCount_0f7a4_10 rfl (lv_at hl 0 rfl) ?_
  refine lv_ldcw (v := 858993459) hx hb hown k2 dJ6_bitCount_0f7a4_11 ?_
  refine lv_iand hx hb dJ6_bitCount_0f7a4_14 ?_
  refine lv_iload_n hx hb dJ6_bitCount_0f7a4_15 rfl (lv_at hl 0 rfl) ?_
  refine lv_iconst (v := 2) hx hb dJ6_bitCount_0f7a4_16 (by decide) ?_
  refine lv_iushr (v := ushr v0_1 2) hx hb dJ6_bitCount_0f7a4_17 rfl ?_
  refine lv_ldcw (v := 858993459) hx hb hown k2 dJ6_bitCount_0f7a4_18 ?_
  refine lv_iand hx hb dJ6_bitCount_0f7a4_21 ?_
  refine lv_iadd hx hb dJ6_bitCount_0f7a4_22 ?_
  refine lv_topi (fun v0_2 ev0_2 => ?_)
  replace hm := lt_go ev0_2 hm
  refine lv_istore_n (lv' := [(0, .int v0_2)]) hx hb dJ6_bitCount_0f7a4_23 rfl hl (by decide) rfl (fun ls hl => ?_)
  refine lv_iload_n hx hb dJ6_bitCount_0f7a4_24 rfl (lv_at hl 0 rfl) ?_
  refine lv_iload_n hx hb dJ6_bitCount_0f7a4_25 rfl (lv_at hl 0 rfl) ?_
  refine lv_iconst (v := 4) hx hb dJ6_bitCount_0f7a4_26 (by decide) ?_
  refine lv_iushr (v := ushr v0_2 4) hx hb dJ6_bitCount_0f7a4_27 rfl ?_
  refine lv_iadd hx hb dJ6_bitCount_0f7a4_28 ?_
  refine lv_ldcw (v := 252645135) hx hb hown k3 dJ6_bitCount_0f7a4_29 ?_
  refine lv_iand hx hb dJ6_bitCount_0f7a4_32 ?_
  refine lv_topi (fun v0_3 ev0_3 => ?_)
  replace hm := lt_go ev0_3 hm
  refine lv_istore_n (lv' := [(0, .int v0_3)]) hx hb dJ6_bitCount_0f7a4_33 rfl hl (by decide) rfl (fun ls hl => ?_)
  refine lv_iload_n hx hb dJ6_bitCount_0f7a4_34 rfl (lv_at hl 0 rfl) ?_
  refine lv_iload_n hx hb dJ6_bitCount_0f7a4_35 rfl (lv_at hl 0 rfl) ?_
  refine lv_bipush (v := 8) hx hb dJ6_bitCount_0f7a4_36 (by decide) ?_
  refine lv_iushr (v := ushr v0_3 8) hx hb dJ6_bitCount_0f7a4_38 rfl ?_
  refine lv_iadd hx hb dJ6_bitCount_0f7a4_39 ?_
  refine lv_topi (fun v0_4 ev0_4 => ?_)
  replace hm := lt_go ev0_4 hm
  refine lv_istore_n (lv' := [(0, .int v0_4)]) hx hb dJ6_bitCount_0f7a4_40 rfl hl (by decide) rfl (fun ls hl => ?_)
  refine lv_iload_n hx hb dJ6_bitCount_0f7a4_41 rfl (lv_at hl 0 rfl) ?_
  refine lv_iload_n hx hb dJ6_bitCount_0f7a4_42 rfl (lv_at hl 0 rfl) ?_
  refine lv_bipush (v := 16) hx hb dJ6_bitCount_0f7a4_43 (by decide) ?_
  refine lv_iushr (v := ushr v0_4 16) hx hb dJ6_bitCount_0f7a4_45 rfl ?_
  refine lv_iadd hx hb dJ6_bitCount_0f7a4_46 ?_
  refine lv_topi (fun v0_5 ev0_5 => ?_)
  replace hm := lt_go ev0_5 hm
  refine lv_istore_n (lv' := [(0, .int v0_5)]) hx hb dJ6_bitCount_0f7a4_47 rfl hl (by decide) rfl (fun ls hl => ?_)
  refine lv_iload_n hx hb dJ6_bitCount_0f7a4_48 rfl (lv_at hl 0 rfl) ?_
  refine lv_bipush (v := 63) hx hb dJ6_bitCount_0f7a4_49 (by decide) ?_
  refine lv_iand hx hb dJ6_bitCount_0f7a4_51 ?_
  cases hm
  exact W_mono hQ (W.iret hx hb hr (fun t ht hW => ⟨⟨_, (), rfl, rfl, by rw [ht]; exact hP, va_K.moved hW.alike hK, hD⟩, hS.F ht⟩) hS.2.2 dJ6_bitCount_0f7a4_52)
abbrev rmJ7_fill_53178 : Room := { frames := 0, cells := 0, slots := 0, locals := 0 }
set_option maxHeartbeats 40000000 in
set_option maxRecDepth 100000 in
theorem c_Ja_fill (l : Launch) (dC : Nat → ClassId) (dI : Nat → Nat → Nat) (cA : ClassId) (fu : Nat) (h_p0 : Nat) (n_p0 : Nat) (f_p0 : Nat → Int32) (a1 : Int32) (f_p0_z : Nat → Int32) (hm : m_Ja_fill fu n_p0 f_p0 a1 = some f_p0_z) (sz : Nat) : Met l yJ7_fill_53178 wsJ7_fill_53178 rmJ7_fill_53178 (mPre (dC, dI) cA [.ref h_p0, .int a1] sz [(h_p0, .inl (cA, n_p0, .inl f_p0))]) (mPosV (dC, dI) cA (va_A [(h_p0, .inl (cA, n_p0, .inl f_p0))] sz) [(h_p0, .inl (cA, n_p0, .inl f_p0_z))]) 0 0 (va_A [(h_p0, .inl (cA, n_p0, .inl f_p0))] sz) := by
  refine Met.ofW (cc := cJ7_fill_53178) (maxL := 4) (ret := none) (by decide) rfl ?_
  intro p e s m args below meth c s₁ B hml hv
  obtain ⟨rfl, hsz, hP, hK, hD0⟩ := hv
  refine W_gen (fun Q hQ => ?_)
  have hx := B.exec
  have hb := B.bytes
  have hr := B.returns
  have hts := atoms_spec (ws := wsJ7_fill_53178) B.pre
  have hown : s.vm.findClass RJ7 = some m.cls := findClass_of_methodNamed B.named
  have hlocks := B.notSynchronized
  subst hsz
  have hD := hD0.self (sz := s.heap.size)
  clear hD0
  generalize hAe : va_A [(h_p0, .inl (cA, n_p0, .inl f_p0))] s.heap.size = A at hD hQ
  have hA : ∀ q : Nat, s.heap.size ≤ q → A q := fun q h => by rw [← hAe]; exact Or.inr h
  clear hAe
  have hS : va_S A s.heap s.heap [] := va_S.rf
  have hl := lv_entry ([.ref h_p0, .int a1]) (n := 4) (Nat.le_of_ble_eq_true rfl)
  rw [lg_entry_eq]
  generalize (lg_sl ([.ref h_p0, .int a1]) ++ List.replicate (4 - (lg_sl ([.ref h_p0, .int a1])).length) Slot.unset).toArray = ls at hl ⊢
  have hl : lv_has ls 4 [(0, .ref h_p0), (1, .int a1)] := hl
  unfold m_Ja_fill at hm
  refine lv_iconst (v := 0) hx hb dJ7_fill_53178_0 (by decide) ?_
  refine lv_topi (fun v2_1 ev2_1 => ?_)
  replace hm := lt_go ev2_1 hm
  refine lv_istore_n (lv' := [(2, .int v2_1), (0, .ref h_p0), (1, .int a1)]) hx hb dJ7_fill_53178_1 rfl hl (by decide) rfl (fun ls hl => ?_)
  refine lv_aload_n hx hb dJ7_fill_53178_2 rfl (lv_at hl 1 rfl) ?_
  refine va_alen (v := nI n_p0) hx hb hK hP 0 0 rfl rfl rfl dJ7_fill_53178_3 ?_
  refine lv_topi (fun v3_1 ev3_1 => ?_)
  replace hm := lt_go ev3_1 hm
  refine lv_istore_n (lv' := [(3, .int v3_1), (2, .int v2_1), (0, .ref h_p0), (1, .int a1)]) hx hb dJ7_fill_53178_4 rfl hl (by decide) rfl (fun ls hl => ?_)
  have L5 : ∀ (n : Nat) (v2_2 : Int32) (f_p0_1 : Nat → Int32) (f_p0_2 : Nat → Int32), m_Ja_fill_L5 v3_1 n_p0 a1 n v2_2 f_p0_1 = some f_p0_2 → ∀ (H : Heap) (locs : List Loc), va_P (dC, dI) vwCl [(h_p0, .inl (cA, n_p0, .inl f_p0_1))] H → va_D A [(h_p0, .inl (cA, n_p0, .inl f_p0_1))] → va_S A s.heap H locs → ∀ ls : Array Slot, lv_has ls 4 [(0, .ref h_p0), (1, .int a1), (2, .int v2_2), (3, .int v3_1)] → (∀ (H : Heap) (locs : List Loc), va_P (dC, dI) vwCl [(h_p0, .inl (cA, n_p0, .inl f_p0_2))] H → va_D A [(h_p0, .inl (cA, n_p0, .inl f_p0_2))] → va_S A s.heap H locs → ∀ ls : Array Slot, lv_has ls 4 [] → W p l e (headSpec wsJ7_fill_53178 rmJ7_fill_53178).room s m (([.ref h_p0, .int a1] : List Value).toArray) below meth c H locs 0 0 Q (F0 m 20 ls [])) → W p l e (headSpec wsJ7_fill_53178 rmJ7_fill_53178).room s m (([.ref h_p0, .int a1] : List Value).toArray) below meth c H locs 0 0 Q (F0 m 5 ls []) := by
    clear hm hP hD hS hl
    intro n
    induction n with
    | zero => intro _ _ _ hm; exact nomatch (show none = some _ from hm)
    | succ n ih =>
      intro v2_2 f_p0_1 f_p0_2 hm H locs hP hD hS ls hl KK
      unfold m_Ja_fill_L5 at hm
      refine lv_iload_n hx hb dJ7_fill_53178_5 rfl (lv_at hl 2 rfl) ?_
      refine lv_iload_n hx hb dJ7_fill_53178_6 rfl (lv_at hl 3 rfl) ?_
      refine lv_icmp_ge (tgt := 20) hx hb dJ7_fill_53178_7 (by decide) (fun c7 => ?_) (fun c7 => ?_)
      · replace hm := if_t c7 hm
        cases hm
        exact KK _ _ hP hD hS _ (lv_sub hl [] rfl)
      · replace hm := if_f c7 hm
        refine lv_aload_n hx hb dJ7_fill_53178_10 rfl (lv_at hl 0 rfl) ?_
        refine lv_iload_n hx hb dJ7_fill_53178_11 rfl (lv_at hl 2 rfl) ?_
        refine lv_iload_n hx hb dJ7_fill_53178_12 rfl (lv_at hl 1 rfl) ?_
        obtain ⟨b13, hm⟩ := ck_go hm
        refine my_iast (W' := fun z' => [(h_p0, .inl (cA, n_p0, .inl z'))]) hx hb hK hP hD hS 0 0 rfl rfl b13 dJ7_fill_53178_13 (fun _ => rfl) (fun f_p0_3 ef_p0_3 H locs hP hD hS => ?_)
        replace hm := lt_go ef_p0_3 hm
        obtain ⟨v2_3, ev2_3⟩ : ∃ z : Int32, z = v2_2 + 1 := ⟨_, rfl⟩
        replace hm := lt_go ev2_3 hm
        refine lv_iinc (v := v2_3) (lv' := [(2, .int v2_3), (0, .ref h_p0), (1, .int a1), (3, .int v3_1)]) hx hb dJ7_fill_53178_14 hl (k := 2) rfl (by rw [ev2_3]; rfl) (by decide) rfl (fun ls hl => ?_)
        refine lv_goto (tgt := 5) hx hb dJ7_fill_53178_17 (by decide) ?_
        exact ih _ _ _ hm _ _ hP hD hS _ (lv_sub hl [1, 2, 0, 3] rfl) KK
  obtain ⟨f_p0_4, hl5, hm⟩ := bd1_go hm
  refine L5 _ _ _ _ hl5 _ _ hP hD hS _ (lv_sub hl [2, 3, 1, 0] rfl) (fun H locs hP hD hS ls hl => ?_)
  cases hm
  exact W_mono hQ (W.vret hx hb hr (fun t ht hW => ⟨⟨(), rfl, trivial, by rw [ht]; exact hP, va_K.moved hW.alike hK, hD⟩, hS.F ht⟩) hS.2.2 dJ7_fill_53178_20)
abbrev rmX7_has : Room := { frames := 0, cells := 0, slots := 0, locals := 0 }
theorem uX7_X7_has : ∀ w ∈ wsX70, w ∈ wsX7_has := fun _ h => List.mem_cons_of_mem _ (List.mem_append_right _ (h))
set_option maxHeartbeats 40000000 in
set_option maxRecDepth 100000 in
theorem c_Shelf_has (l : Launch) (dC : Nat → ClassId) (dI : Nat → Nat → Nat) (cA : ClassId) (h_t h_t_sets : Nat) (f_t_size : Int32) (f_t_places : Int32) (f_t_drawn : Int32) (a1 : Int32) (r0 : Int32) (hm : m_Shelf_has f_t_places a1 = some r0) (sz : Nat) : Met l yX7_has wsX7_has rmX7_has (mPre (dC, dI) cA [.ref h_t, .int a1] sz [(h_t, .inr (6, [.int f_t_size, .int f_t_places, .int f_t_drawn, .ref h_t_sets]))]) (mPosI (dC, dI) cA r0 (va_A [(h_t, .inr (6, [.int f_t_size, .int f_t_places, .int f_t_drawn, .ref h_t_sets]))] sz) [(h_t, .inr (6, [.int f_t_size, .int f_t_places, .int f_t_drawn, .ref h_t_sets]))]) 0 0 (va_A [(h_t, .inr (6, [.int f_t_size, .int f_t_places, .int f_t_drawn, .ref h_t_sets]))] sz) := by
  refine Met.ofW (cc := cX7_has) (maxL := 2) (ret := (some .boolean)) (by decide) rfl ?_
  intro p e s m args below meth c s₁ B hml hv
  obtain ⟨rfl, hsz, hP, hK, hD0⟩ := hv
  refine W_gen (fun Q hQ => ?_)
  have hx := B.exec
  have hb := B.bytes
  have hr := B.returns
  have hts := atoms_spec (ws := wsX7_has) B.pre
  have hown : s.vm.findClass RX7 = some m.cls := findClass_of_methodNamed B.named
  have hlocks := B.notSynchronized
  subst hsz
  have hD := hD0.self (sz := s.heap.size)
  clear hD0
  generalize hAe : va_A [(h_t, .inr (6, [.int f_t_size, .int f_t_places, .int f_t_drawn, .ref h_t_sets]))] s.heap.size = A at hD hQ
  have hA : ∀ q : Nat, s.heap.size ≤ q → A q := fun q h => by rw [← hAe]; exact Or.inr h
  clear hAe
  have hS : va_S A s.heap s.heap [] := va_S.rf
  have hl := lv_entry ([.ref h_t, .int a1]) (n := 2) (Nat.le_of_ble_eq_true rfl)
  rw [lg_entry_eq]
  generalize (lg_sl ([.ref h_t, .int a1]) ++ List.replicate (2 - (lg_sl ([.ref h_t, .int a1])).length) Slot.unset).toArray = ls at hl ⊢
  have hl : lv_has ls 2 [(0, .ref h_t), (1, .int a1)] := hl
  have k1 := hts (.fieldLink RX7 15 "ToneSets$Shelf" "places" "I") (List.mem_of_getElem? (i := 1) rfl)
  have uX7 := uX7_X7_has
  unfold m_Shelf_has at hm
  refine lv_iload_n hx hb dX7_has_0 rfl (lv_at hl 1 rfl) ?_
  refine lv_if_lt (tgt := 16) hx hb dX7_has_1 (by decide) (fun c1 => ?_) (fun c1 => ?_)
  · replace hm := if_t c1 hm
    refine lv_iconst (v := 0) hx hb dX7_has_16 (by decide) ?_
    cases hm
    exact W_mono hQ (W.zret hx hb hr rfl (fun t ht hW => ⟨⟨_, (), rfl, rfl, by rw [ht]; exact hP, va_K.moved hW.alike hK, hD⟩, hS.F ht⟩) hS.2.2 dX7_has_17)
  · replace hm := if_f c1 hm
    refine lv_iload_n hx hb dX7_has_4 rfl (lv_at hl 1 rfl) ?_
    refine lv_aload_n hx hb dX7_has_5 rfl (lv_at hl 0 rfl) ?_
    refine va_get (D := (dC, dI)) (ci := 6) (v := .int f_t_places) (C := RX7) (T := TX7) (N := 4) hx hb hts uX7 hown hK hP 0 rfl rfl 1 (by decide) k1 (fun _ h9 => h9) rfl dX7_has_6 ?_
    refine lv_icmp_ge (tgt := 16) hx hb dX7_has_9 (by decide) (fun c9 => ?_) (fun c9 => ?_)
    · replace hm := if_t c9 hm
      refine lv_iconst (v := 0) hx hb dX7_has_16 (by decide) ?_
      cases hm
      exact W_mono hQ (W.zret hx hb hr rfl (fun t ht hW => ⟨⟨_, (), rfl, rfl, by rw [ht]; exact hP, va_K.moved hW.alike hK, hD⟩, hS.F ht⟩) hS.2.2 dX7_has_17)
    · replace hm := if_f c9 hm
      refine lv_iconst (v := 1) hx hb dX7_has_12 (by decide) ?_
      refine lv_goto (tgt := 17) hx hb dX7_has_13 (by decide) ?_
      cases hm
      exact W_mono hQ (W.zret hx hb hr rfl (fun t ht hW => ⟨⟨_, (), rfl, rfl, by rw [ht]; exact hP, va_K.moved hW.alike hK, hD⟩, hS.F ht⟩) hS.2.2 dX7_has_17)
abbrev rmX7_setAt : Room := { frames := 1, cells := 0, slots := 0, locals := 21 }
theorem uX7_X7_setAt : ∀ w ∈ wsX70, w ∈ wsX7_setAt := fun _ h => List.mem_cons_of_mem _ (List.mem_append_right _ (h))
set_option maxHeartbeats 40000000 in
set_option maxRecDepth 100000 in
theorem c_Shelf_setAt (l : Launch) (dC : Nat → ClassId) (dI : Nat → Nat → Nat) (cA : ClassId) (h_t h_t_sets : Nat) (f_t_size : Int32) (f_t_places : Int32) (f_t_drawn : Int32) (f_t_sets : Nat → Int32) (a1 : Int32) (r0 : Int32) (hm : m_Shelf_setAt f_t_places f_t_sets a1 = some r0) (sz : Nat) : Met l yX7_setAt wsX7_setAt rmX7_setAt (mPre (dC, dI) cA [.ref h_t, .int a1] sz [(h_t, .inr (6, [.int f_t_size, .int f_t_places, .int f_t_drawn, .ref h_t_sets])), (h_t_sets, .inl (cA, 8, .inl f_t_sets))]) (mPosI (dC, dI) cA r0 (va_A [(h_t, .inr (6, [.int f_t_size, .int f_t_places, .int f_t_drawn, .ref h_t_sets])), (h_t_sets, .inl (cA, 8, .inl f_t_sets))] sz) [(h_t, .inr (6, [.int f_t_size, .int f_t_places, .int f_t_drawn, .ref h_t_sets])), (h_t_sets, .inl (cA, 8, .inl f_t_sets))]) 0 0 (va_A [(h_t, .inr (6, [.int f_t_size, .int f_t_places, .int f_t_drawn, .ref h_t_sets])), (h_t_sets, .inl (cA, 8, .inl f_t_sets))] sz) := by
  refine Met.ofW (cc := cX7_setAt) (maxL := 2) (ret := (some .int)) (by decide) rfl ?_
  intro p e s m args below meth c s₁ B hml hv
  obtain ⟨rfl, hsz, hP, hK, hD0⟩ := hv
  refine W_gen (fun Q hQ => ?_)
  have hx := B.exec
  have hb := B.bytes
  have hr := B.returns
  have hts := atoms_spec (ws := wsX7_setAt) B.pre
  have hown : s.vm.findClass RX7 = some m.cls := findClass_of_methodNamed B.named
  have hlocks := B.notSynchronized
  subst hsz
  have hD := hD0.self (sz := s.heap.size)
  clear hD0
  generalize hAe : va_A [(h_t, .inr (6, [.int f_t_size, .int f_t_places, .int f_t_drawn, .ref h_t_sets])), (h_t_sets, .inl (cA, 8, .inl f_t_sets))] s.heap.size = A at hD hQ
  have hA : ∀ q : Nat, s.heap.size ≤ q → A q := fun q h => by rw [← hAe]; exact Or.inr h
  clear hAe
  have hS : va_S A s.heap s.heap [] := va_S.rf
  have hl := lv_entry ([.ref h_t, .int a1]) (n := 2) (Nat.le_of_ble_eq_true rfl)
  rw [lg_entry_eq]
  generalize (lg_sl ([.ref h_t, .int a1]) ++ List.replicate (2 - (lg_sl ([.ref h_t, .int a1])).length) Slot.unset).toArray = ls at hl ⊢
  have hl : lv_has ls 2 [(0, .ref h_t), (1, .int a1)] := hl
  have k1 := hts (.fieldLink RX7 21 "ToneSets$Shelf" "sets" "[I") (List.mem_of_getElem? (i := 1) rfl)
  have uX7 := uX7_X7_setAt
  unfold m_Shelf_setAt at hm
  refine lv_aload_n hx hb dX7_setAt_0 rfl (lv_at hl 0 rfl) ?_
  refine lv_iload_n hx hb dX7_setAt_1 rfl (lv_at hl 1 rfl) ?_
  obtain ⟨r_1, hc2, hm⟩ := bd1_go hm
  refine my_cVi (As := [.int a1]) (rest := []) (WC := [(h_t, .inr (6, [.int f_t_size, .int f_t_places, .int f_t_drawn, .ref h_t_sets]))]) (WC' := [(h_t, .inr (6, [.int f_t_size, .int f_t_places, .int f_t_drawn, .ref h_t_sets]))]) (WR := [(h_t_sets, .inl (cA, 8, .inl f_t_sets))]) (W' := [(h_t, .inr (6, [.int f_t_size, .int f_t_places, .int f_t_drawn, .ref h_t_sets])), (h_t_sets, .inl (cA, 8, .inl f_t_sets))]) ⟨hx, hb, hml, hown, hts⟩ hK hP hD hS hA (c_Shelf_has l dC dI cA h_t h_t_sets f_t_size f_t_places f_t_drawn a1 r_1 hc2) (cwV 1 hts gX7_setAt_X7_has rfl rfl rfl (by decide +kernel) ⟨Nat.le_of_ble_eq_true rfl, Nat.le_of_ble_eq_true rfl⟩) [0] [1] [1, 0] rfl rfl rfl rfl (ci := 6) (q0 := 0) rfl rfl rfl rfl hl.1 (Nat.le_of_ble_eq_true rfl) dX7_setAt_2 ⟨Nat.zero_le _, Nat.zero_le _⟩ (fun H locs hP hD hS => ?_)
  refine lv_if_eq (tgt := 17) hx hb dX7_setAt_5 (by decide) (fun c5 => ?_) (fun c5 => ?_)
  · replace hm := if_t c5 hm
    refine lv_iconst (v := 0) hx hb dX7_setAt_17 (by decide) ?_
    cases hm
    exact W_mono hQ (W.iret hx hb hr (fun t ht hW => ⟨⟨_, (), rfl, rfl, by rw [ht]; exact hP, va_K.moved hW.alike hK, hD⟩, hS.F ht⟩) hS.2.2 dX7_setAt_18)
  · replace hm := if_f c5 hm
    refine lv_aload_n hx hb dX7_setAt_8 rfl (lv_at hl 0 rfl) ?_
    refine va_get (D := (dC, dI)) (ci := 6) (v := .ref h_t_sets) (C := RX7) (T := TX7) (N := 4) hx hb hts uX7 hown hK hP 0 rfl rfl 3 (by decide) k1 (fun _ h9 => h9) rfl dX7_setAt_9 ?_
    refine lv_iload_n hx hb dX7_setAt_12 rfl (lv_at hl 1 rfl) ?_
    obtain ⟨b13, hm⟩ := ck_go hm
    refine va_iald hx hb hK hP 1 0 rfl rfl b13 dX7_setAt_13 ?_
    refine lv_goto (tgt := 18) hx hb dX7_setAt_14 (by decide) ?_
    cases hm
    exact W_mono hQ (W.iret hx hb hr (fun t ht hW => ⟨⟨_, (), rfl, rfl, by rw [ht]; exact hP, va_K.moved hW.alike hK, hD⟩, hS.F ht⟩) hS.2.2 dX7_setAt_18)
abbrev rmX3_mirrored : Room := { frames := 0, cells := 0, slots := 0, locals := 0 }
set_option maxHeartbeats 40000000 in
set_option maxRecDepth 100000 in
theorem c_Ring_mirrored (l : Launch) (dC : Nat → ClassId) (dI : Nat → Nat → Nat) (cA : ClassId) (fu : Nat) (a0 : Int32) (a1 : Int32) (r0 : Int32) (hm : m_Ring_mirrored fu a0 a1 = some r0) (sz : Nat) : Met l yX3_mirrored wsX3_mirrored rmX3_mirrored (mPre (dC, dI) cA [.int a0, .int a1] sz []) (mPosI (dC, dI) cA r0 (va_A [] sz) []) 0 0 (va_A [] sz) := by
  refine Met.ofW (cc := cX3_mirrored) (maxL := 4) (ret := (some .int)) (by decide) rfl ?_
  intro p e s m args below meth c s₁ B hml hv
  obtain ⟨rfl, hsz, hP, hK, hD0⟩ := hv
  refine W_gen (fun Q hQ => ?_)
  have hx := B.exec
  have hb := B.bytes
  have hr := B.returns
  have hts := atoms_spec (ws := wsX3_mirrored) B.pre
  have hown : s.vm.findClass RX3 = some m.cls := findClass_of_methodNamed B.named
  have hlocks := B.notSynchronized
  subst hsz
  have hD := hD0.self (sz := s.heap.size)
  clear hD0
  generalize hAe : va_A [] s.heap.size = A at hD hQ
  have hA : ∀ q : Nat, s.heap.size ≤ q → A q := fun q h => by rw [← hAe]; exact Or.inr h
  clear hAe
  have hS : va_S A s.heap s.heap [] := va_S.rf
  have hl := lv_entry ([.int a0, .int a1]) (n := 4) (Nat.le_of_ble_eq_true rfl)
  rw [lg_entry_eq]
  generalize (lg_sl ([.int a0, .int a1]) ++ List.replicate (4 - (lg_sl ([.int a0, .int a1])).length) Slot.unset).toArray = ls at hl ⊢
  have hl : lv_has ls 4 [(0, .int a0), (1, .int a1)] := hl
  unfold m_Ring_mirrored at hm
  refine lv_iload_n hx hb dX3_mirrored_0 rfl (lv_at hl 0 rfl) ?_
  refine lv_iconst (v := 1) hx hb dX3_mirrored_1 (by decide) ?_
  refine lv_iand hx hb dX3_mirrored_2 ?_
  refine lv_topi (fun v2_1 ev2_1 => ?_)
  replace hm := lt_go ev2_1 hm
  refine lv_istore_n (lv' := [(2, .int v2_1), (0, .int a0), (1, .int a1)]) hx hb dX3_mirrored_3 rfl hl (by decide) rfl (fun ls hl => ?_)
  refine lv_iconst (v := 1) hx hb dX3_mirrored_4 (by decide) ?_
  refine lv_topi (fun v3_1 ev3_1 => ?_)
  replace hm := lt_go ev3_1 hm
  refine lv_istore_n (lv' := [(3, .int v3_1), (2, .int v2_1), (0, .int a0), (1, .int a1)]) hx hb dX3_mirrored_5 rfl hl (by decide) rfl (fun ls hl => ?_)
  have L6 : ∀ (n : Nat) (v2_2 : Int32) (v3_2 : Int32) (v2_3 : Int32), m_Ring_mirrored_L6 a1 a0 n v2_2 v3_2 = some v2_3 → ∀ (H : Heap) (locs : List Loc), va_P (dC, dI) vwCl [] H → va_D A [] → va_S A s.heap H locs → ∀ ls : Array Slot, lv_has ls 4 [(0, .int a0), (1, .int a1), (2, .int v2_2), (3, .int v3_2)] → (∀ (H : Heap) (locs : List Loc), va_P (dC, dI) vwCl [] H → va_D A [] → va_S A s.heap H locs → ∀ ls : Array Slot, lv_has ls 4 [(2, .int v2_3)] → W p l e (headSpec wsX3_mirrored rmX3_mirrored).room s m (([.int a0, .int a1] : List Value).toArray) below meth c H locs 0 0 Q (F0 m 29 ls [])) → W p l e (headSpec wsX3_mirrored rmX3_mirrored).room s m (([.int a0, .int a1] : List Value).toArray) below meth c H locs 0 0 Q (F0 m 6 ls []) := by
    clear hm hP hD hS hl
    intro n
    induction n with
    | zero => intro _ _ _ hm; exact nomatch (show none = some _ from hm)
    | succ n ih =>
      intro v2_2 v3_2 v2_3 hm H locs hP hD hS ls hl KK
      unfold m_Ring_mirrored_L6 at hm
      refine lv_iload_n hx hb dX3_mirrored_6 rfl (lv_at hl 3 rfl) ?_
      refine lv_iload_n hx hb dX3_mirrored_7 rfl (lv_at hl 1 rfl) ?_
      refine lv_icmp_ge (tgt := 29) hx hb dX3_mirrored_8 (by decide) (fun c8 => ?_) (fun c8 => ?_)
      · replace hm := if_t c8 hm
        cases hm
        exact KK _ _ hP hD hS _ (lv_sub hl [2] rfl)
      · replace hm := if_f c8 hm
        refine lv_iload_n hx hb dX3_mirrored_11 rfl (lv_at hl 2 rfl) ?_
        refine lv_iload_n hx hb dX3_mirrored_12 rfl (lv_at hl 0 rfl) ?_
        refine lv_iload_n hx hb dX3_mirrored_13 rfl (lv_at hl 3 rfl) ?_
        refine lv_ishr hx hb dX3_mirrored_14 ?_
        refine lv_iconst (v := 1) hx hb dX3_mirrored_15 (by decide) ?_
        refine lv_iand hx hb dX3_mirrored_16 ?_
        refine lv_iload_n hx hb dX3_mirrored_17 rfl (lv_at hl 1 rfl) ?_
        refine lv_iload_n hx hb dX3_mirrored_18 rfl (lv_at hl 3 rfl) ?_
        refine lv_isub hx hb dX3_mirrored_19 ?_
        refine lv_ishl hx hb dX3_mirrored_20 ?_
        refine lv_ior hx hb dX3_mirrored_21 ?_
        refine lv_topi (fun v2_4 ev2_4 => ?_)
        replace hm := lt_go ev2_4 hm
        refine lv_istore_n (lv' := [(2, .int v2_4), (0, .int a0), (1, .int a1), (3, .int v3_2)]) hx hb dX3_mirrored_22 rfl hl (by decide) rfl (fun ls hl => ?_)
        obtain ⟨v3_3, ev3_3⟩ : ∃ z : Int32, z = v3_2 + 1 := ⟨_, rfl⟩
        replace hm := lt_go ev3_3 hm
        refine lv_iinc (v := v3_3) (lv' := [(3, .int v3_3), (2, .int v2_4), (0, .int a0), (1, .int a1)]) hx hb dX3_mirrored_23 hl (k := 3) rfl (by rw [ev3_3]; rfl) (by decide) rfl (fun ls hl => ?_)
        refine lv_goto (tgt := 6) hx hb dX3_mirrored_26 (by decide) ?_
        exact ih _ _ _ hm _ _ hP hD hS _ (lv_sub hl [2, 3, 1, 0] rfl) KK
  obtain ⟨v2_5, hl6, hm⟩ := bd1_go hm
  refine L6 _ _ _ _ hl6 _ _ hP hD hS _ (lv_sub hl [2, 3, 1, 0] rfl) (fun H locs hP hD hS ls hl => ?_)
  refine lv_iload_n hx hb dX3_mirrored_29 rfl (lv_at hl 0 rfl) ?_
  cases hm
  exact W_mono hQ (W.iret hx hb hr (fun t ht hW => ⟨⟨_, (), rfl, rfl, by rw [ht]; exact hP, va_K.moved hW.alike hK, hD⟩, hS.F ht⟩) hS.2.2 dX3_mirrored_30)
abbrev rmX3_allTones : Room := { frames := 0, cells := 0, slots := 0, locals := 0 }
set_option maxHeartbeats 40000000 in
set_option maxRecDepth 100000 in
theorem c_Ring_allTones (l : Launch) (dC : Nat → ClassId) (dI : Nat → Nat → Nat) (cA : ClassId) (a0 : Int32) (r0 : Int32) (hm : m_Ring_allTones a0 = some r0) (sz : Nat) : Met l yX3_allTones wsX3_allTones rmX3_allTones (mPre (dC, dI) cA [.int a0] sz []) (mPosI (dC, dI) cA r0 (va_A [] sz) []) 0 0 (va_A [] sz) := by
  refine Met.ofW (cc := cX3_allTones) (maxL := 1) (ret := (some .int)) (by decide) rfl ?_
  intro p e s m args below meth c s₁ B hml hv
  obtain ⟨rfl, hsz, hP, hK, hD0⟩ := hv
  refine W_gen (fun Q hQ => ?_)
  have hx := B.exec
  have hb := B.bytes
  have hr := B.returns
  have hts := atoms_spec (ws := wsX3_allTones) B.pre
  have hown : s.vm.findClass RX3 = some m.cls := findClass_of_methodNamed B.named
  have hlocks := B.notSynchronized
  subst hsz
  have hD := hD0.self (sz := s.heap.size)
  clear hD0
  generalize hAe : va_A [] s.heap.size = A at hD hQ
  have hA : ∀ q : Nat, s.heap.size ≤ q → A q := fun q h => by rw [← hAe]; exact Or.inr h
  clear hAe
  have hS : va_S A s.heap s.heap [] := va_S.rf
  have hl := lv_entry ([.int a0]) (n := 1) (Nat.le_of_ble_eq_true rfl)
  rw [lg_entry_eq]
  generalize (lg_sl ([.int a0]) ++ List.replicate (1 - (lg_sl ([.int a0])).length) Slot.unset).toArray = ls at hl ⊢
  have hl : lv_has ls 1 [(0, .int a0)] := hl
  unfold m_Ring_allTones at hm
  refine lv_iconst (v := 1) hx hb dX3_allTones_0 (by decide) ?_
  refine lv_iload_n hx hb dX3_allTones_1 rfl (lv_at hl 0 rfl) ?_
  refine lv_ishl hx hb dX3_allTones_2 ?_
  refine lv_iconst (v := 1) hx hb dX3_allTones_3 (by decide) ?_
  refine lv_isub hx hb dX3_allTones_4 ?_
  cases hm
  exact W_mono hQ (W.iret hx hb hr (fun t ht hW => ⟨⟨_, (), rfl, rfl, by rw [ht]; exact hP, va_K.moved hW.alike hK, hD⟩, hS.F ht⟩) hS.2.2 dX3_allTones_5)
abbrev rmX3_turned : Room := { frames := 1, cells := 0, slots := 0, locals := 20 }
set_option maxHeartbeats 40000000 in
set_option maxRecDepth 100000 in
theorem c_Ring_turned (l : Launch) (dC : Nat → ClassId) (dI : Nat → Nat → Nat) (cA : ClassId) (a0 : Int32) (a1 : Int32) (a2 : Int32) (r0 : Int32) (hm : m_Ring_turned a0 a1 a2 = some r0) (sz : Nat) : Met l yX3_turned wsX3_turned rmX3_turned (mPre (dC, dI) cA [.int a0, .int a1, .int a2] sz []) (mPosI (dC, dI) cA r0 (va_A [] sz) []) 0 0 (va_A [] sz) := by
  refine Met.ofW (cc := cX3_turned) (maxL := 3) (ret := (some .int)) (by decide) rfl ?_
  intro p e s m args below meth c s₁ B hml hv
  obtain ⟨rfl, hsz, hP, hK, hD0⟩ := hv
  refine W_gen (fun Q hQ => ?_)
  have hx := B.exec
  have hb := B.bytes
  have hr := B.returns
  have hts := atoms_spec (ws := wsX3_turned) B.pre
  have hown : s.vm.findClass RX3 = some m.cls := findClass_of_methodNamed B.named
  have hlocks := B.notSynchronized
  subst hsz
  have hD := hD0.self (sz := s.heap.size)
  clear hD0
  generalize hAe : va_A [] s.heap.size = A at hD hQ
  have hA : ∀ q : Nat, s.heap.size ≤ q → A q := fun q h => by rw [← hAe]; exact Or.inr h
  clear hAe
  have hS : va_S A s.heap s.heap [] := va_S.rf
  have hl := lv_entry ([.int a0, .int a1, .int a2]) (n := 3) (Nat.le_of_ble_eq_true rfl)
  rw [lg_entry_eq]
  generalize (lg_sl ([.int a0, .int a1, .int a2]) ++ List.replicate (3 - (lg_sl ([.int a0, .int a1, .int a2])).length) Slot.unset).toArray = ls at hl ⊢
  have hl : lv_has ls 3 [(0, .int a0), (1, .int a1), (2, .int a2)] := hl
  unfold m_Ring_turned at hm
  refine lv_iload_n hx hb dX3_turned_0 rfl (lv_at hl 0 rfl) ?_
  refine lv_iload_n hx hb dX3_turned_1 rfl (lv_at hl 1 rfl) ?_
  refine lv_ishl hx hb dX3_turned_2 ?_
  refine lv_iload_n hx hb dX3_turned_3 rfl (lv_at hl 0 rfl) ?_
  refine lv_iload_n hx hb dX3_turned_4 rfl (lv_at hl 2 rfl) ?_
  refine lv_iload_n hx hb dX3_turned_5 rfl (lv_at hl 1 rfl) ?_
  refine lv_isub hx hb dX3_turned_6 ?_
  refine lv_ishr hx hb dX3_turned_7 ?_
  refine lv_ior hx hb dX3_turned_8 ?_
  refine lv_iload_n hx hb dX3_turned_9 rfl (lv_at hl 2 rfl) ?_
  obtain ⟨r_1, hc10, hm⟩ := bd1_go hm
  refine my_cSi (As := [.int a2]) (rest := [.int ((a0 <<< (a1 &&& 31)) ||| (a0 >>> ((a2 - a1) &&& 31)))]) (WC := []) (WC' := []) (WR := []) (W' := []) ⟨hx, hb, hml, hown, hts⟩ hK hP hD hS hA (c_Ring_allTones l dC dI cA a2 r_1 hc10) (va_cwS 1 hts gX3_turned_X3_allTones rfl rfl rfl (by decide +kernel) ⟨Nat.le_of_ble_eq_true rfl, Nat.le_of_ble_eq_true rfl⟩) [] [] [] rfl rfl rfl rfl rfl rfl hl.1 (Nat.le_of_ble_eq_true rfl) dX3_turned_10 ⟨Nat.zero_le _, Nat.zero_le _⟩ (fun H locs hP hD hS => ?_)
  refine lv_iand hx hb dX3_turned_13 ?_
  cases hm
  exact W_mono hQ (W.iret hx hb hr (fun t ht hW => ⟨⟨_, (), rfl, rfl, by rw [ht]; exact hP, va_K.moved hW.alike hK, hD⟩, hS.F ht⟩) hS.2.2 dX3_turned_14)
abbrev rmX7_hasRoom : Room := { frames := 0, cells := 0, slots := 0, locals := 0 }
theorem uX7_X7_hasRoom : ∀ w ∈ wsX70, w ∈ wsX7_hasRoom := fun _ h => List.mem_cons_of_mem _ (List.mem_append_right _ (h))
set_option maxHeartbeats 40000000 in
set_option maxRecDepth 100000 in
theorem c_Shelf_hasRoom (l : Launch) (dC : Nat → ClassId) (dI : Nat → Nat → Nat) (cA : ClassId) (h_t h_t_sets : Nat) (f_t_size : Int32) (f_t_places : Int32) (f_t_drawn : Int32) (r0 : Int32) (hm : m_Shelf_hasRoom f_t_places = some r0) (sz : Nat) : Met l yX7_hasRoom wsX7_hasRoom rmX7_hasRoom (mPre (dC, dI) cA [.ref h_t] sz [(h_t, .inr (6, [.int f_t_size, .int f_t_places, .int f_t_drawn, .ref h_t_sets]))]) (mPosI (dC, dI) cA r0 (va_A [(h_t, .inr (6, [.int f_t_size, .int f_t_places, .int f_t_drawn, .ref h_t_sets]))] sz) [(h_t, .inr (6, [.int f_t_size, .int f_t_places, .int f_t_drawn, .ref h_t_sets]))]) 0 0 (va_A [(h_t, .inr (6, [.int f_t_size, .int f_t_places, .int f_t_drawn, .ref h_t_sets]))] sz) := by
  refine Met.ofW (cc := cX7_hasRoom) (maxL := 1) (ret := (some .boolean)) (by decide) rfl ?_
  intro p e s m args below meth c s₁ B hml hv
  obtain ⟨rfl, hsz, hP, hK, hD0⟩ := hv
  refine W_gen (fun Q hQ => ?_)
  have hx := B.exec
  have hb := B.bytes
  have hr := B.returns
  have hts := atoms_spec (ws := wsX7_hasRoom) B.pre
  have hown : s.vm.findClass RX7 = some m.cls := findClass_of_methodNamed B.named
  have hlocks := B.notSynchronized
  subst hsz
  have hD := hD0.self (sz := s.heap.size)
  clear hD0
  generalize hAe : va_A [(h_t, .inr (6, [.int f_t_size, .int f_t_places, .int f_t_drawn, .ref h_t_sets]))] s.heap.size = A at hD hQ
  have hA : ∀ q : Nat, s.heap.size ≤ q → A q := fun q h => by rw [← hAe]; exact Or.inr h
  clear hAe
  have hS : va_S A s.heap s.heap [] := va_S.rf
  have hl := lv_entry ([.ref h_t]) (n := 1) (Nat.le_of_ble_eq_true rfl)
  rw [lg_entry_eq]
  generalize (lg_sl ([.ref h_t]) ++ List.replicate (1 - (lg_sl ([.ref h_t])).length) Slot.unset).toArray = ls at hl ⊢
  have hl : lv_has ls 1 [(0, .ref h_t)] := hl
  have k1 := hts (.fieldLink RX7 15 "ToneSets$Shelf" "places" "I") (List.mem_of_getElem? (i := 1) rfl)
  have uX7 := uX7_X7_hasRoom
  unfold m_Shelf_hasRoom at hm
  refine lv_aload_n hx hb dX7_hasRoom_0 rfl (lv_at hl 0 rfl) ?_
  refine va_get (D := (dC, dI)) (ci := 6) (v := .int f_t_places) (C := RX7) (T := TX7) (N := 4) hx hb hts uX7 hown hK hP 0 rfl rfl 1 (by decide) k1 (fun _ h9 => h9) rfl dX7_hasRoom_1 ?_
  refine lv_bipush (v := 8) hx hb dX7_hasRoom_4 (by decide) ?_
  refine lv_icmp_ge (tgt := 13) hx hb dX7_hasRoom_6 (by decide) (fun c6 => ?_) (fun c6 => ?_)
  · replace hm := if_t c6 hm
    refine lv_iconst (v := 0) hx hb dX7_hasRoom_13 (by decide) ?_
    cases hm
    exact W_mono hQ (W.zret hx hb hr rfl (fun t ht hW => ⟨⟨_, (), rfl, rfl, by rw [ht]; exact hP, va_K.moved hW.alike hK, hD⟩, hS.F ht⟩) hS.2.2 dX7_hasRoom_14)
  · replace hm := if_f c6 hm
    refine lv_iconst (v := 1) hx hb dX7_hasRoom_9 (by decide) ?_
    refine lv_goto (tgt := 14) hx hb dX7_hasRoom_10 (by decide) ?_
    cases hm
    exact W_mono hQ (W.zret hx hb hr rfl (fun t ht hW => ⟨⟨_, (), rfl, rfl, by rw [ht]; exact hP, va_K.moved hW.alike hK, hD⟩, hS.F ht⟩) hS.2.2 dX7_hasRoom_14)
abbrev rmX7_append : Room := { frames := 1, cells := 0, slots := 0, locals := 20 }
theorem uX7_X7_append : ∀ w ∈ wsX70, w ∈ wsX7_append := fun _ h => List.mem_cons_of_mem _ (List.mem_append_right _ (h))
set_option maxHeartbeats 40000000 in
set_option maxRecDepth 100000 in
theorem c_Shelf_append (l : Launch) (dC : Nat → ClassId) (dI : Nat → Nat → Nat) (cA : ClassId) (h_t h_t_sets : Nat) (f_t_size : Int32) (f_t_places : Int32) (f_t_drawn : Int32) (f_t_sets : Nat → Int32) (a1 : Int32) (f_t_places_z : Int32) (f_t_sets_z : Nat → Int32) (hm : m_Shelf_append f_t_places f_t_sets a1 = some (f_t_places_z, f_t_sets_z)) (sz : Nat) : Met l yX7_append wsX7_append rmX7_append (mPre (dC, dI) cA [.ref h_t, .int a1] sz [(h_t, .inr (6, [.int f_t_size, .int f_t_places, .int f_t_drawn, .ref h_t_sets])), (h_t_sets, .inl (cA, 8, .inl f_t_sets))]) (mPosV (dC, dI) cA (va_A [(h_t, .inr (6, [.int f_t_size, .int f_t_places, .int f_t_drawn, .ref h_t_sets])), (h_t_sets, .inl (cA, 8, .inl f_t_sets))] sz) [(h_t, .inr (6, [.int f_t_size, .int f_t_places_z, .int f_t_drawn, .ref h_t_sets])), (h_t_sets, .inl (cA, 8, .inl f_t_sets_z))]) 0 0 (va_A [(h_t, .inr (6, [.int f_t_size, .int f_t_places, .int f_t_drawn, .ref h_t_sets])), (h_t_sets, .inl (cA, 8, .inl f_t_sets))] sz) := by
  refine Met.ofW (cc := cX7_append) (maxL := 2) (ret := none) (by decide) rfl ?_
  intro p e s m args below meth c s₁ B hml hv
  obtain ⟨rfl, hsz, hP, hK, hD0⟩ := hv
  refine W_gen (fun Q hQ => ?_)
  have hx := B.exec
  have hb := B.bytes
  have hr := B.returns
  have hts := atoms_spec (ws := wsX7_append) B.pre
  have hown : s.vm.findClass RX7 = some m.cls := findClass_of_methodNamed B.named
  have hlocks := B.notSynchronized
  subst hsz
  have hD := hD0.self (sz := s.heap.size)
  clear hD0
  generalize hAe : va_A [(h_t, .inr (6, [.int f_t_size, .int f_t_places, .int f_t_drawn, .ref h_t_sets])), (h_t_sets, .inl (cA, 8, .inl f_t_sets))] s.heap.size = A at hD hQ
  have hA : ∀ q : Nat, s.heap.size ≤ q → A q := fun q h => by rw [← hAe]; exact Or.inr h
  clear hAe
  have hS : va_S A s.heap s.heap [] := va_S.rf
  have hl := lv_entry ([.ref h_t, .int a1]) (n := 2) (Nat.le_of_ble_eq_true rfl)
  rw [lg_entry_eq]
  generalize (lg_sl ([.ref h_t, .int a1]) ++ List.replicate (2 - (lg_sl ([.ref h_t, .int a1])).length) Slot.unset).toArray = ls at hl ⊢
  have hl : lv_has ls 2 [(0, .ref h_t), (1, .int a1)] := hl
  have k1 := hts (.fieldLink RX7 21 "ToneSets$Shelf" "sets" "[I") (List.mem_of_getElem? (i := 1) rfl)
  have k2 := hts (.fieldLink RX7 15 "ToneSets$Shelf" "places" "I") (List.mem_of_getElem? (i := 2) rfl)
  have uX7 := uX7_X7_append
  unfold m_Shelf_append at hm
  refine lv_aload_n hx hb dX7_append_0 rfl (lv_at hl 0 rfl) ?_
  obtain ⟨r_1, hc1, hm⟩ := bd1_go hm
  refine my_cVi (As := []) (rest := []) (WC := [(h_t, .inr (6, [.int f_t_size, .int f_t_places, .int f_t_drawn, .ref h_t_sets]))]) (WC' := [(h_t, .inr (6, [.int f_t_size, .int f_t_places, .int f_t_drawn, .ref h_t_sets]))]) (WR := [(h_t_sets, .inl (cA, 8, .inl f_t_sets))]) (W' := [(h_t, .inr (6, [.int f_t_size, .int f_t_places, .int f_t_drawn, .ref h_t_sets])), (h_t_sets, .inl (cA, 8, .inl f_t_sets))]) ⟨hx, hb, hml, hown, hts⟩ hK hP hD hS hA (c_Shelf_hasRoom l dC dI cA h_t h_t_sets f_t_size f_t_places f_t_drawn r_1 hc1) (cwV 0 hts gX7_append_X7_hasRoom rfl rfl rfl (by decide +kernel) ⟨Nat.le_of_ble_eq_true rfl, Nat.le_of_ble_eq_true rfl⟩) [0] [1] [1, 0] rfl rfl rfl rfl (ci := 6) (q0 := 0) rfl rfl rfl rfl hl.1 (Nat.le_of_ble_eq_true rfl) dX7_append_1 ⟨Nat.zero_le _, Nat.zero_le _⟩ (fun H locs hP hD hS => ?_)
  refine lv_if_eq (tgt := 27) hx hb dX7_append_4 (by decide) (fun c4 => ?_) (fun c4 => ?_)
  · replace hm := if_t c4 hm
    cases hm
    exact W_mono hQ (W.vret hx hb hr (fun t ht hW => ⟨⟨(), rfl, trivial, by rw [ht]; exact hP, va_K.moved hW.alike hK, hD⟩, hS.F ht⟩) hS.2.2 dX7_append_27)
  · replace hm := if_f c4 hm
    refine lv_aload_n hx hb dX7_append_7 rfl (lv_at hl 0 rfl) ?_
    refine va_get (D := (dC, dI)) (ci := 6) (v := .ref h_t_sets) (C := RX7) (T := TX7) (N := 4) hx hb hts uX7 hown hK hP 0 rfl rfl 3 (by decide) k1 (fun _ h9 => h9) rfl dX7_append_8 ?_
    refine lv_aload_n hx hb dX7_append_11 rfl (lv_at hl 0 rfl) ?_
    refine va_get (D := (dC, dI)) (ci := 6) (v := .int f_t_places) (C := RX7) (T := TX7) (N := 4) hx hb hts uX7 hown hK hP 0 rfl rfl 1 (by decide) k2 (fun _ h9 => h9) rfl dX7_append_12 ?_
    refine lv_iload_n hx hb dX7_append_15 rfl (lv_at hl 1 rfl) ?_
    obtain ⟨b16, hm⟩ := ck_go hm
    refine my_iast (W' := fun z' => [(h_t, .inr (6, [.int f_t_size, .int f_t_places, .int f_t_drawn, .ref h_t_sets])), (h_t_sets, .inl (cA, 8, .inl z'))]) hx hb hK hP hD hS 1 0 rfl rfl b16 dX7_append_16 (fun _ => rfl) (fun f_t_sets_1 ef_t_sets_1 H locs hP hD hS => ?_)
    replace hm := lt_go ef_t_sets_1 hm
    refine lv_aload_n hx hb dX7_append_17 rfl (lv_at hl 0 rfl) ?_
    refine lv_dup hx hb dX7_append_18 rfl ?_
    refine va_get (D := (dC, dI)) (ci := 6) (v := .int f_t_places) (C := RX7) (T := TX7) (N := 4) hx hb hts uX7 hown hK hP 0 rfl rfl 1 (by decide) k2 (fun _ h9 => h9) rfl dX7_append_19 ?_
    refine lv_iconst (v := 1) hx hb dX7_append_22 (by decide) ?_
    refine lv_iadd hx hb dX7_append_23 ?_
    refine lv_topi (fun f_t_places_1 ef_t_places_1 => ?_)
    replace hm := lt_go ef_t_places_1 hm
    refine my_put (W' := [(h_t, .inr (6, [.int f_t_size, .int f_t_places_1, .int f_t_drawn, .ref h_t_sets])), (h_t_sets, .inl (cA, 8, .inl f_t_sets_1))]) (ci := 6) (v := .int f_t_places_1) (ty := .int) (C := RX7) (T := TX7) (N := 4) hx hb hts uX7 tyX7 tyX7_ok nmX7 hown hK hP hD hS 0 rfl rfl 1 (by decide) k2 (fun _ h9 => h9) rfl (by decide +kernel) rfl rfl (Nat.le_of_ble_eq_true rfl) dX7_append_24 rfl (fun H locs hP hD hS => ?_)
    cases hm
    exact W_mono hQ (W.vret hx hb hr (fun t ht hW => ⟨⟨(), rfl, trivial, by rw [ht]; exact hP, va_K.moved hW.alike hK, hD⟩, hS.F ht⟩) hS.2.2 dX7_append_27)
abbrev rmX11_m : Room := { frames := 0, cells := 0, slots := 0, locals := 0 }
theorem uX11_X11_m : ∀ w ∈ wsX110, w ∈ wsX11_m := fun _ h => List.mem_cons_of_mem _ (List.mem_append_right _ (h))
set_option maxHeartbeats 40000000 in
set_option maxRecDepth 100000 in
theorem c_Md_m (l : Launch) (dC : Nat → ClassId) (dI : Nat → Nat → Nat) (cA : ClassId) (h_t h_t_w h_t_imageSeed h_t_bookOf h_t_bookIs h_t_forms h_t_best h_t_next h_t_ways h_t_round h_t_roughs : Nat) (f_t_known : Int32) (f_t_kept : Int32) (f_t_seed : Int32) (f_t_written : Int32) (f_t_formRing : Int32) (f_t_formMany : Int32) (f_t_latest : Int32) (f_t_w : Nat → Int32) (r0 : Int32) (hm : m_Md_m f_t_w = some r0) (sz : Nat) : Met l yX11_m wsX11_m rmX11_m (mPre (dC, dI) cA [.ref h_t] sz [(h_t, .inr (10, [.ref h_t_w, .int f_t_known, .int f_t_kept, .int f_t_seed, .ref h_t_imageSeed, .ref h_t_bookOf, .ref h_t_bookIs, .int f_t_written, .ref h_t_forms, .int f_t_formRing, .int f_t_formMany, .ref h_t_best, .ref h_t_next, .ref h_t_ways, .ref h_t_round, .ref h_t_roughs, .int f_t_latest])), (h_t_w, .inl (cA, 190, .inl f_t_w))]) (mPosI (dC, dI) cA r0 (va_A [(h_t, .inr (10, [.ref h_t_w, .int f_t_known, .int f_t_kept, .int f_t_seed, .ref h_t_imageSeed, .ref h_t_bookOf, .ref h_t_bookIs, .int f_t_written, .ref h_t_forms, .int f_t_formRing, .int f_t_formMany, .ref h_t_best, .ref h_t_next, .ref h_t_ways, .ref h_t_round, .ref h_t_roughs, .int f_t_latest])), (h_t_w, .inl (cA, 190, .inl f_t_w))] sz) [(h_t, .inr (10, [.ref h_t_w, .int f_t_known, .int f_t_kept, .int f_t_seed, .ref h_t_imageSeed, .ref h_t_bookOf, .ref h_t_bookIs, .int f_t_written, .ref h_t_forms, .int f_t_formRing, .int f_t_formMany, .ref h_t_best, .ref h_t_next, .ref h_t_ways, .ref h_t_round, .ref h_t_roughs, .int f_t_latest])), (h_t_w, .inl (cA, 190, .inl f_t_w))]) 0 0 (va_A [(h_t, .inr (10, [.ref h_t_w, .int f_t_known, .int f_t_kept, .int f_t_seed, .ref h_t_imageSeed, .ref h_t_bookOf, .ref h_t_bookIs, .int f_t_written, .ref h_t_forms, .int f_t_formRing, .int f_t_formMany, .ref h_t_best, .ref h_t_next, .ref h_t_ways, .ref h_t_round, .ref h_t_roughs, .int f_t_latest])), (h_t_w, .inl (cA, 190, .inl f_t_w))] sz) := by
  refine Met.ofW (cc := cX11_m) (maxL := 1) (ret := (some .int)) (by decide) rfl ?_
  intro p e s m args below meth c s₁ B hml hv
  obtain ⟨rfl, hsz, hP, hK, hD0⟩ := hv
  refine W_gen (fun Q hQ => ?_)
  have hx := B.exec
  have hb := B.bytes
  have hr := B.returns
  have hts := atoms_spec (ws := wsX11_m) B.pre
  have hown : s.vm.findClass RX11 = some m.cls := findClass_of_methodNamed B.named
  have hlocks := B.notSynchronized
  subst hsz
  have hD := hD0.self (sz := s.heap.size)
  clear hD0
  generalize hAe : va_A [(h_t, .inr (10, [.ref h_t_w, .int f_t_known, .int f_t_kept, .int f_t_seed, .ref h_t_imageSeed, .ref h_t_bookOf, .ref h_t_bookIs, .int f_t_written, .ref h_t_forms, .int f_t_formRing, .int f_t_formMany, .ref h_t_best, .ref h_t_next, .ref h_t_ways, .ref h_t_round, .ref h_t_roughs, .int f_t_latest])), (h_t_w, .inl (cA, 190, .inl f_t_w))] s.heap.size = A at hD hQ
  have hA : ∀ q : Nat, s.heap.size ≤ q → A q := fun q h => by rw [← hAe]; exact Or.inr h
  clear hAe
  have hS : va_S A s.heap s.heap [] := va_S.rf
  have hl := lv_entry ([.ref h_t]) (n := 1) (Nat.le_of_ble_eq_true rfl)
  rw [lg_entry_eq]
  generalize (lg_sl ([.ref h_t]) ++ List.replicate (1 - (lg_sl ([.ref h_t])).length) Slot.unset).toArray = ls at hl ⊢
  have hl : lv_has ls 1 [(0, .ref h_t)] := hl
  have k1 := hts (.fieldLink RX11 7 "ToneSetsModel" "w" "[I") (List.mem_of_getElem? (i := 1) rfl)
  have uX11 := uX11_X11_m
  unfold m_Md_m at hm
  refine lv_aload_n hx hb dX11_m_0 rfl (lv_at hl 0 rfl) ?_
  refine va_get (D := (dC, dI)) (ci := 10) (v := .ref h_t_w) (C := RX11) (T := TX11) (N := 17) hx hb hts uX11 hown hK hP 0 rfl rfl 0 (by decide) k1 (fun _ h9 => h9) rfl dX11_m_1 ?_
  refine lv_iconst (v := 0) hx hb dX11_m_4 (by decide) ?_
  obtain ⟨b5, hm⟩ := ck_go hm
  refine va_iald hx hb hK hP 1 0 rfl rfl b5 dX11_m_5 ?_
  cases hm
  exact W_mono hQ (W.iret hx hb hr (fun t ht hW => ⟨⟨_, (), rfl, rfl, by rw [ht]; exact hP, va_K.moved hW.alike hK, hD⟩, hS.F ht⟩) hS.2.2 dX11_m_6)
abbrev rmX11_in : Room := { frames := 0, cells := 0, slots := 0, locals := 0 }
set_option maxHeartbeats 40000000 in
set_option maxRecDepth 100000 in
theorem c_Md_in (l : Launch) (dC : Nat → ClassId) (dI : Nat → Nat → Nat) (cA : ClassId) (a0 : Int64) (a2 : Int64) (a4 : Int64) (r0 : Int32) (hm : m_Md_in a0 a2 a4 = some r0) (sz : Nat) : Met l yX11_in wsX11_in rmX11_in (mPre (dC, dI) cA [.long a0, .long a2, .long a4] sz []) (mPosI (dC, dI) cA r0 (va_A [] sz) []) 0 0 (va_A [] sz) := by
  refine Met.ofW (cc := cX11_in) (maxL := 6) (ret := (some .boolean)) (by decide) rfl ?_
  intro p e s m args below meth c s₁ B hml hv
  obtain ⟨rfl, hsz, hP, hK, hD0⟩ := hv
  refine W_gen (fun Q hQ => ?_)
  have hx := B.exec
  have hb := B.bytes
  have hr := B.returns
  have hts := atoms_spec (ws := wsX11_in) B.pre
  have hown : s.vm.findClass RX11 = some m.cls := findClass_of_methodNamed B.named
  have hlocks := B.notSynchronized
  subst hsz
  have hD := hD0.self (sz := s.heap.size)
  clear hD0
  generalize hAe : va_A [] s.heap.size = A at hD hQ
  have hA : ∀ q : Nat, s.heap.size ≤ q → A q := fun q h => by rw [← hAe]; exact Or.inr h
  clear hAe
  have hS : va_S A s.heap s.heap [] := va_S.rf
  have hl := lv_entry ([.long a0, .long a2, .long a4]) (n := 6) (Nat.le_of_ble_eq_true rfl)
  rw [lg_entry_eq]
  generalize (lg_sl ([.long a0, .long a2, .long a4]) ++ List.replicate (6 - (lg_sl ([.long a0, .long a2, .long a4])).length) Slot.unset).toArray = ls at hl ⊢
  have hl : lv_has ls 6 [(0, .long a0), (2, .long a2), (4, .long a4)] := hl
  unfold m_Md_in at hm
  refine lv_lload_n hx hb dX11_in_0 rfl (lv_at hl 0 rfl) ?_
  refine lv_lload_n hx hb dX11_in_1 rfl (lv_at hl 1 rfl) ?_
  refine W.lcmp hx hb dX11_in_2 ?_
  refine lv_if_lt (tgt := 17) hx hb dX11_in_3 (by decide) (fun c3 => ?_) (fun c3 => ?_)
  · replace hm := if_t c3 hm
    refine lv_iconst (v := 0) hx hb dX11_in_17 (by decide) ?_
    cases hm
    exact W_mono hQ (W.zret hx hb hr rfl (fun t ht hW => ⟨⟨_, (), rfl, rfl, by rw [ht]; exact hP, va_K.moved hW.alike hK, hD⟩, hS.F ht⟩) hS.2.2 dX11_in_18)
  · replace hm := if_f c3 hm
    refine lv_lload_n hx hb dX11_in_6 rfl (lv_at hl 0 rfl) ?_
    refine lv_lload hx hb dX11_in_7 (lv_at hl 2 rfl) ?_
    refine W.lcmp hx hb dX11_in_9 ?_
    refine lv_if_gt (tgt := 17) hx hb dX11_in_10 (by decide) (fun c10 => ?_) (fun c10 => ?_)
    · replace hm := if_t c10 hm
      refine lv_iconst (v := 0) hx hb dX11_in_17 (by decide) ?_
      cases hm
      exact W_mono hQ (W.zret hx hb hr rfl (fun t ht hW => ⟨⟨_, (), rfl, rfl, by rw [ht]; exact hP, va_K.moved hW.alike hK, hD⟩, hS.F ht⟩) hS.2.2 dX11_in_18)
    · replace hm := if_f c10 hm
      refine lv_iconst (v := 1) hx hb dX11_in_13 (by decide) ?_
      refine lv_goto (tgt := 18) hx hb dX11_in_14 (by decide) ?_
      cases hm
      exact W_mono hQ (W.zret hx hb hr rfl (fun t ht hW => ⟨⟨_, (), rfl, rfl, by rw [ht]; exact hP, va_K.moved hW.alike hK, hD⟩, hS.F ht⟩) hS.2.2 dX11_in_18)
abbrev rmX11_isPlace : Room := { frames := 1, cells := 0, slots := 0, locals := 25 }
theorem uX11_X11_isPlace : ∀ w ∈ wsX110, w ∈ wsX11_isPlace := fun _ h => List.mem_cons_of_mem _ (List.mem_append_right _ (h))
set_option maxHeartbeats 40000000 in
set_option maxRecDepth 100000 in
theorem c_Md_isPlace (l : Launch) (dC : Nat → ClassId) (dI : Nat → Nat → Nat) (cA : ClassId) (h_t h_t_w h_t_imageSeed h_t_bookOf h_t_bookIs h_t_forms h_t_best h_t_next h_t_ways h_t_round h_t_roughs : Nat) (f_t_known : Int32) (f_t_kept : Int32) (f_t_seed : Int32) (f_t_written : Int32) (f_t_formRing : Int32) (f_t_formMany : Int32) (f_t_latest : Int32) (f_t_w : Nat → Int32) (a1 : Int32) (r0 : Int32) (hm : m_Md_isPlace f_t_w a1 = some r0) (sz : Nat) : Met l yX11_isPlace wsX11_isPlace rmX11_isPlace (mPre (dC, dI) cA [.ref h_t, .int a1] sz [(h_t, .inr (10, [.ref h_t_w, .int f_t_known, .int f_t_kept, .int f_t_seed, .ref h_t_imageSeed, .ref h_t_bookOf, .ref h_t_bookIs, .int f_t_written, .ref h_t_forms, .int f_t_formRing, .int f_t_formMany, .ref h_t_best, .ref h_t_next, .ref h_t_ways, .ref h_t_round, .ref h_t_roughs, .int f_t_latest])), (h_t_w, .inl (cA, 190, .inl f_t_w))]) (mPosI (dC, dI) cA r0 (va_A [(h_t, .inr (10, [.ref h_t_w, .int f_t_known, .int f_t_kept, .int f_t_seed, .ref h_t_imageSeed, .ref h_t_bookOf, .ref h_t_bookIs, .int f_t_written, .ref h_t_forms, .int f_t_formRing, .int f_t_formMany, .ref h_t_best, .ref h_t_next, .ref h_t_ways, .ref h_t_round, .ref h_t_roughs, .int f_t_latest])), (h_t_w, .inl (cA, 190, .inl f_t_w))] sz) [(h_t, .inr (10, [.ref h_t_w, .int f_t_known, .int f_t_kept, .int f_t_seed, .ref h_t_imageSeed, .ref h_t_bookOf, .ref h_t_bookIs, .int f_t_written, .ref h_t_forms, .int f_t_formRing, .int f_t_formMany, .ref h_t_best, .ref h_t_next, .ref h_t_ways, .ref h_t_round, .ref h_t_roughs, .int f_t_latest])), (h_t_w, .inl (cA, 190, .inl f_t_w))]) 0 0 (va_A [(h_t, .inr (10, [.ref h_t_w, .int f_t_known, .int f_t_kept, .int f_t_seed, .ref h_t_imageSeed, .ref h_t_bookOf, .ref h_t_bookIs, .int f_t_written, .ref h_t_forms, .int f_t_formRing, .int f_t_formMany, .ref h_t_best, .ref h_t_next, .ref h_t_ways, .ref h_t_round, .ref h_t_roughs, .int f_t_latest])), (h_t_w, .inl (cA, 190, .inl f_t_w))] sz) := by
  refine Met.ofW (cc := cX11_isPlace) (maxL := 2) (ret := (some .boolean)) (by decide) rfl ?_
  intro p e s m args below meth c s₁ B hml hv
  obtain ⟨rfl, hsz, hP, hK, hD0⟩ := hv
  refine W_gen (fun Q hQ => ?_)
  have hx := B.exec
  have hb := B.bytes
  have hr := B.returns
  have hts := atoms_spec (ws := wsX11_isPlace) B.pre
  have hown : s.vm.findClass RX11 = some m.cls := findClass_of_methodNamed B.named
  have hlocks := B.notSynchronized
  subst hsz
  have hD := hD0.self (sz := s.heap.size)
  clear hD0
  generalize hAe : va_A [(h_t, .inr (10, [.ref h_t_w, .int f_t_known, .int f_t_kept, .int f_t_seed, .ref h_t_imageSeed, .ref h_t_bookOf, .ref h_t_bookIs, .int f_t_written, .ref h_t_forms, .int f_t_formRing, .int f_t_formMany, .ref h_t_best, .ref h_t_next, .ref h_t_ways, .ref h_t_round, .ref h_t_roughs, .int f_t_latest])), (h_t_w, .inl (cA, 190, .inl f_t_w))] s.heap.size = A at hD hQ
  have hA : ∀ q : Nat, s.heap.size ≤ q → A q := fun q h => by rw [← hAe]; exact Or.inr h
  clear hAe
  have hS : va_S A s.heap s.heap [] := va_S.rf
  have hl := lv_entry ([.ref h_t, .int a1]) (n := 2) (Nat.le_of_ble_eq_true rfl)
  rw [lg_entry_eq]
  generalize (lg_sl ([.ref h_t, .int a1]) ++ List.replicate (2 - (lg_sl ([.ref h_t, .int a1])).length) Slot.unset).toArray = ls at hl ⊢
  have hl : lv_has ls 2 [(0, .ref h_t), (1, .int a1)] := hl
  have k1 := hts (.fieldLink RX11 7 "ToneSetsModel" "w" "[I") (List.mem_of_getElem? (i := 1) rfl)
  have uX11 := uX11_X11_isPlace
  unfold m_Md_isPlace at hm
  refine lv_iload_n hx hb dX11_isPlace_0 rfl (lv_at hl 1 rfl) ?_
  refine lv_i2l (v := Int32.toInt64 a1) hx hb dX11_isPlace_1 rfl ?_
  refine lv_lconst (v := 0) hx hb dX11_isPlace_2 (by decide) ?_
  refine lv_aload_n hx hb dX11_isPlace_3 rfl (lv_at hl 0 rfl) ?_
  refine va_get (D := (dC, dI)) (ci := 10) (v := .ref h_t_w) (C := RX11) (T := TX11) (N := 17) hx hb hts uX11 hown hK hP 0 rfl rfl 0 (by decide) k1 (fun _ h9 => h9) rfl dX11_isPlace_4 ?_
  refine lv_iconst (v := 1) hx hb dX11_isPlace_7 (by decide) ?_
  obtain ⟨b8, hm⟩ := ck_go hm
  refine va_iald hx hb hK hP 1 0 rfl rfl b8 dX11_isPlace_8 ?_
  refine lv_iconst (v := 1) hx hb dX11_isPlace_9 (by decide) ?_
  refine lv_isub hx hb dX11_isPlace_10 ?_
  refine lv_i2l (v := Int32.toInt64 ((f_t_w 1.toNatClampNeg) - 1)) hx hb dX11_isPlace_11 rfl ?_
  obtain ⟨r_1, hc12, hm⟩ := bd1_go hm
  refine my_cSi (As := [.long (Int32.toInt64 a1), .long 0, .long (Int32.toInt64 ((f_t_w 1.toNatClampNeg) - 1))]) (rest := []) (WC := []) (WC' := []) (WR := [(h_t, .inr (10, [.ref h_t_w, .int f_t_known, .int f_t_kept, .int f_t_seed, .ref h_t_imageSeed, .ref h_t_bookOf, .ref h_t_bookIs, .int f_t_written, .ref h_t_forms, .int f_t_formRing, .int f_t_formMany, .ref h_t_best, .ref h_t_next, .ref h_t_ways, .ref h_t_round, .ref h_t_roughs, .int f_t_latest])), (h_t_w, .inl (cA, 190, .inl f_t_w))]) (W' := [(h_t, .inr (10, [.ref h_t_w, .int f_t_known, .int f_t_kept, .int f_t_seed, .ref h_t_imageSeed, .ref h_t_bookOf, .ref h_t_bookIs, .int f_t_written, .ref h_t_forms, .int f_t_formRing, .int f_t_formMany, .ref h_t_best, .ref h_t_next, .ref h_t_ways, .ref h_t_round, .ref h_t_roughs, .int f_t_latest])), (h_t_w, .inl (cA, 190, .inl f_t_w))]) ⟨hx, hb, hml, hown, hts⟩ hK hP hD hS hA (c_Md_in l dC dI cA (Int32.toInt64 a1) 0 (Int32.toInt64 ((f_t_w 1.toNatClampNeg) - 1)) r_1 hc12) (va_cwS 3 hts gX11_isPlace_X11_in rfl rfl rfl (by decide +kernel) ⟨Nat.le_of_ble_eq_true rfl, Nat.le_of_ble_eq_true rfl⟩) [] [0, 1] [0, 1] rfl rfl rfl rfl rfl rfl hl.1 (Nat.le_of_ble_eq_true rfl) dX11_isPlace_12 ⟨Nat.zero_le _, Nat.zero_le _⟩ (fun H locs hP hD hS => ?_)
  obtain ⟨hz, hm⟩ := bz_go hm
  have hz := nar_b hz
  cases hm
  exact W_mono hQ (W.zret hx hb hr hz (fun t ht hW => ⟨⟨_, (), rfl, rfl, by rw [ht]; exact hP, va_K.moved hW.alike hK, hD⟩, hS.F ht⟩) hS.2.2 dX11_isPlace_15)
