def G_Shelf_init (cA : ClassId) (h_t : Nat) : va_W → Prop := fun w => ∃ q1 : Nat, w = [(h_t, .inr (6, [.int 12, .int 0, .int 0, .ref q1])), (q1, .inl (cA, 8, .inl (fun _ => 0)))]
abbrev rmX7_init : Room := { frames := 1, cells := 1, slots := 8, locals := 20 }
theorem uX7_X7_init : ∀ w ∈ wsX70, w ∈ wsX7_init := fun _ h => List.mem_cons_of_mem _ (List.mem_append_right _ (h))
set_option maxHeartbeats 40000000 in
set_option maxRecDepth 100000 in
theorem c_Shelf_init (l : Launch) (dC : Nat → ClassId) (dI : Nat → Nat → Nat) (cA : ClassId) (h_t sz : Nat) : Met l yX7_init wsX7_init rmX7_init (nPre (dC, dI) cA [.ref h_t] sz [(h_t, .inr (6, [.int 0, .int 0, .int 0, .null]))] []) (nPos (dC, dI) cA (va_A [(h_t, .inr (6, [.int 0, .int 0, .int 0, .null]))] sz) (G_Shelf_init cA h_t)) 1 8 (va_A [(h_t, .inr (6, [.int 0, .int 0, .int 0, .null]))] sz) := by
  refine Met.ofW (cc := cX7_init) (maxL := 1) (ret := none) (by decide) rfl ?_
  intro p e s m args below meth c s₁ B hml hv
  obtain ⟨rfl, ⟨hsz, hP, hK, hD0⟩, hNS⟩ := hv
  refine W_gen (fun Q hQ => ?_)
  have hx := B.exec
  have hb := B.bytes
  have hr := B.returns
  have hts := atoms_spec (ws := wsX7_init) B.pre
  have hown : s.vm.findClass RX7 = some m.cls := findClass_of_methodNamed B.named
  have hlocks := B.notSynchronized
  have hin : meth.name = "<init>" := (name_of_methodNamed B.named B.method).1
  subst hsz
  have hD := hD0.self (sz := s.heap.size)
  clear hD0
  generalize hAe : va_A [(h_t, .inr (6, [.int 0, .int 0, .int 0, .null]))] s.heap.size = A at hD hQ
  have hA : ∀ q : Nat, s.heap.size ≤ q → A q := fun q h => by rw [← hAe]; exact Or.inr h
  clear hAe
  have hS : va_S A s.heap s.heap [] := va_S.rf
  have hl := lv_entry ([.ref h_t]) (n := 1) (Nat.le_of_ble_eq_true rfl)
  rw [lg_entry_eq]
  generalize (lg_sl ([.ref h_t]) ++ List.replicate (1 - (lg_sl ([.ref h_t])).length) Slot.unset).toArray = ls at hl ⊢
  have hl : lv_has ls 1 [(0, .ref h_t)] := hl
  have k1 := hts (.methodLink RX7 3 objectInit) (List.mem_of_getElem? (i := 1) rfl)
  have k2 := hts (.instanceMethod objectInit) (List.mem_of_getElem? (i := 2) rfl)
  have k3 := hts (.code objectInit ⟨#[0xb1]⟩ 1 none) (List.mem_of_getElem? (i := 3) rfl)
  have k4 := hts (.fieldLink RX7 9 "ToneSets$Shelf" "size" "I") (List.mem_of_getElem? (i := 4) rfl)
  have k5 := hts (.fieldLink RX7 15 "ToneSets$Shelf" "places" "I") (List.mem_of_getElem? (i := 5) rfl)
  have k6 := hts (.fieldLink RX7 18 "ToneSets$Shelf" "drawn" "I") (List.mem_of_getElem? (i := 6) rfl)
  have k7 := hts (.arrayClass .int) (List.mem_of_getElem? (i := 7) rfl)
  have k8 := hts (.fieldLink RX7 21 "ToneSets$Shelf" "sets" "[I") (List.mem_of_getElem? (i := 8) rfl)
  have uX7 := uX7_X7_init
  refine lv_aload_n hx hb dX7_init_0 rfl (lv_at hl 0 rfl) ?_
  refine W.objInit hx hb hown k1 k2 k3 rfl (by rw [hml]; exact hl.1) rfl dX7_init_1 (Nat.le_of_ble_eq_true rfl) (Nat.le_of_ble_eq_true rfl) ?_
  refine W.eq (g2 := F0 m 4 ls []) rfl ?_
  refine lv_aload_n hx hb dX7_init_4 rfl (lv_at hl 0 rfl) ?_
  refine lv_bipush (v := 12) hx hb dX7_init_5 (by decide) ?_
  refine my_put (W' := [(h_t, .inr (6, [.int 12, .int 0, .int 0, .null]))]) (ci := 6) (v := .int 12) (ty := .int) (C := RX7) (T := TX7) (N := 4) hx hb hts uX7 tyX7 tyX7_ok nmX7 hown hK hP hD hS 0 rfl rfl 0 (by decide) k4 (fun _ h9 => h9) rfl (by decide +kernel) rfl rfl (Nat.le_of_ble_eq_true rfl) dX7_init_7 rfl (fun H locs hP hD hS => ?_)
  refine lv_aload_n hx hb dX7_init_10 rfl (lv_at hl 0 rfl) ?_
  refine lv_iconst (v := 0) hx hb dX7_init_11 (by decide) ?_
  refine my_put (W' := [(h_t, .inr (6, [.int 12, .int 0, .int 0, .null]))]) (ci := 6) (v := .int 0) (ty := .int) (C := RX7) (T := TX7) (N := 4) hx hb hts uX7 tyX7 tyX7_ok nmX7 hown hK hP hD hS 0 rfl rfl 1 (by decide) k5 (fun _ h9 => h9) rfl (by decide +kernel) rfl rfl (Nat.le_of_ble_eq_true rfl) dX7_init_12 rfl (fun H locs hP hD hS => ?_)
  refine lv_aload_n hx hb dX7_init_15 rfl (lv_at hl 0 rfl) ?_
  refine lv_iconst (v := 0) hx hb dX7_init_16 (by decide) ?_
  refine my_put (W' := [(h_t, .inr (6, [.int 12, .int 0, .int 0, .null]))]) (ci := 6) (v := .int 0) (ty := .int) (C := RX7) (T := TX7) (N := 4) hx hb hts uX7 tyX7 tyX7_ok nmX7 hown hK hP hD hS 0 rfl rfl 2 (by decide) k6 (fun _ h9 => h9) rfl (by decide +kernel) rfl rfl (Nat.le_of_ble_eq_true rfl) dX7_init_17 rfl (fun H locs hP hD hS => ?_)
  refine lv_aload_n hx hb dX7_init_20 rfl (lv_at hl 0 rfl) ?_
  refine lv_bipush (v := 8) hx hb dX7_init_21 (by decide) ?_
  refine my_newa (N' := 8) hx hb k7 hK hP hD hS hA (by decide) rfl (Nat.le_of_ble_eq_true rfl) (Nat.le_of_ble_eq_true rfl) (Nat.le_of_ble_eq_true rfl) dX7_init_23 (fun q1 H hP hD hS => ?_)
  have hP : va_P (dC, dI) vwCl [(h_t, .inr (6, [.int 12, .int 0, .int 0, .null])), (q1, .inl (cA, 8, .inl (fun _ => 0)))] H := hP
  have hD : va_D A [(h_t, .inr (6, [.int 12, .int 0, .int 0, .null])), (q1, .inl (cA, 8, .inl (fun _ => 0)))] := hD
  refine W.widen (k := 1) (n := 8) (Nat.le_of_ble_eq_true rfl) (Nat.le_of_ble_eq_true rfl) ?_
  refine my_putF (W' := [(h_t, .inr (6, [.int 12, .int 0, .int 0, .ref q1])), (q1, .inl (cA, 8, .inl (fun _ => 0)))]) (ci := 6) (v := .ref q1) (ty := .array .int) (C := RX7) (T := TX7) (N := 4) hx hb hts uX7 tyX7 tyX7_ok nmX7 hown hK hP hD hS 0 rfl rfl 3 (by decide) k8 (fun _ h9 => h9) rfl hin rfl (by decide +kernel) rfl rfl (Nat.le_of_ble_eq_true rfl) dX7_init_25 rfl (fun H locs hP hD hS => ?_)
  exact W_mono hQ (W.vret hx hb hr (fun t ht hW => ⟨⟨(), rfl, trivial, _, ⟨_, rfl⟩, by rw [ht]; exact hP, va_K.moved hW.alike hK, hD⟩, hS.F ht⟩) hS.2.2 dX7_init_28)
def G_Rows_init16 (cA : ClassId) (h_t : Nat) : va_W → Prop := fun w => ∃ q1 : Nat, w = [(h_t, .inr (4, [.int 16, .ref q1])), (q1, .inl (cA, 176, .inl (fun _ => 0)))]
abbrev rmX5_init_16 : Room := { frames := 1, cells := 1, slots := 176, locals := 21 }
theorem uX5_X5_init_16 : ∀ w ∈ wsX50, w ∈ wsX5_init := fun _ h => List.mem_cons_of_mem _ (List.mem_append_right _ (h))
set_option maxHeartbeats 40000000 in
set_option maxRecDepth 100000 in
theorem c_Rows_init16 (l : Launch) (dC : Nat → ClassId) (dI : Nat → Nat → Nat) (cA : ClassId) (h_t sz : Nat) : Met l yX5_init wsX5_init rmX5_init_16 (nPre (dC, dI) cA [.ref h_t, .int 16] sz [(h_t, .inr (4, [.int 0, .null]))] []) (nPos (dC, dI) cA (va_A [(h_t, .inr (4, [.int 0, .null]))] sz) (G_Rows_init16 cA h_t)) 1 176 (va_A [(h_t, .inr (4, [.int 0, .null]))] sz) := by
  refine Met.ofW (cc := cX5_init) (maxL := 2) (ret := none) (by decide) rfl ?_
  intro p e s m args below meth c s₁ B hml hv
  obtain ⟨rfl, ⟨hsz, hP, hK, hD0⟩, hNS⟩ := hv
  refine W_gen (fun Q hQ => ?_)
  have hx := B.exec
  have hb := B.bytes
  have hr := B.returns
  have hts := atoms_spec (ws := wsX5_init) B.pre
  have hown : s.vm.findClass RX5 = some m.cls := findClass_of_methodNamed B.named
  have hlocks := B.notSynchronized
  have hin : meth.name = "<init>" := (name_of_methodNamed B.named B.method).1
  subst hsz
  have hD := hD0.self (sz := s.heap.size)
  clear hD0
  generalize hAe : va_A [(h_t, .inr (4, [.int 0, .null]))] s.heap.size = A at hD hQ
  have hA : ∀ q : Nat, s.heap.size ≤ q → A q := fun q h => by rw [← hAe]; exact Or.inr h
  clear hAe
  have hS : va_S A s.heap s.heap [] := va_S.rf
  have hl := lv_entry ([.ref h_t, .int 16]) (n := 2) (Nat.le_of_ble_eq_true rfl)
  rw [lg_entry_eq]
  generalize (lg_sl ([.ref h_t, .int 16]) ++ List.replicate (2 - (lg_sl ([.ref h_t, .int 16])).length) Slot.unset).toArray = ls at hl ⊢
  have hl : lv_has ls 2 [(0, .ref h_t), (1, .int 16)] := hl
  have k1 := hts (.methodLink RX5 5 objectInit) (List.mem_of_getElem? (i := 1) rfl)
  have k2 := hts (.instanceMethod objectInit) (List.mem_of_getElem? (i := 2) rfl)
  have k3 := hts (.code objectInit ⟨#[0xb1]⟩ 1 none) (List.mem_of_getElem? (i := 3) rfl)
  have k4 := hts (.methodLink RX5 11 Lib.Math.min.name) (List.mem_of_getElem? (i := 4) rfl)
  have k5 := hts (.static Lib.Math.min.name) (List.mem_of_getElem? (i := 5) rfl)
  have k6 := hts (.initialized "java/lang/Math") (List.mem_of_getElem? (i := 6) rfl)
  have k7 := hts (.code Lib.Math.min.name Lib.Math.min.code 2 (some .int)) (List.mem_of_getElem? (i := 7) rfl)
  have k8 := hts (.methodLink RX5 17 Lib.Math.max.name) (List.mem_of_getElem? (i := 8) rfl)
  have k9 := hts (.static Lib.Math.max.name) (List.mem_of_getElem? (i := 9) rfl)
  have k10 := hts (.code Lib.Math.max.name Lib.Math.max.code 2 (some .int)) (List.mem_of_getElem? (i := 10) rfl)
  have k11 := hts (.fieldLink RX5 20 "ToneSets$Rows" "count" "I") (List.mem_of_getElem? (i := 11) rfl)
  have k12 := hts (.arrayClass .int) (List.mem_of_getElem? (i := 12) rfl)
  have k13 := hts (.fieldLink RX5 24 "ToneSets$Rows" "cells" "[I") (List.mem_of_getElem? (i := 13) rfl)
  have uX5 := uX5_X5_init_16
  refine lv_aload_n hx hb dX5_init_0 rfl (lv_at hl 0 rfl) ?_
  refine W.objInit hx hb hown k1 k2 k3 rfl (by rw [hml]; exact hl.1) rfl dX5_init_1 (Nat.le_of_ble_eq_true rfl) (Nat.le_of_ble_eq_true rfl) ?_
  refine W.eq (g2 := F0 m 4 ls []) rfl ?_
  refine lv_aload_n hx hb dX5_init_4 rfl (lv_at hl 0 rfl) ?_
  refine lv_iconst (v := 0) hx hb dX5_init_5 (by decide) ?_
  refine lv_iload_n hx hb dX5_init_6 rfl (lv_at hl 1 rfl) ?_
  refine lv_bipush (v := 16) hx hb dX5_init_7 (by decide) ?_
  refine va_mmin hx hb (hml.trans hl.1.symm) hown k4 k5 k6 k7 (Nat.le_of_ble_eq_true rfl) (Nat.le_of_ble_eq_true rfl) (Nat.le_of_ble_eq_true rfl) (Nat.le_of_ble_eq_true rfl) dX5_init_9 ?_
  refine lv_topi (fun z ez => ?_)
  obtain rfl : z = 16 := ez.trans (by decide)
  refine va_mmax hx hb (hml.trans hl.1.symm) hown k8 k9 k6 k10 (Nat.le_of_ble_eq_true rfl) (Nat.le_of_ble_eq_true rfl) (Nat.le_of_ble_eq_true rfl) (Nat.le_of_ble_eq_true rfl) dX5_init_12 ?_
  refine lv_topi (fun z ez => ?_)
  obtain rfl : z = 16 := ez.trans (by decide)
  refine my_putF (W' := [(h_t, .inr (4, [.int 16, .null]))]) (ci := 4) (v := .int 16) (ty := .int) (C := RX5) (T := TX5) (N := 2) hx hb hts uX5 tyX5 tyX5_ok nmX5 hown hK hP hD hS 0 rfl rfl 0 (by decide) k11 (fun _ h9 => h9) rfl hin rfl (by decide +kernel) rfl rfl (Nat.le_of_ble_eq_true rfl) dX5_init_15 rfl (fun H locs hP hD hS => ?_)
  refine lv_aload_n hx hb dX5_init_18 rfl (lv_at hl 0 rfl) ?_
  refine lv_aload_n hx hb dX5_init_19 rfl (lv_at hl 0 rfl) ?_
  refine va_get (D := (dC, dI)) (ci := 4) (v := .int 16) (C := RX5) (T := TX5) (N := 2) hx hb hts uX5 hown hK hP 0 rfl rfl 0 (by decide) k11 (fun _ h9 => h9) rfl dX5_init_20 ?_
  refine lv_bipush (v := 11) hx hb dX5_init_23 (by decide) ?_
  refine lv_imul hx hb dX5_init_25 ?_
  refine lv_topi (fun z ez => ?_)
  obtain rfl : z = 176 := ez.trans (by decide)
  refine my_newa (N' := 176) hx hb k12 hK hP hD hS hA (by decide) rfl (Nat.le_of_ble_eq_true rfl) (Nat.le_of_ble_eq_true rfl) (Nat.le_of_ble_eq_true rfl) dX5_init_26 (fun q1 H hP hD hS => ?_)
  have hP : va_P (dC, dI) vwCl [(h_t, .inr (4, [.int 16, .null])), (q1, .inl (cA, 176, .inl (fun _ => 0)))] H := hP
  have hD : va_D A [(h_t, .inr (4, [.int 16, .null])), (q1, .inl (cA, 176, .inl (fun _ => 0)))] := hD
  refine W.widen (k := 1) (n := 176) (Nat.le_of_ble_eq_true rfl) (Nat.le_of_ble_eq_true rfl) ?_
  refine my_putF (W' := [(h_t, .inr (4, [.int 16, .ref q1])), (q1, .inl (cA, 176, .inl (fun _ => 0)))]) (ci := 4) (v := .ref q1) (ty := .array .int) (C := RX5) (T := TX5) (N := 2) hx hb hts uX5 tyX5 tyX5_ok nmX5 hown hK hP hD hS 0 rfl rfl 1 (by decide) k13 (fun _ h9 => h9) rfl hin rfl (by decide +kernel) rfl rfl (Nat.le_of_ble_eq_true rfl) dX5_init_28 rfl (fun H locs hP hD hS => ?_)
  exact W_mono hQ (W.vret hx hb hr (fun t ht hW => ⟨⟨(), rfl, trivial, _, ⟨_, rfl⟩, by rw [ht]; exact hP, va_K.moved hW.alike hK, hD⟩, hS.F ht⟩) hS.2.2 dX5_init_31)
def G_Rows_init2 (cA : ClassId) (h_t : Nat) : va_W → Prop := fun w => ∃ q1 : Nat, w = [(h_t, .inr (4, [.int 2, .ref q1])), (q1, .inl (cA, 22, .inl (fun _ => 0)))]
abbrev rmX5_init_2 : Room := { frames := 1, cells := 1, slots := 22, locals := 21 }
theorem uX5_X5_init_2 : ∀ w ∈ wsX50, w ∈ wsX5_init := fun _ h => List.mem_cons_of_mem _ (List.mem_append_right _ (h))
set_option maxHeartbeats 40000000 in
set_option maxRecDepth 100000 in
theorem c_Rows_init2 (l : Launch) (dC : Nat → ClassId) (dI : Nat → Nat → Nat) (cA : ClassId) (h_t sz : Nat) : Met l yX5_init wsX5_init rmX5_init_2 (nPre (dC, dI) cA [.ref h_t, .int 2] sz [(h_t, .inr (4, [.int 0, .null]))] []) (nPos (dC, dI) cA (va_A [(h_t, .inr (4, [.int 0, .null]))] sz) (G_Rows_init2 cA h_t)) 1 22 (va_A [(h_t, .inr (4, [.int 0, .null]))] sz) := by
  refine Met.ofW (cc := cX5_init) (maxL := 2) (ret := none) (by decide) rfl ?_
  intro p e s m args below meth c s₁ B hml hv
  obtain ⟨rfl, ⟨hsz, hP, hK, hD0⟩, hNS⟩ := hv
  refine W_gen (fun Q hQ => ?_)
  have hx := B.exec
  have hb := B.bytes
  have hr := B.returns
  have hts := atoms_spec (ws := wsX5_init) B.pre
  have hown : s.vm.findClass RX5 = some m.cls := findClass_of_methodNamed B.named
  have hlocks := B.notSynchronized
  have hin : meth.name = "<init>" := (name_of_methodNamed B.named B.method).1
  subst hsz
  have hD := hD0.self (sz := s.heap.size)
  clear hD0
  generalize hAe : va_A [(h_t, .inr (4, [.int 0, .null]))] s.heap.size = A at hD hQ
  have hA : ∀ q : Nat, s.heap.size ≤ q → A q := fun q h => by rw [← hAe]; exact Or.inr h
  clear hAe
  have hS : va_S A s.heap s.heap [] := va_S.rf
  have hl := lv_entry ([.ref h_t, .int 2]) (n := 2) (Nat.le_of_ble_eq_true rfl)
  rw [lg_entry_eq]
  generalize (lg_sl ([.ref h_t, .int 2]) ++ List.replicate (2 - (lg_sl ([.ref h_t, .int 2])).length) Slot.unset).toArray = ls at hl ⊢
  have hl : lv_has ls 2 [(0, .ref h_t), (1, .int 2)] := hl
  have k1 := hts (.methodLink RX5 5 objectInit) (List.mem_of_getElem? (i := 1) rfl)
  have k2 := hts (.instanceMethod objectInit) (List.mem_of_getElem? (i := 2) rfl)
  have k3 := hts (.code objectInit ⟨#[0xb1]⟩ 1 none) (List.mem_of_getElem? (i := 3) rfl)
  have k4 := hts (.methodLink RX5 11 Lib.Math.min.name) (List.mem_of_getElem? (i := 4) rfl)
  have k5 := hts (.static Lib.Math.min.name) (List.mem_of_getElem? (i := 5) rfl)
  have k6 := hts (.initialized "java/lang/Math") (List.mem_of_getElem? (i := 6) rfl)
  have k7 := hts (.code Lib.Math.min.name Lib.Math.min.code 2 (some .int)) (List.mem_of_getElem? (i := 7) rfl)
  have k8 := hts (.methodLink RX5 17 Lib.Math.max.name) (List.mem_of_getElem? (i := 8) rfl)
  have k9 := hts (.static Lib.Math.max.name) (List.mem_of_getElem? (i := 9) rfl)
  have k10 := hts (.code Lib.Math.max.name Lib.Math.max.code 2 (some .int)) (List.mem_of_getElem? (i := 10) rfl)
  have k11 := hts (.fieldLink RX5 20 "ToneSets$Rows" "count" "I") (List.mem_of_getElem? (i := 11) rfl)
  have k12 := hts (.arrayClass .int) (List.mem_of_getElem? (i := 12) rfl)
  have k13 := hts (.fieldLink RX5 24 "ToneSets$Rows" "cells" "[I") (List.mem_of_getElem? (i := 13) rfl)
  have uX5 := uX5_X5_init_2
  refine lv_aload_n hx hb dX5_init_0 rfl (lv_at hl 0 rfl) ?_
  refine W.objInit hx hb hown k1 k2 k3 rfl (by rw [hml]; exact hl.1) rfl dX5_init_1 (Nat.le_of_ble_eq_true rfl) (Nat.le_of_ble_eq_true rfl) ?_
  refine W.eq (g2 := F0 m 4 ls []) rfl ?_
  refine lv_aload_n hx hb dX5_init_4 rfl (lv_at hl 0 rfl) ?_
  refine lv_iconst (v := 0) hx hb dX5_init_5 (by decide) ?_
  refine lv_iload_n hx hb dX5_init_6 rfl (lv_at hl 1 rfl) ?_
  refine lv_bipush (v := 16) hx hb dX5_init_7 (by decide) ?_
  refine va_mmin hx hb (hml.trans hl.1.symm) hown k4 k5 k6 k7 (Nat.le_of_ble_eq_true rfl) (Nat.le_of_ble_eq_true rfl) (Nat.le_of_ble_eq_true rfl) (Nat.le_of_ble_eq_true rfl) dX5_init_9 ?_
  refine lv_topi (fun z ez => ?_)
  obtain rfl : z = 2 := ez.trans (by decide)
  refine va_mmax hx hb (hml.trans hl.1.symm) hown k8 k9 k6 k10 (Nat.le_of_ble_eq_true rfl) (Nat.le_of_ble_eq_true rfl) (Nat.le_of_ble_eq_true rfl) (Nat.le_of_ble_eq_true rfl) dX5_init_12 ?_
  refine lv_topi (fun z ez => ?_)
  obtain rfl : z = 2 := ez.trans (by decide)
  refine my_putF (W' := [(h_t, .inr (4, [.int 2, .null]))]) (ci := 4) (v := .int 2) (ty := .int) (C := RX5) (T := TX5) (N := 2) hx hb hts uX5 tyX5 tyX5_ok nmX5 hown hK hP hD hS 0 rfl rfl 0 (by decide) k11 (fun _ h9 => h9) rfl hin rfl (by decide +kernel) rfl rfl (Nat.le_of_ble_eq_true rfl) dX5_init_15 rfl (fun H locs hP hD hS => ?_)
  refine lv_aload_n hx hb dX5_init_18 rfl (lv_at hl 0 rfl) ?_
  refine lv_aload_n hx hb dX5_init_19 rfl (lv_at hl 0 rfl) ?_
  refine va_get (D := (dC, dI)) (ci := 4) (v := .int 2) (C := RX5) (T := TX5) (N := 2) hx hb hts uX5 hown hK hP 0 rfl rfl 0 (by decide) k11 (fun _ h9 => h9) rfl dX5_init_20 ?_
  refine lv_bipush (v := 11) hx hb dX5_init_23 (by decide) ?_
  refine lv_imul hx hb dX5_init_25 ?_
  refine lv_topi (fun z ez => ?_)
  obtain rfl : z = 22 := ez.trans (by decide)
  refine my_newa (N' := 22) hx hb k12 hK hP hD hS hA (by decide) rfl (Nat.le_of_ble_eq_true rfl) (Nat.le_of_ble_eq_true rfl) (Nat.le_of_ble_eq_true rfl) dX5_init_26 (fun q1 H hP hD hS => ?_)
  have hP : va_P (dC, dI) vwCl [(h_t, .inr (4, [.int 2, .null])), (q1, .inl (cA, 22, .inl (fun _ => 0)))] H := hP
  have hD : va_D A [(h_t, .inr (4, [.int 2, .null])), (q1, .inl (cA, 22, .inl (fun _ => 0)))] := hD
  refine W.widen (k := 1) (n := 22) (Nat.le_of_ble_eq_true rfl) (Nat.le_of_ble_eq_true rfl) ?_
  refine my_putF (W' := [(h_t, .inr (4, [.int 2, .ref q1])), (q1, .inl (cA, 22, .inl (fun _ => 0)))]) (ci := 4) (v := .ref q1) (ty := .array .int) (C := RX5) (T := TX5) (N := 2) hx hb hts uX5 tyX5 tyX5_ok nmX5 hown hK hP hD hS 0 rfl rfl 1 (by decide) k13 (fun _ h9 => h9) rfl hin rfl (by decide +kernel) rfl rfl (Nat.le_of_ble_eq_true rfl) dX5_init_28 rfl (fun H locs hP hD hS => ?_)
  exact W_mono hQ (W.vret hx hb hr (fun t ht hW => ⟨⟨(), rfl, trivial, _, ⟨_, rfl⟩, by rw [ht]; exact hP, va_K.moved hW.alike hK, hD⟩, hS.F ht⟩) hS.2.2 dX5_init_31)
def G_Past_init (cA : ClassId) (h_t : Nat) : va_W → Prop := fun w => ∃ q1 q2 : Nat, w = [(h_t, .inr (2, [.int 0, .int 0, .ref q1])), (q1, .inr (4, [.int 16, .ref q2])), (q2, .inl (cA, 176, .inl (fun _ => 0)))]
abbrev rmX2_init : Room := { frames := 2, cells := 2, slots := 178, locals := 42 }
theorem uX2_X2_init : ∀ w ∈ wsX20, w ∈ wsX2_init := fun _ h => List.mem_cons_of_mem _ (List.mem_append_left _ (List.mem_append_right _ (h)))
theorem uX5_X2_init : ∀ w ∈ wsX50, w ∈ wsX2_init := fun _ h => List.mem_cons_of_mem _ (List.mem_append_right _ (h))
set_option maxHeartbeats 40000000 in
set_option maxRecDepth 100000 in
theorem c_Past_init (l : Launch) (dC : Nat → ClassId) (dI : Nat → Nat → Nat) (cA : ClassId) (h_t sz : Nat) : Met l yX2_init wsX2_init rmX2_init (nPre (dC, dI) cA [.ref h_t] sz [(h_t, .inr (2, [.int 0, .int 0, .null]))] []) (nPos (dC, dI) cA (va_A [(h_t, .inr (2, [.int 0, .int 0, .null]))] sz) (G_Past_init cA h_t)) 2 178 (va_A [(h_t, .inr (2, [.int 0, .int 0, .null]))] sz) := by
  refine Met.ofW (cc := cX2_init) (maxL := 1) (ret := none) (by decide) rfl ?_
  intro p e s m args below meth c s₁ B hml hv
  obtain ⟨rfl, ⟨hsz, hP, hK, hD0⟩, hNS⟩ := hv
  refine W_gen (fun Q hQ => ?_)
  have hx := B.exec
  have hb := B.bytes
  have hr := B.returns
  have hts := atoms_spec (ws := wsX2_init) B.pre
  have hown : s.vm.findClass RX2 = some m.cls := findClass_of_methodNamed B.named
  have hlocks := B.notSynchronized
  have hin : meth.name = "<init>" := (name_of_methodNamed B.named B.method).1
  subst hsz
  have hD := hD0.self (sz := s.heap.size)
  clear hD0
  generalize hAe : va_A [(h_t, .inr (2, [.int 0, .int 0, .null]))] s.heap.size = A at hD hQ
  have hA : ∀ q : Nat, s.heap.size ≤ q → A q := fun q h => by rw [← hAe]; exact Or.inr h
  clear hAe
  have hS : va_S A s.heap s.heap [] := va_S.rf
  have hl := lv_entry ([.ref h_t]) (n := 1) (Nat.le_of_ble_eq_true rfl)
  rw [lg_entry_eq]
  generalize (lg_sl ([.ref h_t]) ++ List.replicate (1 - (lg_sl ([.ref h_t])).length) Slot.unset).toArray = ls at hl ⊢
  have hl : lv_has ls 1 [(0, .ref h_t)] := hl
  have k1 := hts (.methodLink RX2 3 objectInit) (List.mem_of_getElem? (i := 1) rfl)
  have k2 := hts (.instanceMethod objectInit) (List.mem_of_getElem? (i := 2) rfl)
  have k3 := hts (.code objectInit ⟨#[0xb1]⟩ 1 none) (List.mem_of_getElem? (i := 3) rfl)
  have k4 := hts (.fieldLink RX2 9 "ToneSets$Past" "deeds" "I") (List.mem_of_getElem? (i := 4) rfl)
  have k5 := hts (.fieldLink RX2 15 "ToneSets$Past" "nextRow" "I") (List.mem_of_getElem? (i := 5) rfl)
  have k6 := hts (.classLink RX2 18 RX5) (List.mem_of_getElem? (i := 6) rfl)
  have k7 := hts (.instantiable RX5 2) (List.mem_of_getElem? (i := 7) rfl)
  have k8 := hts (.initialized RX5) (List.mem_of_getElem? (i := 8) rfl)
  have k11 := hts (.instanceMethod yX5_init) (List.mem_of_getElem? (i := 11) rfl)
  have k10 := hts (.methodLink RX2 20 yX5_init) (List.mem_of_getElem? (i := 10) rfl)
  have k9 := hts (.fieldLink RX2 23 "ToneSets$Past" "rows" "LToneSets$Rows;") (List.mem_of_getElem? (i := 9) rfl)
  have uX2 := uX2_X2_init
  have uX5 := uX5_X2_init
  refine lv_aload_n hx hb dX2_init_0 rfl (lv_at hl 0 rfl) ?_
  refine W.objInit hx hb hown k1 k2 k3 rfl (by rw [hml]; exact hl.1) rfl dX2_init_1 (Nat.le_of_ble_eq_true rfl) (Nat.le_of_ble_eq_true rfl) ?_
  refine W.eq (g2 := F0 m 4 ls []) rfl ?_
  refine lv_aload_n hx hb dX2_init_4 rfl (lv_at hl 0 rfl) ?_
  refine lv_iconst (v := 0) hx hb dX2_init_5 (by decide) ?_
  refine my_put (W' := [(h_t, .inr (2, [.int 0, .int 0, .null]))]) (ci := 2) (v := .int 0) (ty := .int) (C := RX2) (T := TX2) (N := 3) hx hb hts uX2 tyX2 tyX2_ok nmX2 hown hK hP hD hS 0 rfl rfl 0 (by decide) k4 (fun _ h9 => h9) rfl (by decide +kernel) rfl rfl (Nat.le_of_ble_eq_true rfl) dX2_init_6 rfl (fun H locs hP hD hS => ?_)
  refine lv_aload_n hx hb dX2_init_9 rfl (lv_at hl 0 rfl) ?_
  refine lv_iconst (v := 0) hx hb dX2_init_10 (by decide) ?_
  refine my_put (W' := [(h_t, .inr (2, [.int 0, .int 0, .null]))]) (ci := 2) (v := .int 0) (ty := .int) (C := RX2) (T := TX2) (N := 3) hx hb hts uX2 tyX2 tyX2_ok nmX2 hown hK hP hD hS 0 rfl rfl 1 (by decide) k5 (fun _ h9 => h9) rfl (by decide +kernel) rfl rfl (Nat.le_of_ble_eq_true rfl) dX2_init_11 rfl (fun H locs hP hD hS => ?_)
  refine lv_aload_n hx hb dX2_init_14 rfl (lv_at hl 0 rfl) ?_
  refine va_new (ci := 4) (fs := [.int 0, .null]) (C := RX5) (T := TX5) (N := 2) hx hb hts uX5 tyX5 tyX5_ok hown k6 k7 k8 hK hP hD hS hA rfl (fun j hj => by rcases (show j = 0 ∨ j = 1 by omega) with rfl | rfl <;> rfl) (Nat.le_of_ble_eq_true rfl) (Nat.le_of_ble_eq_true rfl) dX2_init_15 (fun q1 H hP hD hS => ?_)
  have hP : va_P (dC, dI) vwCl [(h_t, .inr (2, [.int 0, .int 0, .null])), (q1, .inr (4, [.int 0, .null]))] H := hP
  have hD : va_D A [(h_t, .inr (2, [.int 0, .int 0, .null])), (q1, .inr (4, [.int 0, .null]))] := hD
  refine W.widen (k := 1) (n := 2) (Nat.le_of_ble_eq_true rfl) (Nat.le_of_ble_eq_true rfl) ?_
  refine lv_dup hx hb dX2_init_18 rfl ?_
  refine lv_bipush (v := 16) hx hb dX2_init_19 (by decide) ?_
  refine my_cI (As := [.int 16]) (rest := [.ref q1, .ref h_t]) (WC := [(q1, .inr (4, [.int 0, .null]))]) (WR := [(h_t, .inr (2, [.int 0, .int 0, .null]))]) (NS := []) ⟨hx, hb, hml, hown, hts⟩ hK hP hD hS hA (fun sz => c_Rows_init16 l dC dI cA q1 sz) (cwI 1 hts gX2_init_X5_init rfl rfl rfl k8 k10 k11 rfl (by decide +kernel) ⟨Nat.le_of_ble_eq_true rfl, Nat.le_of_ble_eq_true rfl⟩) (fun q hq => absurd hq List.not_mem_nil) [1] [0] rfl rfl rfl rfl rfl hl.1 (Nat.le_of_ble_eq_true rfl) dX2_init_21 ⟨Nat.le_of_ble_eq_true rfl, Nat.le_of_ble_eq_true rfl⟩ (fun w1 hG H locs hP hD hS => ?_)
  obtain ⟨q2, rfl⟩ := hG
  have hP : va_P (dC, dI) vwCl [(h_t, .inr (2, [.int 0, .int 0, .null])), (q1, .inr (4, [.int 16, .ref q2])), (q2, .inl (cA, 176, .inl (fun _ => 0)))] H := hP
  have hD : va_D A [(h_t, .inr (2, [.int 0, .int 0, .null])), (q1, .inr (4, [.int 16, .ref q2])), (q2, .inl (cA, 176, .inl (fun _ => 0)))] := hD
  refine W.widen (k := 2) (n := 178) (Nat.le_of_ble_eq_true rfl) (Nat.le_of_ble_eq_true rfl) ?_
  refine my_putF (W' := [(h_t, .inr (2, [.int 0, .int 0, .ref q1])), (q1, .inr (4, [.int 16, .ref q2])), (q2, .inl (cA, 176, .inl (fun _ => 0)))]) (ci := 2) (v := .ref q1) (ty := .object "ToneSets$Rows") (C := RX2) (T := TX2) (N := 3) hx hb hts uX2 tyX2 tyX2_ok nmX2 hown hK hP hD hS 0 rfl rfl 2 (by decide) k9 (fun _ h9 => h9) rfl hin rfl (by decide +kernel) rfl rfl (Nat.le_of_ble_eq_true rfl) dX2_init_24 rfl (fun H locs hP hD hS => ?_)
  exact W_mono hQ (W.vret hx hb hr (fun t ht hW => ⟨⟨(), rfl, trivial, _, ⟨_, _, rfl⟩, by rw [ht]; exact hP, va_K.moved hW.alike hK, hD⟩, hS.F ht⟩) hS.2.2 dX2_init_27)
def G_Book_init (cA : ClassId) (h_t : Nat) : va_W → Prop := fun w => ∃ q1 q2 : Nat, w = [(h_t, .inr (0, [.int 0, .ref q1, .ref q2])), (q1, .inl (cA, 20, .inl (fun _ => 0))), (q2, .inl (cA, 20, .inl (fun _ => 0)))]
abbrev rmX0_init : Room := { frames := 1, cells := 2, slots := 40, locals := 20 }
theorem uX0_X0_init : ∀ w ∈ wsX00, w ∈ wsX0_init := fun _ h => List.mem_cons_of_mem _ (List.mem_append_right _ (h))
set_option maxHeartbeats 40000000 in
set_option maxRecDepth 100000 in
theorem c_Book_init (l : Launch) (dC : Nat → ClassId) (dI : Nat → Nat → Nat) (cA : ClassId) (h_t sz : Nat) : Met l yX0_init wsX0_init rmX0_init (nPre (dC, dI) cA [.ref h_t] sz [(h_t, .inr (0, [.int 0, .null, .null]))] []) (nPos (dC, dI) cA (va_A [(h_t, .inr (0, [.int 0, .null, .null]))] sz) (G_Book_init cA h_t)) 2 40 (va_A [(h_t, .inr (0, [.int 0, .null, .null]))] sz) := by
  refine Met.ofW (cc := cX0_init) (maxL := 1) (ret := none) (by decide) rfl ?_
  intro p e s m args below meth c s₁ B hml hv
  obtain ⟨rfl, ⟨hsz, hP, hK, hD0⟩, hNS⟩ := hv
  refine W_gen (fun Q hQ => ?_)
  have hx := B.exec
  have hb := B.bytes
  have hr := B.returns
  have hts := atoms_spec (ws := wsX0_init) B.pre
  have hown : s.vm.findClass RX0 = some m.cls := findClass_of_methodNamed B.named
  have hlocks := B.notSynchronized
  have hin : meth.name = "<init>" := (name_of_methodNamed B.named B.method).1
  subst hsz
  have hD := hD0.self (sz := s.heap.size)
  clear hD0
  generalize hAe : va_A [(h_t, .inr (0, [.int 0, .null, .null]))] s.heap.size = A at hD hQ
  have hA : ∀ q : Nat, s.heap.size ≤ q → A q := fun q h => by rw [← hAe]; exact Or.inr h
  clear hAe
  have hS : va_S A s.heap s.heap [] := va_S.rf
  have hl := lv_entry ([.ref h_t]) (n := 1) (Nat.le_of_ble_eq_true rfl)
  rw [lg_entry_eq]
  generalize (lg_sl ([.ref h_t]) ++ List.replicate (1 - (lg_sl ([.ref h_t])).length) Slot.unset).toArray = ls at hl ⊢
  have hl : lv_has ls 1 [(0, .ref h_t)] := hl
  have k1 := hts (.methodLink RX0 3 objectInit) (List.mem_of_getElem? (i := 1) rfl)
  have k2 := hts (.instanceMethod objectInit) (List.mem_of_getElem? (i := 2) rfl)
  have k3 := hts (.code objectInit ⟨#[0xb1]⟩ 1 none) (List.mem_of_getElem? (i := 3) rfl)
  have k4 := hts (.fieldLink RX0 9 "ToneSets$Book" "entries" "I") (List.mem_of_getElem? (i := 4) rfl)
  have k5 := hts (.arrayClass .int) (List.mem_of_getElem? (i := 5) rfl)
  have k6 := hts (.fieldLink RX0 15 "ToneSets$Book" "goals" "[I") (List.mem_of_getElem? (i := 6) rfl)
  have k7 := hts (.fieldLink RX0 19 "ToneSets$Book" "lengths" "[I") (List.mem_of_getElem? (i := 7) rfl)
  have uX0 := uX0_X0_init
  refine lv_aload_n hx hb dX0_init_0 rfl (lv_at hl 0 rfl) ?_
  refine W.objInit hx hb hown k1 k2 k3 rfl (by rw [hml]; exact hl.1) rfl dX0_init_1 (Nat.le_of_ble_eq_true rfl) (Nat.le_of_ble_eq_true rfl) ?_
  refine W.eq (g2 := F0 m 4 ls []) rfl ?_
  refine lv_aload_n hx hb dX0_init_4 rfl (lv_at hl 0 rfl) ?_
  refine lv_iconst (v := 0) hx hb dX0_init_5 (by decide) ?_
  refine my_put (W' := [(h_t, .inr (0, [.int 0, .null, .null]))]) (ci := 0) (v := .int 0) (ty := .int) (C := RX0) (T := TX0) (N := 3) hx hb hts uX0 tyX0 tyX0_ok nmX0 hown hK hP hD hS 0 rfl rfl 0 (by decide) k4 (fun _ h9 => h9) rfl (by decide +kernel) rfl rfl (Nat.le_of_ble_eq_true rfl) dX0_init_6 rfl (fun H locs hP hD hS => ?_)
  refine lv_aload_n hx hb dX0_init_9 rfl (lv_at hl 0 rfl) ?_
  refine lv_bipush (v := 20) hx hb dX0_init_10 (by decide) ?_
  refine my_newa (N' := 20) hx hb k5 hK hP hD hS hA (by decide) rfl (Nat.le_of_ble_eq_true rfl) (Nat.le_of_ble_eq_true rfl) (Nat.le_of_ble_eq_true rfl) dX0_init_12 (fun q1 H hP hD hS => ?_)
  have hP : va_P (dC, dI) vwCl [(h_t, .inr (0, [.int 0, .null, .null])), (q1, .inl (cA, 20, .inl (fun _ => 0)))] H := hP
  have hD : va_D A [(h_t, .inr (0, [.int 0, .null, .null])), (q1, .inl (cA, 20, .inl (fun _ => 0)))] := hD
  refine W.widen (k := 1) (n := 20) (Nat.le_of_ble_eq_true rfl) (Nat.le_of_ble_eq_true rfl) ?_
  refine my_putF (W' := [(h_t, .inr (0, [.int 0, .ref q1, .null])), (q1, .inl (cA, 20, .inl (fun _ => 0)))]) (ci := 0) (v := .ref q1) (ty := .array .int) (C := RX0) (T := TX0) (N := 3) hx hb hts uX0 tyX0 tyX0_ok nmX0 hown hK hP hD hS 0 rfl rfl 1 (by decide) k6 (fun _ h9 => h9) rfl hin rfl (by decide +kernel) rfl rfl (Nat.le_of_ble_eq_true rfl) dX0_init_14 rfl (fun H locs hP hD hS => ?_)
  refine lv_aload_n hx hb dX0_init_17 rfl (lv_at hl 0 rfl) ?_
  refine lv_bipush (v := 20) hx hb dX0_init_18 (by decide) ?_
  refine my_newa (N' := 20) hx hb k5 hK hP hD hS hA (by decide) rfl (Nat.le_of_ble_eq_true rfl) (Nat.le_of_ble_eq_true rfl) (Nat.le_of_ble_eq_true rfl) dX0_init_20 (fun q2 H hP hD hS => ?_)
  have hP : va_P (dC, dI) vwCl [(h_t, .inr (0, [.int 0, .ref q1, .null])), (q1, .inl (cA, 20, .inl (fun _ => 0))), (q2, .inl (cA, 20, .inl (fun _ => 0)))] H := hP
  have hD : va_D A [(h_t, .inr (0, [.int 0, .ref q1, .null])), (q1, .inl (cA, 20, .inl (fun _ => 0))), (q2, .inl (cA, 20, .inl (fun _ => 0)))] := hD
  refine W.widen (k := 2) (n := 40) (Nat.le_of_ble_eq_true rfl) (Nat.le_of_ble_eq_true rfl) ?_
  refine my_putF (W' := [(h_t, .inr (0, [.int 0, .ref q1, .ref q2])), (q1, .inl (cA, 20, .inl (fun _ => 0))), (q2, .inl (cA, 20, .inl (fun _ => 0)))]) (ci := 0) (v := .ref q2) (ty := .array .int) (C := RX0) (T := TX0) (N := 3) hx hb hts uX0 tyX0 tyX0_ok nmX0 hown hK hP hD hS 0 rfl rfl 2 (by decide) k7 (fun _ h9 => h9) rfl hin rfl (by decide +kernel) rfl rfl (Nat.le_of_ble_eq_true rfl) dX0_init_22 rfl (fun H locs hP hD hS => ?_)
  exact W_mono hQ (W.vret hx hb hr (fun t ht hW => ⟨⟨(), rfl, trivial, _, ⟨_, _, rfl⟩, by rw [ht]; exact hP, va_K.moved hW.alike hK, hD⟩, hS.F ht⟩) hS.2.2 dX0_init_25)
def G_Seen_init (cA : ClassId) (h_t : Nat) : va_W → Prop := fun w => ∃ q1 : Nat, w = [(h_t, .inr (5, [.ref q1])), (q1, .inl (cA, 128, .inl (fun _ => 0)))]
abbrev rmX6_init : Room := { frames := 1, cells := 1, slots := 128, locals := 20 }
theorem uX6_X6_init : ∀ w ∈ wsX60, w ∈ wsX6_init := fun _ h => List.mem_cons_of_mem _ (List.mem_append_right _ (h))
set_option maxHeartbeats 40000000 in
set_option maxRecDepth 100000 in
theorem c_Seen_init (l : Launch) (dC : Nat → ClassId) (dI : Nat → Nat → Nat) (cA : ClassId) (h_t sz : Nat) : Met l yX6_init wsX6_init rmX6_init (nPre (dC, dI) cA [.ref h_t] sz [(h_t, .inr (5, [.null]))] []) (nPos (dC, dI) cA (va_A [(h_t, .inr (5, [.null]))] sz) (G_Seen_init cA h_t)) 1 128 (va_A [(h_t, .inr (5, [.null]))] sz) := by
  refine Met.ofW (cc := cX6_init) (maxL := 1) (ret := none) (by decide) rfl ?_
  intro p e s m args below meth c s₁ B hml hv
  obtain ⟨rfl, ⟨hsz, hP, hK, hD0⟩, hNS⟩ := hv
  refine W_gen (fun Q hQ => ?_)
  have hx := B.exec
  have hb := B.bytes
  have hr := B.returns
  have hts := atoms_spec (ws := wsX6_init) B.pre
  have hown : s.vm.findClass RX6 = some m.cls := findClass_of_methodNamed B.named
  have hlocks := B.notSynchronized
  have hin : meth.name = "<init>" := (name_of_methodNamed B.named B.method).1
  subst hsz
  have hD := hD0.self (sz := s.heap.size)
  clear hD0
  generalize hAe : va_A [(h_t, .inr (5, [.null]))] s.heap.size = A at hD hQ
  have hA : ∀ q : Nat, s.heap.size ≤ q → A q := fun q h => by rw [← hAe]; exact Or.inr h
  clear hAe
  have hS : va_S A s.heap s.heap [] := va_S.rf
  have hl := lv_entry ([.ref h_t]) (n := 1) (Nat.le_of_ble_eq_true rfl)
  rw [lg_entry_eq]
  generalize (lg_sl ([.ref h_t]) ++ List.replicate (1 - (lg_sl ([.ref h_t])).length) Slot.unset).toArray = ls at hl ⊢
  have hl : lv_has ls 1 [(0, .ref h_t)] := hl
  have k1 := hts (.methodLink RX6 3 objectInit) (List.mem_of_getElem? (i := 1) rfl)
  have k2 := hts (.instanceMethod objectInit) (List.mem_of_getElem? (i := 2) rfl)
  have k3 := hts (.code objectInit ⟨#[0xb1]⟩ 1 none) (List.mem_of_getElem? (i := 3) rfl)
  have k4 := hts (.arrayClass .int) (List.mem_of_getElem? (i := 4) rfl)
  have k5 := hts (.fieldLink RX6 9 "ToneSets$Seen" "bits" "[I") (List.mem_of_getElem? (i := 5) rfl)
  have uX6 := uX6_X6_init
  refine lv_aload_n hx hb dX6_init_0 rfl (lv_at hl 0 rfl) ?_
  refine W.objInit hx hb hown k1 k2 k3 rfl (by rw [hml]; exact hl.1) rfl dX6_init_1 (Nat.le_of_ble_eq_true rfl) (Nat.le_of_ble_eq_true rfl) ?_
  refine W.eq (g2 := F0 m 4 ls []) rfl ?_
  refine lv_aload_n hx hb dX6_init_4 rfl (lv_at hl 0 rfl) ?_
  refine lv_sipush (v := 128) hx hb dX6_init_5 (by decide) ?_
  refine my_newa (N' := 128) hx hb k4 hK hP hD hS hA (by decide) rfl (Nat.le_of_ble_eq_true rfl) (Nat.le_of_ble_eq_true rfl) (Nat.le_of_ble_eq_true rfl) dX6_init_8 (fun q1 H hP hD hS => ?_)
  have hP : va_P (dC, dI) vwCl [(h_t, .inr (5, [.null])), (q1, .inl (cA, 128, .inl (fun _ => 0)))] H := hP
  have hD : va_D A [(h_t, .inr (5, [.null])), (q1, .inl (cA, 128, .inl (fun _ => 0)))] := hD
  refine W.widen (k := 1) (n := 128) (Nat.le_of_ble_eq_true rfl) (Nat.le_of_ble_eq_true rfl) ?_
  refine my_putF (W' := [(h_t, .inr (5, [.ref q1])), (q1, .inl (cA, 128, .inl (fun _ => 0)))]) (ci := 5) (v := .ref q1) (ty := .array .int) (C := RX6) (T := TX6) (N := 1) hx hb hts uX6 tyX6 tyX6_ok nmX6 hown hK hP hD hS 0 rfl rfl 0 (by decide) k5 (fun _ h9 => h9) rfl hin rfl (by decide +kernel) rfl rfl (Nat.le_of_ble_eq_true rfl) dX6_init_10 rfl (fun H locs hP hD hS => ?_)
  exact W_mono hQ (W.vret hx hb hr (fun t ht hW => ⟨⟨(), rfl, trivial, _, ⟨_, rfl⟩, by rw [ht]; exact hP, va_K.moved hW.alike hK, hD⟩, hS.F ht⟩) hS.2.2 dX6_init_13)
def G_Forms_init (cA : ClassId) (h_t : Nat) : va_W → Prop := fun w => ∃ q1 q2 q3 q4 q5 q6 : Nat, w = [(h_t, .inr (1, [.int 0, .int 0, .ref q1, .ref q2, .ref q3, .ref q4, .ref q5])), (q1, .inl (cA, 224, .inl (fun _ => 0))), (q2, .inl (cA, 224, .inl (fun _ => 0))), (q3, .inl (cA, 224, .inl (fun _ => 0))), (q4, .inl (cA, 14, .inl (fun _ => 0))), (q5, .inr (5, [.ref q6])), (q6, .inl (cA, 128, .inl (fun _ => 0)))]
abbrev rmX1_init : Room := { frames := 2, cells := 6, slots := 815, locals := 40 }
theorem uX1_X1_init : ∀ w ∈ wsX10, w ∈ wsX1_init := fun _ h => List.mem_cons_of_mem _ (List.mem_append_left _ (List.mem_append_right _ (h)))
theorem uX6_X1_init : ∀ w ∈ wsX60, w ∈ wsX1_init := fun _ h => List.mem_cons_of_mem _ (List.mem_append_right _ (h))
set_option maxHeartbeats 40000000 in
set_option maxRecDepth 100000 in
theorem c_Forms_init (l : Launch) (dC : Nat → ClassId) (dI : Nat → Nat → Nat) (cA : ClassId) (h_t sz : Nat) : Met l yX1_init wsX1_init rmX1_init (nPre (dC, dI) cA [.ref h_t] sz [(h_t, .inr (1, [.int 0, .int 0, .null, .null, .null, .null, .null]))] [("ToneSets$Forms", 33, yX6_init, "ToneSets")]) (nPos (dC, dI) cA (va_A [(h_t, .inr (1, [.int 0, .int 0, .null, .null, .null, .null, .null]))] sz) (G_Forms_init cA h_t)) 6 815 (va_A [(h_t, .inr (1, [.int 0, .int 0, .null, .null, .null, .null, .null]))] sz) := by
  refine Met.ofW (cc := cX1_init) (maxL := 1) (ret := none) (by decide) rfl ?_
  intro p e s m args below meth c s₁ B hml hv
  obtain ⟨rfl, ⟨hsz, hP, hK, hD0⟩, hNS⟩ := hv
  refine W_gen (fun Q hQ => ?_)
  have hx := B.exec
  have hb := B.bytes
  have hr := B.returns
  have hts := atoms_spec (ws := wsX1_init) B.pre
  have hown : s.vm.findClass RX1 = some m.cls := findClass_of_methodNamed B.named
  have hlocks := B.notSynchronized
  have hin : meth.name = "<init>" := (name_of_methodNamed B.named B.method).1
  subst hsz
  have hD := hD0.self (sz := s.heap.size)
  clear hD0
  generalize hAe : va_A [(h_t, .inr (1, [.int 0, .int 0, .null, .null, .null, .null, .null]))] s.heap.size = A at hD hQ
  have hA : ∀ q : Nat, s.heap.size ≤ q → A q := fun q h => by rw [← hAe]; exact Or.inr h
  clear hAe
  have hS : va_S A s.heap s.heap [] := va_S.rf
  have hl := lv_entry ([.ref h_t]) (n := 1) (Nat.le_of_ble_eq_true rfl)
  rw [lg_entry_eq]
  generalize (lg_sl ([.ref h_t]) ++ List.replicate (1 - (lg_sl ([.ref h_t])).length) Slot.unset).toArray = ls at hl ⊢
  have hl : lv_has ls 1 [(0, .ref h_t)] := hl
  have k1 := hts (.methodLink RX1 3 objectInit) (List.mem_of_getElem? (i := 1) rfl)
  have k2 := hts (.instanceMethod objectInit) (List.mem_of_getElem? (i := 2) rfl)
  have k3 := hts (.code objectInit ⟨#[0xb1]⟩ 1 none) (List.mem_of_getElem? (i := 3) rfl)
  have k4 := hts (.fieldLink RX1 9 "ToneSets$Forms" "builtSize" "I") (List.mem_of_getElem? (i := 4) rfl)
  have k5 := hts (.fieldLink RX1 15 "ToneSets$Forms" "all" "I") (List.mem_of_getElem? (i := 5) rfl)
  have k6 := hts (.arrayClass .int) (List.mem_of_getElem? (i := 6) rfl)
  have k7 := hts (.fieldLink RX1 18 "ToneSets$Forms" "rising" "[I") (List.mem_of_getElem? (i := 7) rfl)
  have k8 := hts (.fieldLink RX1 22 "ToneSets$Forms" "sorted" "[I") (List.mem_of_getElem? (i := 8) rfl)
  have k9 := hts (.fieldLink RX1 25 "ToneSets$Forms" "rows" "[I") (List.mem_of_getElem? (i := 9) rfl)
  have k10 := hts (.fieldLink RX1 28 "ToneSets$Forms" "starts" "[I") (List.mem_of_getElem? (i := 10) rfl)
  have k11 := hts (.classLink RX1 31 RX6) (List.mem_of_getElem? (i := 11) rfl)
  have k12 := hts (.instantiable RX6 1) (List.mem_of_getElem? (i := 12) rfl)
  have k13 := hts (.initialized RX6) (List.mem_of_getElem? (i := 13) rfl)
  have k15 := hts (.instanceMethod yX6_init) (List.mem_of_getElem? (i := 15) rfl)
  have k14 := hts (.fieldLink RX1 34 "ToneSets$Forms" "seen" "LToneSets$Seen;") (List.mem_of_getElem? (i := 14) rfl)
  have uX1 := uX1_X1_init
  have uX6 := uX6_X1_init
  refine lv_aload_n hx hb dX1_init_0 rfl (lv_at hl 0 rfl) ?_
  refine W.objInit hx hb hown k1 k2 k3 rfl (by rw [hml]; exact hl.1) rfl dX1_init_1 (Nat.le_of_ble_eq_true rfl) (Nat.le_of_ble_eq_true rfl) ?_
  refine W.eq (g2 := F0 m 4 ls []) rfl ?_
  refine lv_aload_n hx hb dX1_init_4 rfl (lv_at hl 0 rfl) ?_
  refine lv_iconst (v := 0) hx hb dX1_init_5 (by decide) ?_
  refine my_put (W' := [(h_t, .inr (1, [.int 0, .int 0, .null, .null, .null, .null, .null]))]) (ci := 1) (v := .int 0) (ty := .int) (C := RX1) (T := TX1) (N := 7) hx hb hts uX1 tyX1 tyX1_ok nmX1 hown hK hP hD hS 0 rfl rfl 0 (by decide) k4 (fun _ h9 => h9) rfl (by decide +kernel) rfl rfl (Nat.le_of_ble_eq_true rfl) dX1_init_6 rfl (fun H locs hP hD hS => ?_)
  refine lv_aload_n hx hb dX1_init_9 rfl (lv_at hl 0 rfl) ?_
  refine lv_iconst (v := 0) hx hb dX1_init_10 (by decide) ?_
  refine my_put (W' := [(h_t, .inr (1, [.int 0, .int 0, .null, .null, .null, .null, .null]))]) (ci := 1) (v := .int 0) (ty := .int) (C := RX1) (T := TX1) (N := 7) hx hb hts uX1 tyX1 tyX1_ok nmX1 hown hK hP hD hS 0 rfl rfl 1 (by decide) k5 (fun _ h9 => h9) rfl (by decide +kernel) rfl rfl (Nat.le_of_ble_eq_true rfl) dX1_init_11 rfl (fun H locs hP hD hS => ?_)
  refine lv_aload_n hx hb dX1_init_14 rfl (lv_at hl 0 rfl) ?_
  refine lv_sipush (v := 224) hx hb dX1_init_15 (by decide) ?_
  refine my_newa (N' := 224) hx hb k6 hK hP hD hS hA (by decide) rfl (Nat.le_of_ble_eq_true rfl) (Nat.le_of_ble_eq_true rfl) (Nat.le_of_ble_eq_true rfl) dX1_init_18 (fun q1 H hP hD hS => ?_)
  have hP : va_P (dC, dI) vwCl [(h_t, .inr (1, [.int 0, .int 0, .null, .null, .null, .null, .null])), (q1, .inl (cA, 224, .inl (fun _ => 0)))] H := hP
  have hD : va_D A [(h_t, .inr (1, [.int 0, .int 0, .null, .null, .null, .null, .null])), (q1, .inl (cA, 224, .inl (fun _ => 0)))] := hD
  refine W.widen (k := 1) (n := 224) (Nat.le_of_ble_eq_true rfl) (Nat.le_of_ble_eq_true rfl) ?_
  refine my_putF (W' := [(h_t, .inr (1, [.int 0, .int 0, .ref q1, .null, .null, .null, .null])), (q1, .inl (cA, 224, .inl (fun _ => 0)))]) (ci := 1) (v := .ref q1) (ty := .array .int) (C := RX1) (T := TX1) (N := 7) hx hb hts uX1 tyX1 tyX1_ok nmX1 hown hK hP hD hS 0 rfl rfl 2 (by decide) k7 (fun _ h9 => h9) rfl hin rfl (by decide +kernel) rfl rfl (Nat.le_of_ble_eq_true rfl) dX1_init_20 rfl (fun H locs hP hD hS => ?_)
  refine lv_aload_n hx hb dX1_init_23 rfl (lv_at hl 0 rfl) ?_
  refine lv_sipush (v := 224) hx hb dX1_init_24 (by decide) ?_
  refine my_newa (N' := 224) hx hb k6 hK hP hD hS hA (by decide) rfl (Nat.le_of_ble_eq_true rfl) (Nat.le_of_ble_eq_true rfl) (Nat.le_of_ble_eq_true rfl) dX1_init_27 (fun q2 H hP hD hS => ?_)
  have hP : va_P (dC, dI) vwCl [(h_t, .inr (1, [.int 0, .int 0, .ref q1, .null, .null, .null, .null])), (q1, .inl (cA, 224, .inl (fun _ => 0))), (q2, .inl (cA, 224, .inl (fun _ => 0)))] H := hP
  have hD : va_D A [(h_t, .inr (1, [.int 0, .int 0, .ref q1, .null, .null, .null, .null])), (q1, .inl (cA, 224, .inl (fun _ => 0))), (q2, .inl (cA, 224, .inl (fun _ => 0)))] := hD
  refine W.widen (k := 2) (n := 448) (Nat.le_of_ble_eq_true rfl) (Nat.le_of_ble_eq_true rfl) ?_
  refine my_putF (W' := [(h_t, .inr (1, [.int 0, .int 0, .ref q1, .ref q2, .null, .null, .null])), (q1, .inl (cA, 224, .inl (fun _ => 0))), (q2, .inl (cA, 224, .inl (fun _ => 0)))]) (ci := 1) (v := .ref q2) (ty := .array .int) (C := RX1) (T := TX1) (N := 7) hx hb hts uX1 tyX1 tyX1_ok nmX1 hown hK hP hD hS 0 rfl rfl 3 (by decide) k8 (fun _ h9 => h9) rfl hin rfl (by decide +kernel) rfl rfl (Nat.le_of_ble_eq_true rfl) dX1_init_29 rfl (fun H locs hP hD hS => ?_)
  refine lv_aload_n hx hb dX1_init_32 rfl (lv_at hl 0 rfl) ?_
  refine lv_sipush (v := 224) hx hb dX1_init_33 (by decide) ?_
  refine my_newa (N' := 224) hx hb k6 hK hP hD hS hA (by decide) rfl (Nat.le_of_ble_eq_true rfl) (Nat.le_of_ble_eq_true rfl) (Nat.le_of_ble_eq_true rfl) dX1_init_36 (fun q3 H hP hD hS => ?_)
  have hP : va_P (dC, dI) vwCl [(h_t, .inr (1, [.int 0, .int 0, .ref q1, .ref q2, .null, .null, .null])), (q1, .inl (cA, 224, .inl (fun _ => 0))), (q2, .inl (cA, 224, .inl (fun _ => 0))), (q3, .inl (cA, 224, .inl (fun _ => 0)))] H := hP
  have hD : va_D A [(h_t, .inr (1, [.int 0, .int 0, .ref q1, .ref q2, .null, .null, .null])), (q1, .inl (cA, 224, .inl (fun _ => 0))), (q2, .inl (cA, 224, .inl (fun _ => 0))), (q3, .inl (cA, 224, .inl (fun _ => 0)))] := hD
  refine W.widen (k := 3) (n := 672) (Nat.le_of_ble_eq_true rfl) (Nat.le_of_ble_eq_true rfl) ?_
  refine my_putF (W' := [(h_t, .inr (1, [.int 0, .int 0, .ref q1, .ref q2, .ref q3, .null, .null])), (q1, .inl (cA, 224, .inl (fun _ => 0))), (q2, .inl (cA, 224, .inl (fun _ => 0))), (q3, .inl (cA, 224, .inl (fun _ => 0)))]) (ci := 1) (v := .ref q3) (ty := .array .int) (C := RX1) (T := TX1) (N := 7) hx hb hts uX1 tyX1 tyX1_ok nmX1 hown hK hP hD hS 0 rfl rfl 4 (by decide) k9 (fun _ h9 => h9) rfl hin rfl (by decide +kernel) rfl rfl (Nat.le_of_ble_eq_true rfl) dX1_init_38 rfl (fun H locs hP hD hS => ?_)
  refine lv_aload_n hx hb dX1_init_41 rfl (lv_at hl 0 rfl) ?_
  refine lv_bipush (v := 14) hx hb dX1_init_42 (by decide) ?_
  refine my_newa (N' := 14) hx hb k6 hK hP hD hS hA (by decide) rfl (Nat.le_of_ble_eq_true rfl) (Nat.le_of_ble_eq_true rfl) (Nat.le_of_ble_eq_true rfl) dX1_init_44 (fun q4 H hP hD hS => ?_)
  have hP : va_P (dC, dI) vwCl [(h_t, .inr (1, [.int 0, .int 0, .ref q1, .ref q2, .ref q3, .null, .null])), (q1, .inl (cA, 224, .inl (fun _ => 0))), (q2, .inl (cA, 224, .inl (fun _ => 0))), (q3, .inl (cA, 224, .inl (fun _ => 0))), (q4, .inl (cA, 14, .inl (fun _ => 0)))] H := hP
  have hD : va_D A [(h_t, .inr (1, [.int 0, .int 0, .ref q1, .ref q2, .ref q3, .null, .null])), (q1, .inl (cA, 224, .inl (fun _ => 0))), (q2, .inl (cA, 224, .inl (fun _ => 0))), (q3, .inl (cA, 224, .inl (fun _ => 0))), (q4, .inl (cA, 14, .inl (fun _ => 0)))] := hD
  refine W.widen (k := 4) (n := 686) (Nat.le_of_ble_eq_true rfl) (Nat.le_of_ble_eq_true rfl) ?_
  refine my_putF (W' := [(h_t, .inr (1, [.int 0, .int 0, .ref q1, .ref q2, .ref q3, .ref q4, .null])), (q1, .inl (cA, 224, .inl (fun _ => 0))), (q2, .inl (cA, 224, .inl (fun _ => 0))), (q3, .inl (cA, 224, .inl (fun _ => 0))), (q4, .inl (cA, 14, .inl (fun _ => 0)))]) (ci := 1) (v := .ref q4) (ty := .array .int) (C := RX1) (T := TX1) (N := 7) hx hb hts uX1 tyX1 tyX1_ok nmX1 hown hK hP hD hS 0 rfl rfl 5 (by decide) k10 (fun _ h9 => h9) rfl hin rfl (by decide +kernel) rfl rfl (Nat.le_of_ble_eq_true rfl) dX1_init_46 rfl (fun H locs hP hD hS => ?_)
  refine lv_aload_n hx hb dX1_init_49 rfl (lv_at hl 0 rfl) ?_
  refine va_new (ci := 5) (fs := [.null]) (C := RX6) (T := TX6) (N := 1) hx hb hts uX6 tyX6 tyX6_ok hown k11 k12 k13 hK hP hD hS hA rfl (fun j hj => by rcases (show j = 0 by omega) with rfl <;> rfl) (Nat.le_of_ble_eq_true rfl) (Nat.le_of_ble_eq_true rfl) dX1_init_50 (fun q5 H hP hD hS => ?_)
  have hP : va_P (dC, dI) vwCl [(h_t, .inr (1, [.int 0, .int 0, .ref q1, .ref q2, .ref q3, .ref q4, .null])), (q1, .inl (cA, 224, .inl (fun _ => 0))), (q2, .inl (cA, 224, .inl (fun _ => 0))), (q3, .inl (cA, 224, .inl (fun _ => 0))), (q4, .inl (cA, 14, .inl (fun _ => 0))), (q5, .inr (5, [.null]))] H := hP
  have hD : va_D A [(h_t, .inr (1, [.int 0, .int 0, .ref q1, .ref q2, .ref q3, .ref q4, .null])), (q1, .inl (cA, 224, .inl (fun _ => 0))), (q2, .inl (cA, 224, .inl (fun _ => 0))), (q3, .inl (cA, 224, .inl (fun _ => 0))), (q4, .inl (cA, 14, .inl (fun _ => 0))), (q5, .inr (5, [.null]))] := hD
  refine W.widen (k := 5) (n := 687) (Nat.le_of_ble_eq_true rfl) (Nat.le_of_ble_eq_true rfl) ?_
  refine lv_dup hx hb dX1_init_53 rfl ?_
  refine my_cIN (As := []) (rest := [.ref q5, .ref h_t]) (WC := [(q5, .inr (5, [.null]))]) (WR := [(h_t, .inr (1, [.int 0, .int 0, .ref q1, .ref q2, .ref q3, .ref q4, .null])), (q1, .inl (cA, 224, .inl (fun _ => 0))), (q2, .inl (cA, 224, .inl (fun _ => 0))), (q3, .inl (cA, 224, .inl (fun _ => 0))), (q4, .inl (cA, 14, .inl (fun _ => 0)))]) (NS := []) ⟨hx, hb, hml, hown, hts⟩ hK hP hD hS hA (fun sz => c_Seen_init l dC dI cA q5 sz) ⟨va_cnB 0 hts gX1_init_X6_init_n33 rfl rfl rfl (hNS _ (List.mem_of_getElem? (i := 0) rfl)) k13 (by decide +kernel) ⟨Nat.le_of_ble_eq_true rfl, Nat.le_of_ble_eq_true rfl⟩, rfl, k15⟩ (fun q hq => absurd hq List.not_mem_nil) [5] [0, 1, 2, 3, 4] rfl rfl rfl rfl rfl hl.1 (Nat.le_of_ble_eq_true rfl) dX1_init_54 ⟨Nat.le_of_ble_eq_true rfl, Nat.le_of_ble_eq_true rfl⟩ (fun w1 hG H locs hP hD hS => ?_)
  obtain ⟨q6, rfl⟩ := hG
  have hP : va_P (dC, dI) vwCl [(h_t, .inr (1, [.int 0, .int 0, .ref q1, .ref q2, .ref q3, .ref q4, .null])), (q1, .inl (cA, 224, .inl (fun _ => 0))), (q2, .inl (cA, 224, .inl (fun _ => 0))), (q3, .inl (cA, 224, .inl (fun _ => 0))), (q4, .inl (cA, 14, .inl (fun _ => 0))), (q5, .inr (5, [.ref q6])), (q6, .inl (cA, 128, .inl (fun _ => 0)))] H := hP
  have hD : va_D A [(h_t, .inr (1, [.int 0, .int 0, .ref q1, .ref q2, .ref q3, .ref q4, .null])), (q1, .inl (cA, 224, .inl (fun _ => 0))), (q2, .inl (cA, 224, .inl (fun _ => 0))), (q3, .inl (cA, 224, .inl (fun _ => 0))), (q4, .inl (cA, 14, .inl (fun _ => 0))), (q5, .inr (5, [.ref q6])), (q6, .inl (cA, 128, .inl (fun _ => 0)))] := hD
  refine W.widen (k := 6) (n := 815) (Nat.le_of_ble_eq_true rfl) (Nat.le_of_ble_eq_true rfl) ?_
  refine my_putF (W' := [(h_t, .inr (1, [.int 0, .int 0, .ref q1, .ref q2, .ref q3, .ref q4, .ref q5])), (q1, .inl (cA, 224, .inl (fun _ => 0))), (q2, .inl (cA, 224, .inl (fun _ => 0))), (q3, .inl (cA, 224, .inl (fun _ => 0))), (q4, .inl (cA, 14, .inl (fun _ => 0))), (q5, .inr (5, [.ref q6])), (q6, .inl (cA, 128, .inl (fun _ => 0)))]) (ci := 1) (v := .ref q5) (ty := .object "ToneSets$Seen") (C := RX1) (T := TX1) (N := 7) hx hb hts uX1 tyX1 tyX1_ok nmX1 hown hK hP hD hS 0 rfl rfl 6 (by decide) k14 (fun _ h9 => h9) rfl hin rfl (by decide +kernel) rfl rfl (Nat.le_of_ble_eq_true rfl) dX1_init_57 rfl (fun H locs hP hD hS => ?_)
  exact W_mono hQ (W.vret hx hb hr (fun t ht hW => ⟨⟨(), rfl, trivial, _, ⟨_, _, _, _, _, _, rfl⟩, by rw [ht]; exact hP, va_K.moved hW.alike hK, hD⟩, hS.F ht⟩) hS.2.2 dX1_init_60)
def G_Ways_init (cA : ClassId) (h_t : Nat) : va_W → Prop := fun w => ∃ q1 q2 q3 q4 q5 q6 q7 q8 : Nat, w = [(h_t, .inr (8, [.int 0, .int 0, .int 0, .int 0, .int 0, .ref q1, .ref q2, .ref q3, .ref q4, .ref q5, .ref q6, .ref q7, .ref q8])), (q1, .inl (cA, 13, .inl (fun _ => 0))), (q2, .inl (cA, 13, .inl (fun _ => 0))), (q3, .inl (cA, 169, .inl (fun _ => 0))), (q4, .inl (cA, 13, .inl (fun _ => 0))), (q5, .inl (cA, 13, .inl (fun _ => 0))), (q6, .inl (cA, 13, .inl (fun _ => 0))), (q7, .inl (cA, 13, .inl (fun _ => 0))), (q8, .inl (cA, 13, .inl (fun _ => 0)))]
abbrev rmX9_init : Room := { frames := 1, cells := 8, slots := 260, locals := 20 }
theorem uX9_X9_init : ∀ w ∈ wsX90, w ∈ wsX9_init := fun _ h => List.mem_cons_of_mem _ (List.mem_append_right _ (h))
set_option maxHeartbeats 40000000 in
set_option maxRecDepth 100000 in
theorem c_Ways_init (l : Launch) (dC : Nat → ClassId) (dI : Nat → Nat → Nat) (cA : ClassId) (h_t sz : Nat) : Met l yX9_init wsX9_init rmX9_init (nPre (dC, dI) cA [.ref h_t] sz [(h_t, .inr (8, [.int 0, .int 0, .int 0, .int 0, .int 0, .null, .null, .null, .null, .null, .null, .null, .null]))] []) (nPos (dC, dI) cA (va_A [(h_t, .inr (8, [.int 0, .int 0, .int 0, .int 0, .int 0, .null, .null, .null, .null, .null, .null, .null, .null]))] sz) (G_Ways_init cA h_t)) 8 260 (va_A [(h_t, .inr (8, [.int 0, .int 0, .int 0, .int 0, .int 0, .null, .null, .null, .null, .null, .null, .null, .null]))] sz) := by
  refine Met.ofW (cc := cX9_init) (maxL := 1) (ret := none) (by decide) rfl ?_
  intro p e s m args below meth c s₁ B hml hv
  obtain ⟨rfl, ⟨hsz, hP, hK, hD0⟩, hNS⟩ := hv
  refine W_gen (fun Q hQ => ?_)
  have hx := B.exec
  have hb := B.bytes
  have hr := B.returns
  have hts := atoms_spec (ws := wsX9_init) B.pre
  have hown : s.vm.findClass RX9 = some m.cls := findClass_of_methodNamed B.named
  have hlocks := B.notSynchronized
  have hin : meth.name = "<init>" := (name_of_methodNamed B.named B.method).1
  subst hsz
  have hD := hD0.self (sz := s.heap.size)
  clear hD0
  generalize hAe : va_A [(h_t, .inr (8, [.int 0, .int 0, .int 0, .int 0, .int 0, .null, .null, .null, .null, .null, .null, .null, .null]))] s.heap.size = A at hD hQ
  have hA : ∀ q : Nat, s.heap.size ≤ q → A q := fun q h => by rw [← hAe]; exact Or.inr h
  clear hAe
  have hS : va_S A s.heap s.heap [] := va_S.rf
  have hl := lv_entry ([.ref h_t]) (n := 1) (Nat.le_of_ble_eq_true rfl)
  rw [lg_entry_eq]
  generalize (lg_sl ([.ref h_t]) ++ List.replicate (1 - (lg_sl ([.ref h_t])).length) Slot.unset).toArray = ls at hl ⊢
  have hl : lv_has ls 1 [(0, .ref h_t)] := hl
  have k1 := hts (.methodLink RX9 3 objectInit) (List.mem_of_getElem? (i := 1) rfl)
  have k2 := hts (.instanceMethod objectInit) (List.mem_of_getElem? (i := 2) rfl)
  have k3 := hts (.code objectInit ⟨#[0xb1]⟩ 1 none) (List.mem_of_getElem? (i := 3) rfl)
  have k4 := hts (.fieldLink RX9 9 "ToneSets$Ways" "nearestNumber" "I") (List.mem_of_getElem? (i := 4) rfl)
  have k5 := hts (.fieldLink RX9 15 "ToneSets$Ways" "nearestLength" "I") (List.mem_of_getElem? (i := 5) rfl)
  have k6 := hts (.fieldLink RX9 18 "ToneSets$Ways" "goals" "I") (List.mem_of_getElem? (i := 6) rfl)
  have k7 := hts (.fieldLink RX9 21 "ToneSets$Ways" "goers" "I") (List.mem_of_getElem? (i := 7) rfl)
  have k8 := hts (.fieldLink RX9 24 "ToneSets$Ways" "reached" "I") (List.mem_of_getElem? (i := 8) rfl)
  have k9 := hts (.arrayClass .int) (List.mem_of_getElem? (i := 9) rfl)
  have k10 := hts (.fieldLink RX9 27 "ToneSets$Ways" "goalTones" "[I") (List.mem_of_getElem? (i := 10) rfl)
  have k11 := hts (.fieldLink RX9 31 "ToneSets$Ways" "goerTones" "[I") (List.mem_of_getElem? (i := 11) rfl)
  have k12 := hts (.fieldLink RX9 34 "ToneSets$Ways" "extra" "[I") (List.mem_of_getElem? (i := 12) rfl)
  have k13 := hts (.fieldLink RX9 37 "ToneSets$Ways" "goalPrices" "[I") (List.mem_of_getElem? (i := 13) rfl)
  have k14 := hts (.fieldLink RX9 40 "ToneSets$Ways" "goerPrices" "[I") (List.mem_of_getElem? (i := 14) rfl)
  have k15 := hts (.fieldLink RX9 43 "ToneSets$Ways" "goalOfGoer" "[I") (List.mem_of_getElem? (i := 15) rfl)
  have k16 := hts (.fieldLink RX9 46 "ToneSets$Ways" "cameFrom" "[I") (List.mem_of_getElem? (i := 16) rfl)
  have k17 := hts (.fieldLink RX9 49 "ToneSets$Ways" "slack" "[I") (List.mem_of_getElem? (i := 17) rfl)
  have uX9 := uX9_X9_init
  refine lv_aload_n hx hb dX9_init_0 rfl (lv_at hl 0 rfl) ?_
  refine W.objInit hx hb hown k1 k2 k3 rfl (by rw [hml]; exact hl.1) rfl dX9_init_1 (Nat.le_of_ble_eq_true rfl) (Nat.le_of_ble_eq_true rfl) ?_
  refine W.eq (g2 := F0 m 4 ls []) rfl ?_
  refine lv_aload_n hx hb dX9_init_4 rfl (lv_at hl 0 rfl) ?_
  refine lv_iconst (v := 0) hx hb dX9_init_5 (by decide) ?_
  refine my_put (W' := [(h_t, .inr (8, [.int 0, .int 0, .int 0, .int 0, .int 0, .null, .null, .null, .null, .null, .null, .null, .null]))]) (ci := 8) (v := .int 0) (ty := .int) (C := RX9) (T := TX9) (N := 13) hx hb hts uX9 tyX9 tyX9_ok nmX9 hown hK hP hD hS 0 rfl rfl 0 (by decide) k4 (fun _ h9 => h9) rfl (by decide +kernel) rfl rfl (Nat.le_of_ble_eq_true rfl) dX9_init_6 rfl (fun H locs hP hD hS => ?_)
  refine lv_aload_n hx hb dX9_init_9 rfl (lv_at hl 0 rfl) ?_
  refine lv_iconst (v := 0) hx hb dX9_init_10 (by decide) ?_
  refine my_put (W' := [(h_t, .inr (8, [.int 0, .int 0, .int 0, .int 0, .int 0, .null, .null, .null, .null, .null, .null, .null, .null]))]) (ci := 8) (v := .int 0) (ty := .int) (C := RX9) (T := TX9) (N := 13) hx hb hts uX9 tyX9 tyX9_ok nmX9 hown hK hP hD hS 0 rfl rfl 1 (by decide) k5 (fun _ h9 => h9) rfl (by decide +kernel) rfl rfl (Nat.le_of_ble_eq_true rfl) dX9_init_11 rfl (fun H locs hP hD hS => ?_)
  refine lv_aload_n hx hb dX9_init_14 rfl (lv_at hl 0 rfl) ?_
  refine lv_iconst (v := 0) hx hb dX9_init_15 (by decide) ?_
  refine my_put (W' := [(h_t, .inr (8, [.int 0, .int 0, .int 0, .int 0, .int 0, .null, .null, .null, .null, .null, .null, .null, .null]))]) (ci := 8) (v := .int 0) (ty := .int) (C := RX9) (T := TX9) (N := 13) hx hb hts uX9 tyX9 tyX9_ok nmX9 hown hK hP hD hS 0 rfl rfl 2 (by decide) k6 (fun _ h9 => h9) rfl (by decide +kernel) rfl rfl (Nat.le_of_ble_eq_true rfl) dX9_init_16 rfl (fun H locs hP hD hS => ?_)
  refine lv_aload_n hx hb dX9_init_19 rfl (lv_at hl 0 rfl) ?_
  refine lv_iconst (v := 0) hx hb dX9_init_20 (by decide) ?_
  refine my_put (W' := [(h_t, .inr (8, [.int 0, .int 0, .int 0, .int 0, .int 0, .null, .null, .null, .null, .null, .null, .null, .null]))]) (ci := 8) (v := .int 0) (ty := .int) (C := RX9) (T := TX9) (N := 13) hx hb hts uX9 tyX9 tyX9_ok nmX9 hown hK hP hD hS 0 rfl rfl 3 (by decide) k7 (fun _ h9 => h9) rfl (by decide +kernel) rfl rfl (Nat.le_of_ble_eq_true rfl) dX9_init_21 rfl (fun H locs hP hD hS => ?_)
  refine lv_aload_n hx hb dX9_init_24 rfl (lv_at hl 0 rfl) ?_
  refine lv_iconst (v := 0) hx hb dX9_init_25 (by decide) ?_
  refine my_put (W' := [(h_t, .inr (8, [.int 0, .int 0, .int 0, .int 0, .int 0, .null, .null, .null, .null, .null, .null, .null, .null]))]) (ci := 8) (v := .int 0) (ty := .int) (C := RX9) (T := TX9) (N := 13) hx hb hts uX9 tyX9 tyX9_ok nmX9 hown hK hP hD hS 0 rfl rfl 4 (by decide) k8 (fun _ h9 => h9) rfl (by decide +kernel) rfl rfl (Nat.le_of_ble_eq_true rfl) dX9_init_26 rfl (fun H locs hP hD hS => ?_)
  refine lv_aload_n hx hb dX9_init_29 rfl (lv_at hl 0 rfl) ?_
  refine lv_bipush (v := 13) hx hb dX9_init_30 (by decide) ?_
  refine my_newa (N' := 13) hx hb k9 hK hP hD hS hA (by decide) rfl (Nat.le_of_ble_eq_true rfl) (Nat.le_of_ble_eq_true rfl) (Nat.le_of_ble_eq_true rfl) dX9_init_32 (fun q1 H hP hD hS => ?_)
  have hP : va_P (dC, dI) vwCl [(h_t, .inr (8, [.int 0, .int 0, .int 0, .int 0, .int 0, .null, .null, .null, .null, .null, .null, .null, .null])), (q1, .inl (cA, 13, .inl (fun _ => 0)))] H := hP
  have hD : va_D A [(h_t, .inr (8, [.int 0, .int 0, .int 0, .int 0, .int 0, .null, .null, .null, .null, .null, .null, .null, .null])), (q1, .inl (cA, 13, .inl (fun _ => 0)))] := hD
  refine W.widen (k := 1) (n := 13) (Nat.le_of_ble_eq_true rfl) (Nat.le_of_ble_eq_true rfl) ?_
  refine my_putF (W' := [(h_t, .inr (8, [.int 0, .int 0, .int 0, .int 0, .int 0, .ref q1, .null, .null, .null, .null, .null, .null, .null])), (q1, .inl (cA, 13, .inl (fun _ => 0)))]) (ci := 8) (v := .ref q1) (ty := .array .int) (C := RX9) (T := TX9) (N := 13) hx hb hts uX9 tyX9 tyX9_ok nmX9 hown hK hP hD hS 0 rfl rfl 5 (by decide) k10 (fun _ h9 => h9) rfl hin rfl (by decide +kernel) rfl rfl (Nat.le_of_ble_eq_true rfl) dX9_init_34 rfl (fun H locs hP hD hS => ?_)
  refine lv_aload_n hx hb dX9_init_37 rfl (lv_at hl 0 rfl) ?_
  refine lv_bipush (v := 13) hx hb dX9_init_38 (by decide) ?_
  refine my_newa (N' := 13) hx hb k9 hK hP hD hS hA (by decide) rfl (Nat.le_of_ble_eq_true rfl) (Nat.le_of_ble_eq_true rfl) (Nat.le_of_ble_eq_true rfl) dX9_init_40 (fun q2 H hP hD hS => ?_)
  have hP : va_P (dC, dI) vwCl [(h_t, .inr (8, [.int 0, .int 0, .int 0, .int 0, .int 0, .ref q1, .null, .null, .null, .null, .null, .null, .null])), (q1, .inl (cA, 13, .inl (fun _ => 0))), (q2, .inl (cA, 13, .inl (fun _ => 0)))] H := hP
  have hD : va_D A [(h_t, .inr (8, [.int 0, .int 0, .int 0, .int 0, .int 0, .ref q1, .null, .null, .null, .null, .null, .null, .null])), (q1, .inl (cA, 13, .inl (fun _ => 0))), (q2, .inl (cA, 13, .inl (fun _ => 0)))] := hD
  refine W.widen (k := 2) (n := 26) (Nat.le_of_ble_eq_true rfl) (Nat.le_of_ble_eq_true rfl) ?_
  refine my_putF (W' := [(h_t, .inr (8, [.int 0, .int 0, .int 0, .int 0, .int 0, .ref q1, .ref q2, .null, .null, .null, .null, .null, .null])), (q1, .inl (cA, 13, .inl (fun _ => 0))), (q2, .inl (cA, 13, .inl (fun _ => 0)))]) (ci := 8) (v := .ref q2) (ty := .array .int) (C := RX9) (T := TX9) (N := 13) hx hb hts uX9 tyX9 tyX9_ok nmX9 hown hK hP hD hS 0 rfl rfl 6 (by decide) k11 (fun _ h9 => h9) rfl hin rfl (by decide +kernel) rfl rfl (Nat.le_of_ble_eq_true rfl) dX9_init_42 rfl (fun H locs hP hD hS => ?_)
  refine lv_aload_n hx hb dX9_init_45 rfl (lv_at hl 0 rfl) ?_
  refine lv_sipush (v := 169) hx hb dX9_init_46 (by decide) ?_
  refine my_newa (N' := 169) hx hb k9 hK hP hD hS hA (by decide) rfl (Nat.le_of_ble_eq_true rfl) (Nat.le_of_ble_eq_true rfl) (Nat.le_of_ble_eq_true rfl) dX9_init_49 (fun q3 H hP hD hS => ?_)
  have hP : va_P (dC, dI) vwCl [(h_t, .inr (8, [.int 0, .int 0, .int 0, .int 0, .int 0, .ref q1, .ref q2, .null, .null, .null, .null, .null, .null])), (q1, .inl (cA, 13, .inl (fun _ => 0))), (q2, .inl (cA, 13, .inl (fun _ => 0))), (q3, .inl (cA, 169, .inl (fun _ => 0)))] H := hP
  have hD : va_D A [(h_t, .inr (8, [.int 0, .int 0, .int 0, .int 0, .int 0, .ref q1, .ref q2, .null, .null, .null, .null, .null, .null])), (q1, .inl (cA, 13, .inl (fun _ => 0))), (q2, .inl (cA, 13, .inl (fun _ => 0))), (q3, .inl (cA, 169, .inl (fun _ => 0)))] := hD
  refine W.widen (k := 3) (n := 195) (Nat.le_of_ble_eq_true rfl) (Nat.le_of_ble_eq_true rfl) ?_
  refine my_putF (W' := [(h_t, .inr (8, [.int 0, .int 0, .int 0, .int 0, .int 0, .ref q1, .ref q2, .ref q3, .null, .null, .null, .null, .null])), (q1, .inl (cA, 13, .inl (fun _ => 0))), (q2, .inl (cA, 13, .inl (fun _ => 0))), (q3, .inl (cA, 169, .inl (fun _ => 0)))]) (ci := 8) (v := .ref q3) (ty := .array .int) (C := RX9) (T := TX9) (N := 13) hx hb hts uX9 tyX9 tyX9_ok nmX9 hown hK hP hD hS 0 rfl rfl 7 (by decide) k12 (fun _ h9 => h9) rfl hin rfl (by decide +kernel) rfl rfl (Nat.le_of_ble_eq_true rfl) dX9_init_51 rfl (fun H locs hP hD hS => ?_)
  refine lv_aload_n hx hb dX9_init_54 rfl (lv_at hl 0 rfl) ?_
  refine lv_bipush (v := 13) hx hb dX9_init_55 (by decide) ?_
  refine my_newa (N' := 13) hx hb k9 hK hP hD hS hA (by decide) rfl (Nat.le_of_ble_eq_true rfl) (Nat.le_of_ble_eq_true rfl) (Nat.le_of_ble_eq_true rfl) dX9_init_57 (fun q4 H hP hD hS => ?_)
  have hP : va_P (dC, dI) vwCl [(h_t, .inr (8, [.int 0, .int 0, .int 0, .int 0, .int 0, .ref q1, .ref q2, .ref q3, .null, .null, .null, .null, .null])), (q1, .inl (cA, 13, .inl (fun _ => 0))), (q2, .inl (cA, 13, .inl (fun _ => 0))), (q3, .inl (cA, 169, .inl (fun _ => 0))), (q4, .inl (cA, 13, .inl (fun _ => 0)))] H := hP
  have hD : va_D A [(h_t, .inr (8, [.int 0, .int 0, .int 0, .int 0, .int 0, .ref q1, .ref q2, .ref q3, .null, .null, .null, .null, .null])), (q1, .inl (cA, 13, .inl (fun _ => 0))), (q2, .inl (cA, 13, .inl (fun _ => 0))), (q3, .inl (cA, 169, .inl (fun _ => 0))), (q4, .inl (cA, 13, .inl (fun _ => 0)))] := hD
  refine W.widen (k := 4) (n := 208) (Nat.le_of_ble_eq_true rfl) (Nat.le_of_ble_eq_true rfl) ?_
  refine my_putF (W' := [(h_t, .inr (8, [.int 0, .int 0, .int 0, .int 0, .int 0, .ref q1, .ref q2, .ref q3, .ref q4, .null, .null, .null, .null])), (q1, .inl (cA, 13, .inl (fun _ => 0))), (q2, .inl (cA, 13, .inl (fun _ => 0))), (q3, .inl (cA, 169, .inl (fun _ => 0))), (q4, .inl (cA, 13, .inl (fun _ => 0)))]) (ci := 8) (v := .ref q4) (ty := .array .int) (C := RX9) (T := TX9) (N := 13) hx hb hts uX9 tyX9 tyX9_ok nmX9 hown hK hP hD hS 0 rfl rfl 8 (by decide) k13 (fun _ h9 => h9) rfl hin rfl (by decide +kernel) rfl rfl (Nat.le_of_ble_eq_true rfl) dX9_init_59 rfl (fun H locs hP hD hS => ?_)
  refine lv_aload_n hx hb dX9_init_62 rfl (lv_at hl 0 rfl) ?_
  refine lv_bipush (v := 13) hx hb dX9_init_63 (by decide) ?_
  refine my_newa (N' := 13) hx hb k9 hK hP hD hS hA (by decide) rfl (Nat.le_of_ble_eq_true rfl) (Nat.le_of_ble_eq_true rfl) (Nat.le_of_ble_eq_true rfl) dX9_init_65 (fun q5 H hP hD hS => ?_)
  have hP : va_P (dC, dI) vwCl [(h_t, .inr (8, [.int 0, .int 0, .int 0, .int 0, .int 0, .ref q1, .ref q2, .ref q3, .ref q4, .null, .null, .null, .null])), (q1, .inl (cA, 13, .inl (fun _ => 0))), (q2, .inl (cA, 13, .inl (fun _ => 0))), (q3, .inl (cA, 169, .inl (fun _ => 0))), (q4, .inl (cA, 13, .inl (fun _ => 0))), (q5, .inl (cA, 13, .inl (fun _ => 0)))] H := hP
  have hD : va_D A [(h_t, .inr (8, [.int 0, .int 0, .int 0, .int 0, .int 0, .ref q1, .ref q2, .ref q3, .ref q4, .null, .null, .null, .null])), (q1, .inl (cA, 13, .inl (fun _ => 0))), (q2, .inl (cA, 13, .inl (fun _ => 0))), (q3, .inl (cA, 169, .inl (fun _ => 0))), (q4, .inl (cA, 13, .inl (fun _ => 0))), (q5, .inl (cA, 13, .inl (fun _ => 0)))] := hD
  refine W.widen (k := 5) (n := 221) (Nat.le_of_ble_eq_true rfl) (Nat.le_of_ble_eq_true rfl) ?_
  refine my_putF (W' := [(h_t, .inr (8, [.int 0, .int 0, .int 0, .int 0, .int 0, .ref q1, .ref q2, .ref q3, .ref q4, .ref q5, .null, .null, .null])), (q1, .inl (cA, 13, .inl (fun _ => 0))), (q2, .inl (cA, 13, .inl (fun _ => 0))), (q3, .inl (cA, 169, .inl (fun _ => 0))), (q4, .inl (cA, 13, .inl (fun _ => 0))), (q5, .inl (cA, 13, .inl (fun _ => 0)))]) (ci := 8) (v := .ref q5) (ty := .array .int) (C := RX9) (T := TX9) (N := 13) hx hb hts uX9 tyX9 tyX9_ok nmX9 hown hK hP hD hS 0 rfl rfl 9 (by decide) k14 (fun _ h9 => h9) rfl hin rfl (by decide +kernel) rfl rfl (Nat.le_of_ble_eq_true rfl) dX9_init_67 rfl (fun H locs hP hD hS => ?_)
  refine lv_aload_n hx hb dX9_init_70 rfl (lv_at hl 0 rfl) ?_
  refine lv_bipush (v := 13) hx hb dX9_init_71 (by decide) ?_
  refine my_newa (N' := 13) hx hb k9 hK hP hD hS hA (by decide) rfl (Nat.le_of_ble_eq_true rfl) (Nat.le_of_ble_eq_true rfl) (Nat.le_of_ble_eq_true rfl) dX9_init_73 (fun q6 H hP hD hS => ?_)
  have hP : va_P (dC, dI) vwCl [(h_t, .inr (8, [.int 0, .int 0, .int 0, .int 0, .int 0, .ref q1, .ref q2, .ref q3, .ref q4, .ref q5, .null, .null, .null])), (q1, .inl (cA, 13, .inl (fun _ => 0))), (q2, .inl (cA, 13, .inl (fun _ => 0))), (q3, .inl (cA, 169, .inl (fun _ => 0))), (q4, .inl (cA, 13, .inl (fun _ => 0))), (q5, .inl (cA, 13, .inl (fun _ => 0))), (q6, .inl (cA, 13, .inl (fun _ => 0)))] H := hP
  have hD : va_D A [(h_t, .inr (8, [.int 0, .int 0, .int 0, .int 0, .int 0, .ref q1, .ref q2, .ref q3, .ref q4, .ref q5, .null, .null, .null])), (q1, .inl (cA, 13, .inl (fun _ => 0))), (q2, .inl (cA, 13, .inl (fun _ => 0))), (q3, .inl (cA, 169, .inl (fun _ => 0))), (q4, .inl (cA, 13, .inl (fun _ => 0))), (q5, .inl (cA, 13, .inl (fun _ => 0))), (q6, .inl (cA, 13, .inl (fun _ => 0)))] := hD
  refine W.widen (k := 6) (n := 234) (Nat.le_of_ble_eq_true rfl) (Nat.le_of_ble_eq_true rfl) ?_
  refine my_putF (W' := [(h_t, .inr (8, [.int 0, .int 0, .int 0, .int 0, .int 0, .ref q1, .ref q2, .ref q3, .ref q4, .ref q5, .ref q6, .null, .null])), (q1, .inl (cA, 13, .inl (fun _ => 0))), (q2, .inl (cA, 13, .inl (fun _ => 0))), (q3, .inl (cA, 169, .inl (fun _ => 0))), (q4, .inl (cA, 13, .inl (fun _ => 0))), (q5, .inl (cA, 13, .inl (fun _ => 0))), (q6, .inl (cA, 13, .inl (fun _ => 0)))]) (ci := 8) (v := .ref q6) (ty := .array .int) (C := RX9) (T := TX9) (N := 13) hx hb hts uX9 tyX9 tyX9_ok nmX9 hown hK hP hD hS 0 rfl rfl 10 (by decide) k15 (fun _ h9 => h9) rfl hin rfl (by decide +kernel) rfl rfl (Nat.le_of_ble_eq_true rfl) dX9_init_75 rfl (fun H locs hP hD hS => ?_)
  refine lv_aload_n hx hb dX9_init_78 rfl (lv_at hl 0 rfl) ?_
  refine lv_bipush (v := 13) hx hb dX9_init_79 (by decide) ?_
  refine my_newa (N' := 13) hx hb k9 hK hP hD hS hA (by decide) rfl (Nat.le_of_ble_eq_true rfl) (Nat.le_of_ble_eq_true rfl) (Nat.le_of_ble_eq_true rfl) dX9_init_81 (fun q7 H hP hD hS => ?_)
  have hP : va_P (dC, dI) vwCl [(h_t, .inr (8, [.int 0, .int 0, .int 0, .int 0, .int 0, .ref q1, .ref q2, .ref q3, .ref q4, .ref q5, .ref q6, .null, .null])), (q1, .inl (cA, 13, .inl (fun _ => 0))), (q2, .inl (cA, 13, .inl (fun _ => 0))), (q3, .inl (cA, 169, .inl (fun _ => 0))), (q4, .inl (cA, 13, .inl (fun _ => 0))), (q5, .inl (cA, 13, .inl (fun _ => 0))), (q6, .inl (cA, 13, .inl (fun _ => 0))), (q7, .inl (cA, 13, .inl (fun _ => 0)))] H := hP
  have hD : va_D A [(h_t, .inr (8, [.int 0, .int 0, .int 0, .int 0, .int 0, .ref q1, .ref q2, .ref q3, .ref q4, .ref q5, .ref q6, .null, .null])), (q1, .inl (cA, 13, .inl (fun _ => 0))), (q2, .inl (cA, 13, .inl (fun _ => 0))), (q3, .inl (cA, 169, .inl (fun _ => 0))), (q4, .inl (cA, 13, .inl (fun _ => 0))), (q5, .inl (cA, 13, .inl (fun _ => 0))), (q6, .inl (cA, 13, .inl (fun _ => 0))), (q7, .inl (cA, 13, .inl (fun _ => 0)))] := hD
  refine W.widen (k := 7) (n := 247) (Nat.le_of_ble_eq_true rfl) (Nat.le_of_ble_eq_true rfl) ?_
  refine my_putF (W' := [(h_t, .inr (8, [.int 0, .int 0, .int 0, .int 0, .int 0, .ref q1, .ref q2, .ref q3, .ref q4, .ref q5, .ref q6, .ref q7, .null])), (q1, .inl (cA, 13, .inl (fun _ => 0))), (q2, .inl (cA, 13, .inl (fun _ => 0))), (q3, .inl (cA, 169, .inl (fun _ => 0))), (q4, .inl (cA, 13, .inl (fun _ => 0))), (q5, .inl (cA, 13, .inl (fun _ => 0))), (q6, .inl (cA, 13, .inl (fun _ => 0))), (q7, .inl (cA, 13, .inl (fun _ => 0)))]) (ci := 8) (v := .ref q7) (ty := .array .int) (C := RX9) (T := TX9) (N := 13) hx hb hts uX9 tyX9 tyX9_ok nmX9 hown hK hP hD hS 0 rfl rfl 11 (by decide) k16 (fun _ h9 => h9) rfl hin rfl (by decide +kernel) rfl rfl (Nat.le_of_ble_eq_true rfl) dX9_init_83 rfl (fun H locs hP hD hS => ?_)
  refine lv_aload_n hx hb dX9_init_86 rfl (lv_at hl 0 rfl) ?_
  refine lv_bipush (v := 13) hx hb dX9_init_87 (by decide) ?_
  refine my_newa (N' := 13) hx hb k9 hK hP hD hS hA (by decide) rfl (Nat.le_of_ble_eq_true rfl) (Nat.le_of_ble_eq_true rfl) (Nat.le_of_ble_eq_true rfl) dX9_init_89 (fun q8 H hP hD hS => ?_)
  have hP : va_P (dC, dI) vwCl [(h_t, .inr (8, [.int 0, .int 0, .int 0, .int 0, .int 0, .ref q1, .ref q2, .ref q3, .ref q4, .ref q5, .ref q6, .ref q7, .null])), (q1, .inl (cA, 13, .inl (fun _ => 0))), (q2, .inl (cA, 13, .inl (fun _ => 0))), (q3, .inl (cA, 169, .inl (fun _ => 0))), (q4, .inl (cA, 13, .inl (fun _ => 0))), (q5, .inl (cA, 13, .inl (fun _ => 0))), (q6, .inl (cA, 13, .inl (fun _ => 0))), (q7, .inl (cA, 13, .inl (fun _ => 0))), (q8, .inl (cA, 13, .inl (fun _ => 0)))] H := hP
  have hD : va_D A [(h_t, .inr (8, [.int 0, .int 0, .int 0, .int 0, .int 0, .ref q1, .ref q2, .ref q3, .ref q4, .ref q5, .ref q6, .ref q7, .null])), (q1, .inl (cA, 13, .inl (fun _ => 0))), (q2, .inl (cA, 13, .inl (fun _ => 0))), (q3, .inl (cA, 169, .inl (fun _ => 0))), (q4, .inl (cA, 13, .inl (fun _ => 0))), (q5, .inl (cA, 13, .inl (fun _ => 0))), (q6, .inl (cA, 13, .inl (fun _ => 0))), (q7, .inl (cA, 13, .inl (fun _ => 0))), (q8, .inl (cA, 13, .inl (fun _ => 0)))] := hD
  refine W.widen (k := 8) (n := 260) (Nat.le_of_ble_eq_true rfl) (Nat.le_of_ble_eq_true rfl) ?_
  refine my_putF (W' := [(h_t, .inr (8, [.int 0, .int 0, .int 0, .int 0, .int 0, .ref q1, .ref q2, .ref q3, .ref q4, .ref q5, .ref q6, .ref q7, .ref q8])), (q1, .inl (cA, 13, .inl (fun _ => 0))), (q2, .inl (cA, 13, .inl (fun _ => 0))), (q3, .inl (cA, 169, .inl (fun _ => 0))), (q4, .inl (cA, 13, .inl (fun _ => 0))), (q5, .inl (cA, 13, .inl (fun _ => 0))), (q6, .inl (cA, 13, .inl (fun _ => 0))), (q7, .inl (cA, 13, .inl (fun _ => 0))), (q8, .inl (cA, 13, .inl (fun _ => 0)))]) (ci := 8) (v := .ref q8) (ty := .array .int) (C := RX9) (T := TX9) (N := 13) hx hb hts uX9 tyX9 tyX9_ok nmX9 hown hK hP hD hS 0 rfl rfl 12 (by decide) k17 (fun _ h9 => h9) rfl hin rfl (by decide +kernel) rfl rfl (Nat.le_of_ble_eq_true rfl) dX9_init_91 rfl (fun H locs hP hD hS => ?_)
  exact W_mono hQ (W.vret hx hb hr (fun t ht hW => ⟨⟨(), rfl, trivial, _, ⟨_, _, _, _, _, _, _, _, rfl⟩, by rw [ht]; exact hP, va_K.moved hW.alike hK, hD⟩, hS.F ht⟩) hS.2.2 dX9_init_94)
def G_Round_init (cA : ClassId) (h_t : Nat) : va_W → Prop := fun w => ∃ q1 q2 q3 : Nat, w = [(h_t, .inr (3, [.int 0, .ref q1, .ref q2, .ref q3])), (q1, .inl (cA, 8, .inl (fun _ => 0))), (q2, .inl (cA, 64, .inl (fun _ => 0))), (q3, .inl (cA, 896, .inl (fun _ => 0)))]
abbrev rmX4_init : Room := { frames := 1, cells := 3, slots := 968, locals := 20 }
theorem uX4_X4_init : ∀ w ∈ wsX40, w ∈ wsX4_init := fun _ h => List.mem_cons_of_mem _ (List.mem_append_right _ (h))
set_option maxHeartbeats 40000000 in
set_option maxRecDepth 100000 in
theorem c_Round_init (l : Launch) (dC : Nat → ClassId) (dI : Nat → Nat → Nat) (cA : ClassId) (h_t sz : Nat) : Met l yX4_init wsX4_init rmX4_init (nPre (dC, dI) cA [.ref h_t] sz [(h_t, .inr (3, [.int 0, .null, .null, .null]))] []) (nPos (dC, dI) cA (va_A [(h_t, .inr (3, [.int 0, .null, .null, .null]))] sz) (G_Round_init cA h_t)) 3 968 (va_A [(h_t, .inr (3, [.int 0, .null, .null, .null]))] sz) := by
  refine Met.ofW (cc := cX4_init) (maxL := 1) (ret := none) (by decide) rfl ?_
  intro p e s m args below meth c s₁ B hml hv
  obtain ⟨rfl, ⟨hsz, hP, hK, hD0⟩, hNS⟩ := hv
  refine W_gen (fun Q hQ => ?_)
  have hx := B.exec
  have hb := B.bytes
  have hr := B.returns
  have hts := atoms_spec (ws := wsX4_init) B.pre
  have hown : s.vm.findClass RX4 = some m.cls := findClass_of_methodNamed B.named
  have hlocks := B.notSynchronized
  have hin : meth.name = "<init>" := (name_of_methodNamed B.named B.method).1
  subst hsz
  have hD := hD0.self (sz := s.heap.size)
  clear hD0
  generalize hAe : va_A [(h_t, .inr (3, [.int 0, .null, .null, .null]))] s.heap.size = A at hD hQ
  have hA : ∀ q : Nat, s.heap.size ≤ q → A q := fun q h => by rw [← hAe]; exact Or.inr h
  clear hAe
  have hS : va_S A s.heap s.heap [] := va_S.rf
  have hl := lv_entry ([.ref h_t]) (n := 1) (Nat.le_of_ble_eq_true rfl)
  rw [lg_entry_eq]
  generalize (lg_sl ([.ref h_t]) ++ List.replicate (1 - (lg_sl ([.ref h_t])).length) Slot.unset).toArray = ls at hl ⊢
  have hl : lv_has ls 1 [(0, .ref h_t)] := hl
  have k1 := hts (.methodLink RX4 3 objectInit) (List.mem_of_getElem? (i := 1) rfl)
  have k2 := hts (.instanceMethod objectInit) (List.mem_of_getElem? (i := 2) rfl)
  have k3 := hts (.code objectInit ⟨#[0xb1]⟩ 1 none) (List.mem_of_getElem? (i := 3) rfl)
  have k4 := hts (.fieldLink RX4 9 "ToneSets$Round" "stops" "I") (List.mem_of_getElem? (i := 4) rfl)
  have k5 := hts (.arrayClass .int) (List.mem_of_getElem? (i := 5) rfl)
  have k6 := hts (.fieldLink RX4 15 "ToneSets$Round" "stopSets" "[I") (List.mem_of_getElem? (i := 6) rfl)
  have k7 := hts (.fieldLink RX4 19 "ToneSets$Round" "lengths" "[I") (List.mem_of_getElem? (i := 7) rfl)
  have k8 := hts (.fieldLink RX4 22 "ToneSets$Round" "best" "[I") (List.mem_of_getElem? (i := 8) rfl)
  have uX4 := uX4_X4_init
  refine lv_aload_n hx hb dX4_init_0 rfl (lv_at hl 0 rfl) ?_
  refine W.objInit hx hb hown k1 k2 k3 rfl (by rw [hml]; exact hl.1) rfl dX4_init_1 (Nat.le_of_ble_eq_true rfl) (Nat.le_of_ble_eq_true rfl) ?_
  refine W.eq (g2 := F0 m 4 ls []) rfl ?_
  refine lv_aload_n hx hb dX4_init_4 rfl (lv_at hl 0 rfl) ?_
  refine lv_iconst (v := 0) hx hb dX4_init_5 (by decide) ?_
  refine my_put (W' := [(h_t, .inr (3, [.int 0, .null, .null, .null]))]) (ci := 3) (v := .int 0) (ty := .int) (C := RX4) (T := TX4) (N := 4) hx hb hts uX4 tyX4 tyX4_ok nmX4 hown hK hP hD hS 0 rfl rfl 0 (by decide) k4 (fun _ h9 => h9) rfl (by decide +kernel) rfl rfl (Nat.le_of_ble_eq_true rfl) dX4_init_6 rfl (fun H locs hP hD hS => ?_)
  refine lv_aload_n hx hb dX4_init_9 rfl (lv_at hl 0 rfl) ?_
  refine lv_bipush (v := 8) hx hb dX4_init_10 (by decide) ?_
  refine my_newa (N' := 8) hx hb k5 hK hP hD hS hA (by decide) rfl (Nat.le_of_ble_eq_true rfl) (Nat.le_of_ble_eq_true rfl) (Nat.le_of_ble_eq_true rfl) dX4_init_12 (fun q1 H hP hD hS => ?_)
  have hP : va_P (dC, dI) vwCl [(h_t, .inr (3, [.int 0, .null, .null, .null])), (q1, .inl (cA, 8, .inl (fun _ => 0)))] H := hP
  have hD : va_D A [(h_t, .inr (3, [.int 0, .null, .null, .null])), (q1, .inl (cA, 8, .inl (fun _ => 0)))] := hD
  refine W.widen (k := 1) (n := 8) (Nat.le_of_ble_eq_true rfl) (Nat.le_of_ble_eq_true rfl) ?_
  refine my_putF (W' := [(h_t, .inr (3, [.int 0, .ref q1, .null, .null])), (q1, .inl (cA, 8, .inl (fun _ => 0)))]) (ci := 3) (v := .ref q1) (ty := .array .int) (C := RX4) (T := TX4) (N := 4) hx hb hts uX4 tyX4 tyX4_ok nmX4 hown hK hP hD hS 0 rfl rfl 1 (by decide) k6 (fun _ h9 => h9) rfl hin rfl (by decide +kernel) rfl rfl (Nat.le_of_ble_eq_true rfl) dX4_init_14 rfl (fun H locs hP hD hS => ?_)
  refine lv_aload_n hx hb dX4_init_17 rfl (lv_at hl 0 rfl) ?_
  refine lv_bipush (v := 64) hx hb dX4_init_18 (by decide) ?_
  refine my_newa (N' := 64) hx hb k5 hK hP hD hS hA (by decide) rfl (Nat.le_of_ble_eq_true rfl) (Nat.le_of_ble_eq_true rfl) (Nat.le_of_ble_eq_true rfl) dX4_init_20 (fun q2 H hP hD hS => ?_)
  have hP : va_P (dC, dI) vwCl [(h_t, .inr (3, [.int 0, .ref q1, .null, .null])), (q1, .inl (cA, 8, .inl (fun _ => 0))), (q2, .inl (cA, 64, .inl (fun _ => 0)))] H := hP
  have hD : va_D A [(h_t, .inr (3, [.int 0, .ref q1, .null, .null])), (q1, .inl (cA, 8, .inl (fun _ => 0))), (q2, .inl (cA, 64, .inl (fun _ => 0)))] := hD
  refine W.widen (k := 2) (n := 72) (Nat.le_of_ble_eq_true rfl) (Nat.le_of_ble_eq_true rfl) ?_
  refine my_putF (W' := [(h_t, .inr (3, [.int 0, .ref q1, .ref q2, .null])), (q1, .inl (cA, 8, .inl (fun _ => 0))), (q2, .inl (cA, 64, .inl (fun _ => 0)))]) (ci := 3) (v := .ref q2) (ty := .array .int) (C := RX4) (T := TX4) (N := 4) hx hb hts uX4 tyX4 tyX4_ok nmX4 hown hK hP hD hS 0 rfl rfl 2 (by decide) k7 (fun _ h9 => h9) rfl hin rfl (by decide +kernel) rfl rfl (Nat.le_of_ble_eq_true rfl) dX4_init_22 rfl (fun H locs hP hD hS => ?_)
  refine lv_aload_n hx hb dX4_init_25 rfl (lv_at hl 0 rfl) ?_
  refine lv_sipush (v := 896) hx hb dX4_init_26 (by decide) ?_
  refine my_newa (N' := 896) hx hb k5 hK hP hD hS hA (by decide) rfl (Nat.le_of_ble_eq_true rfl) (Nat.le_of_ble_eq_true rfl) (Nat.le_of_ble_eq_true rfl) dX4_init_29 (fun q3 H hP hD hS => ?_)
  have hP : va_P (dC, dI) vwCl [(h_t, .inr (3, [.int 0, .ref q1, .ref q2, .null])), (q1, .inl (cA, 8, .inl (fun _ => 0))), (q2, .inl (cA, 64, .inl (fun _ => 0))), (q3, .inl (cA, 896, .inl (fun _ => 0)))] H := hP
  have hD : va_D A [(h_t, .inr (3, [.int 0, .ref q1, .ref q2, .null])), (q1, .inl (cA, 8, .inl (fun _ => 0))), (q2, .inl (cA, 64, .inl (fun _ => 0))), (q3, .inl (cA, 896, .inl (fun _ => 0)))] := hD
  refine W.widen (k := 3) (n := 968) (Nat.le_of_ble_eq_true rfl) (Nat.le_of_ble_eq_true rfl) ?_
  refine my_putF (W' := [(h_t, .inr (3, [.int 0, .ref q1, .ref q2, .ref q3])), (q1, .inl (cA, 8, .inl (fun _ => 0))), (q2, .inl (cA, 64, .inl (fun _ => 0))), (q3, .inl (cA, 896, .inl (fun _ => 0)))]) (ci := 3) (v := .ref q3) (ty := .array .int) (C := RX4) (T := TX4) (N := 4) hx hb hts uX4 tyX4 tyX4_ok nmX4 hown hK hP hD hS 0 rfl rfl 3 (by decide) k8 (fun _ h9 => h9) rfl hin rfl (by decide +kernel) rfl rfl (Nat.le_of_ble_eq_true rfl) dX4_init_31 rfl (fun H locs hP hD hS => ?_)
  exact W_mono hQ (W.vret hx hb hr (fun t ht hW => ⟨⟨(), rfl, trivial, _, ⟨_, _, _, rfl⟩, by rw [ht]; exact hP, va_K.moved hW.alike hK, hD⟩, hS.F ht⟩) hS.2.2 dX4_init_34)
def G_Smooth_init (cA : ClassId) (h_t : Nat) : va_W → Prop := fun w => ∃ q1 q2 q3 q4 q5 : Nat, w = [(h_t, .inr (7, [.int 0, .int (-1), .int 0, .ref q1, .ref q2, .ref q3, .ref q4])), (q1, .inl (cA, 924, .inl (fun _ => 0))), (q2, .inl (cA, 924, .inl (fun _ => 0))), (q3, .inl (cA, 16, .inl (fun _ => 0))), (q4, .inr (5, [.ref q5])), (q5, .inl (cA, 128, .inl (fun _ => 0)))]
abbrev rmX8_init : Room := { frames := 2, cells := 5, slots := 1993, locals := 40 }
theorem uX6_X8_init : ∀ w ∈ wsX60, w ∈ wsX8_init := fun _ h => List.mem_cons_of_mem _ (List.mem_append_right _ (h))
theorem uX8_X8_init : ∀ w ∈ wsX80, w ∈ wsX8_init := fun _ h => List.mem_cons_of_mem _ (List.mem_append_left _ (List.mem_append_right _ (h)))
set_option maxHeartbeats 40000000 in
set_option maxRecDepth 100000 in
theorem c_Smooth_init (l : Launch) (dC : Nat → ClassId) (dI : Nat → Nat → Nat) (cA : ClassId) (h_t sz : Nat) : Met l yX8_init wsX8_init rmX8_init (nPre (dC, dI) cA [.ref h_t] sz [(h_t, .inr (7, [.int 0, .int 0, .int 0, .null, .null, .null, .null]))] [("ToneSets$Smooth", 33, yX6_init, "ToneSets")]) (nPos (dC, dI) cA (va_A [(h_t, .inr (7, [.int 0, .int 0, .int 0, .null, .null, .null, .null]))] sz) (G_Smooth_init cA h_t)) 5 1993 (va_A [(h_t, .inr (7, [.int 0, .int 0, .int 0, .null, .null, .null, .null]))] sz) := by
  refine Met.ofW (cc := cX8_init) (maxL := 1) (ret := none) (by decide) rfl ?_
  intro p e s m args below meth c s₁ B hml hv
  obtain ⟨rfl, ⟨hsz, hP, hK, hD0⟩, hNS⟩ := hv
  refine W_gen (fun Q hQ => ?_)
  have hx := B.exec
  have hb := B.bytes
  have hr := B.returns
  have hts := atoms_spec (ws := wsX8_init) B.pre
  have hown : s.vm.findClass RX8 = some m.cls := findClass_of_methodNamed B.named
  have hlocks := B.notSynchronized
  have hin : meth.name = "<init>" := (name_of_methodNamed B.named B.method).1
  subst hsz
  have hD := hD0.self (sz := s.heap.size)
  clear hD0
  generalize hAe : va_A [(h_t, .inr (7, [.int 0, .int 0, .int 0, .null, .null, .null, .null]))] s.heap.size = A at hD hQ
  have hA : ∀ q : Nat, s.heap.size ≤ q → A q := fun q h => by rw [← hAe]; exact Or.inr h
  clear hAe
  have hS : va_S A s.heap s.heap [] := va_S.rf
  have hl := lv_entry ([.ref h_t]) (n := 1) (Nat.le_of_ble_eq_true rfl)
  rw [lg_entry_eq]
  generalize (lg_sl ([.ref h_t]) ++ List.replicate (1 - (lg_sl ([.ref h_t])).length) Slot.unset).toArray = ls at hl ⊢
  have hl : lv_has ls 1 [(0, .ref h_t)] := hl
  have k1 := hts (.methodLink RX8 5 objectInit) (List.mem_of_getElem? (i := 1) rfl)
  have k2 := hts (.instanceMethod objectInit) (List.mem_of_getElem? (i := 2) rfl)
  have k3 := hts (.code objectInit ⟨#[0xb1]⟩ 1 none) (List.mem_of_getElem? (i := 3) rfl)
  have k4 := hts (.fieldLink RX8 11 "ToneSets$Smooth" "cost" "I") (List.mem_of_getElem? (i := 4) rfl)
  have k5 := hts (.fieldLink RX8 15 "ToneSets$Smooth" "next" "I") (List.mem_of_getElem? (i := 5) rfl)
  have k6 := hts (.fieldLink RX8 18 "ToneSets$Smooth" "met" "I") (List.mem_of_getElem? (i := 6) rfl)
  have k7 := hts (.arrayClass .int) (List.mem_of_getElem? (i := 7) rfl)
  have k8 := hts (.fieldLink RX8 21 "ToneSets$Smooth" "sets" "[I") (List.mem_of_getElem? (i := 8) rfl)
  have k9 := hts (.fieldLink RX8 25 "ToneSets$Smooth" "links" "[I") (List.mem_of_getElem? (i := 9) rfl)
  have k10 := hts (.fieldLink RX8 28 "ToneSets$Smooth" "heads" "[I") (List.mem_of_getElem? (i := 10) rfl)
  have k11 := hts (.classLink RX8 31 RX6) (List.mem_of_getElem? (i := 11) rfl)
  have k12 := hts (.instantiable RX6 1) (List.mem_of_getElem? (i := 12) rfl)
  have k13 := hts (.initialized RX6) (List.mem_of_getElem? (i := 13) rfl)
  have k15 := hts (.instanceMethod yX6_init) (List.mem_of_getElem? (i := 15) rfl)
  have k14 := hts (.fieldLink RX8 34 "ToneSets$Smooth" "seen" "LToneSets$Seen;") (List.mem_of_getElem? (i := 14) rfl)
  have uX8 := uX8_X8_init
  have uX6 := uX6_X8_init
  refine lv_aload_n hx hb dX8_init_0 rfl (lv_at hl 0 rfl) ?_
  refine W.objInit hx hb hown k1 k2 k3 rfl (by rw [hml]; exact hl.1) rfl dX8_init_1 (Nat.le_of_ble_eq_true rfl) (Nat.le_of_ble_eq_true rfl) ?_
  refine W.eq (g2 := F0 m 4 ls []) rfl ?_
  refine lv_aload_n hx hb dX8_init_4 rfl (lv_at hl 0 rfl) ?_
  refine lv_iconst (v := 0) hx hb dX8_init_5 (by decide) ?_
  refine my_put (W' := [(h_t, .inr (7, [.int 0, .int 0, .int 0, .null, .null, .null, .null]))]) (ci := 7) (v := .int 0) (ty := .int) (C := RX8) (T := TX8) (N := 7) hx hb hts uX8 tyX8 tyX8_ok nmX8 hown hK hP hD hS 0 rfl rfl 0 (by decide) k4 (fun _ h9 => h9) rfl (by decide +kernel) rfl rfl (Nat.le_of_ble_eq_true rfl) dX8_init_6 rfl (fun H locs hP hD hS => ?_)
  refine lv_aload_n hx hb dX8_init_9 rfl (lv_at hl 0 rfl) ?_
  refine lv_iconst (v := (-1)) hx hb dX8_init_10 (by decide) ?_
  refine my_put (W' := [(h_t, .inr (7, [.int 0, .int (-1), .int 0, .null, .null, .null, .null]))]) (ci := 7) (v := .int (-1)) (ty := .int) (C := RX8) (T := TX8) (N := 7) hx hb hts uX8 tyX8 tyX8_ok nmX8 hown hK hP hD hS 0 rfl rfl 1 (by decide) k5 (fun _ h9 => h9) rfl (by decide +kernel) rfl rfl (Nat.le_of_ble_eq_true rfl) dX8_init_11 rfl (fun H locs hP hD hS => ?_)
  refine lv_aload_n hx hb dX8_init_14 rfl (lv_at hl 0 rfl) ?_
  refine lv_iconst (v := 0) hx hb dX8_init_15 (by decide) ?_
  refine my_put (W' := [(h_t, .inr (7, [.int 0, .int (-1), .int 0, .null, .null, .null, .null]))]) (ci := 7) (v := .int 0) (ty := .int) (C := RX8) (T := TX8) (N := 7) hx hb hts uX8 tyX8 tyX8_ok nmX8 hown hK hP hD hS 0 rfl rfl 2 (by decide) k6 (fun _ h9 => h9) rfl (by decide +kernel) rfl rfl (Nat.le_of_ble_eq_true rfl) dX8_init_16 rfl (fun H locs hP hD hS => ?_)
  refine lv_aload_n hx hb dX8_init_19 rfl (lv_at hl 0 rfl) ?_
  refine lv_sipush (v := 924) hx hb dX8_init_20 (by decide) ?_
  refine my_newa (N' := 924) hx hb k7 hK hP hD hS hA (by decide) rfl (Nat.le_of_ble_eq_true rfl) (Nat.le_of_ble_eq_true rfl) (Nat.le_of_ble_eq_true rfl) dX8_init_23 (fun q1 H hP hD hS => ?_)
  have hP : va_P (dC, dI) vwCl [(h_t, .inr (7, [.int 0, .int (-1), .int 0, .null, .null, .null, .null])), (q1, .inl (cA, 924, .inl (fun _ => 0)))] H := hP
  have hD : va_D A [(h_t, .inr (7, [.int 0, .int (-1), .int 0, .null, .null, .null, .null])), (q1, .inl (cA, 924, .inl (fun _ => 0)))] := hD
  refine W.widen (k := 1) (n := 924) (Nat.le_of_ble_eq_true rfl) (Nat.le_of_ble_eq_true rfl) ?_
  refine my_putF (W' := [(h_t, .inr (7, [.int 0, .int (-1), .int 0, .ref q1, .null, .null, .null])), (q1, .inl (cA, 924, .inl (fun _ => 0)))]) (ci := 7) (v := .ref q1) (ty := .array .int) (C := RX8) (T := TX8) (N := 7) hx hb hts uX8 tyX8 tyX8_ok nmX8 hown hK hP hD hS 0 rfl rfl 3 (by decide) k8 (fun _ h9 => h9) rfl hin rfl (by decide +kernel) rfl rfl (Nat.le_of_ble_eq_true rfl) dX8_init_25 rfl (fun H locs hP hD hS => ?_)
  refine lv_aload_n hx hb dX8_init_28 rfl (lv_at hl 0 rfl) ?_
  refine lv_sipush (v := 924) hx hb dX8_init_29 (by decide) ?_
  refine my_newa (N' := 924) hx hb k7 hK hP hD hS hA (by decide) rfl (Nat.le_of_ble_eq_true rfl) (Nat.le_of_ble_eq_true rfl) (Nat.le_of_ble_eq_true rfl) dX8_init_32 (fun q2 H hP hD hS => ?_)
  have hP : va_P (dC, dI) vwCl [(h_t, .inr (7, [.int 0, .int (-1), .int 0, .ref q1, .null, .null, .null])), (q1, .inl (cA, 924, .inl (fun _ => 0))), (q2, .inl (cA, 924, .inl (fun _ => 0)))] H := hP
  have hD : va_D A [(h_t, .inr (7, [.int 0, .int (-1), .int 0, .ref q1, .null, .null, .null])), (q1, .inl (cA, 924, .inl (fun _ => 0))), (q2, .inl (cA, 924, .inl (fun _ => 0)))] := hD
  refine W.widen (k := 2) (n := 1848) (Nat.le_of_ble_eq_true rfl) (Nat.le_of_ble_eq_true rfl) ?_
  refine my_putF (W' := [(h_t, .inr (7, [.int 0, .int (-1), .int 0, .ref q1, .ref q2, .null, .null])), (q1, .inl (cA, 924, .inl (fun _ => 0))), (q2, .inl (cA, 924, .inl (fun _ => 0)))]) (ci := 7) (v := .ref q2) (ty := .array .int) (C := RX8) (T := TX8) (N := 7) hx hb hts uX8 tyX8 tyX8_ok nmX8 hown hK hP hD hS 0 rfl rfl 4 (by decide) k9 (fun _ h9 => h9) rfl hin rfl (by decide +kernel) rfl rfl (Nat.le_of_ble_eq_true rfl) dX8_init_34 rfl (fun H locs hP hD hS => ?_)
  refine lv_aload_n hx hb dX8_init_37 rfl (lv_at hl 0 rfl) ?_
  refine lv_bipush (v := 16) hx hb dX8_init_38 (by decide) ?_
  refine my_newa (N' := 16) hx hb k7 hK hP hD hS hA (by decide) rfl (Nat.le_of_ble_eq_true rfl) (Nat.le_of_ble_eq_true rfl) (Nat.le_of_ble_eq_true rfl) dX8_init_40 (fun q3 H hP hD hS => ?_)
  have hP : va_P (dC, dI) vwCl [(h_t, .inr (7, [.int 0, .int (-1), .int 0, .ref q1, .ref q2, .null, .null])), (q1, .inl (cA, 924, .inl (fun _ => 0))), (q2, .inl (cA, 924, .inl (fun _ => 0))), (q3, .inl (cA, 16, .inl (fun _ => 0)))] H := hP
  have hD : va_D A [(h_t, .inr (7, [.int 0, .int (-1), .int 0, .ref q1, .ref q2, .null, .null])), (q1, .inl (cA, 924, .inl (fun _ => 0))), (q2, .inl (cA, 924, .inl (fun _ => 0))), (q3, .inl (cA, 16, .inl (fun _ => 0)))] := hD
  refine W.widen (k := 3) (n := 1864) (Nat.le_of_ble_eq_true rfl) (Nat.le_of_ble_eq_true rfl) ?_
  refine my_putF (W' := [(h_t, .inr (7, [.int 0, .int (-1), .int 0, .ref q1, .ref q2, .ref q3, .null])), (q1, .inl (cA, 924, .inl (fun _ => 0))), (q2, .inl (cA, 924, .inl (fun _ => 0))), (q3, .inl (cA, 16, .inl (fun _ => 0)))]) (ci := 7) (v := .ref q3) (ty := .array .int) (C := RX8) (T := TX8) (N := 7) hx hb hts uX8 tyX8 tyX8_ok nmX8 hown hK hP hD hS 0 rfl rfl 5 (by decide) k10 (fun _ h9 => h9) rfl hin rfl (by decide +kernel) rfl rfl (Nat.le_of_ble_eq_true rfl) dX8_init_42 rfl (fun H locs hP hD hS => ?_)
  refine lv_aload_n hx hb dX8_init_45 rfl (lv_at hl 0 rfl) ?_
  refine va_new (ci := 5) (fs := [.null]) (C := RX6) (T := TX6) (N := 1) hx hb hts uX6 tyX6 tyX6_ok hown k11 k12 k13 hK hP hD hS hA rfl (fun j hj => by rcases (show j = 0 by omega) with rfl <;> rfl) (Nat.le_of_ble_eq_true rfl) (Nat.le_of_ble_eq_true rfl) dX8_init_46 (fun q4 H hP hD hS => ?_)
  have hP : va_P (dC, dI) vwCl [(h_t, .inr (7, [.int 0, .int (-1), .int 0, .ref q1, .ref q2, .ref q3, .null])), (q1, .inl (cA, 924, .inl (fun _ => 0))), (q2, .inl (cA, 924, .inl (fun _ => 0))), (q3, .inl (cA, 16, .inl (fun _ => 0))), (q4, .inr (5, [.null]))] H := hP
  have hD : va_D A [(h_t, .inr (7, [.int 0, .int (-1), .int 0, .ref q1, .ref q2, .ref q3, .null])), (q1, .inl (cA, 924, .inl (fun _ => 0))), (q2, .inl (cA, 924, .inl (fun _ => 0))), (q3, .inl (cA, 16, .inl (fun _ => 0))), (q4, .inr (5, [.null]))] := hD
  refine W.widen (k := 4) (n := 1865) (Nat.le_of_ble_eq_true rfl) (Nat.le_of_ble_eq_true rfl) ?_
  refine lv_dup hx hb dX8_init_49 rfl ?_
  refine my_cIN (As := []) (rest := [.ref q4, .ref h_t]) (WC := [(q4, .inr (5, [.null]))]) (WR := [(h_t, .inr (7, [.int 0, .int (-1), .int 0, .ref q1, .ref q2, .ref q3, .null])), (q1, .inl (cA, 924, .inl (fun _ => 0))), (q2, .inl (cA, 924, .inl (fun _ => 0))), (q3, .inl (cA, 16, .inl (fun _ => 0)))]) (NS := []) ⟨hx, hb, hml, hown, hts⟩ hK hP hD hS hA (fun sz => c_Seen_init l dC dI cA q4 sz) ⟨va_cnB 0 hts gX8_init_X6_init_n33 rfl rfl rfl (hNS _ (List.mem_of_getElem? (i := 0) rfl)) k13 (by decide +kernel) ⟨Nat.le_of_ble_eq_true rfl, Nat.le_of_ble_eq_true rfl⟩, rfl, k15⟩ (fun q hq => absurd hq List.not_mem_nil) [4] [0, 1, 2, 3] rfl rfl rfl rfl rfl hl.1 (Nat.le_of_ble_eq_true rfl) dX8_init_50 ⟨Nat.le_of_ble_eq_true rfl, Nat.le_of_ble_eq_true rfl⟩ (fun w1 hG H locs hP hD hS => ?_)
  obtain ⟨q5, rfl⟩ := hG
  have hP : va_P (dC, dI) vwCl [(h_t, .inr (7, [.int 0, .int (-1), .int 0, .ref q1, .ref q2, .ref q3, .null])), (q1, .inl (cA, 924, .inl (fun _ => 0))), (q2, .inl (cA, 924, .inl (fun _ => 0))), (q3, .inl (cA, 16, .inl (fun _ => 0))), (q4, .inr (5, [.ref q5])), (q5, .inl (cA, 128, .inl (fun _ => 0)))] H := hP
  have hD : va_D A [(h_t, .inr (7, [.int 0, .int (-1), .int 0, .ref q1, .ref q2, .ref q3, .null])), (q1, .inl (cA, 924, .inl (fun _ => 0))), (q2, .inl (cA, 924, .inl (fun _ => 0))), (q3, .inl (cA, 16, .inl (fun _ => 0))), (q4, .inr (5, [.ref q5])), (q5, .inl (cA, 128, .inl (fun _ => 0)))] := hD
  refine W.widen (k := 5) (n := 1993) (Nat.le_of_ble_eq_true rfl) (Nat.le_of_ble_eq_true rfl) ?_
  refine my_putF (W' := [(h_t, .inr (7, [.int 0, .int (-1), .int 0, .ref q1, .ref q2, .ref q3, .ref q4])), (q1, .inl (cA, 924, .inl (fun _ => 0))), (q2, .inl (cA, 924, .inl (fun _ => 0))), (q3, .inl (cA, 16, .inl (fun _ => 0))), (q4, .inr (5, [.ref q5])), (q5, .inl (cA, 128, .inl (fun _ => 0)))]) (ci := 7) (v := .ref q4) (ty := .object "ToneSets$Seen") (C := RX8) (T := TX8) (N := 7) hx hb hts uX8 tyX8 tyX8_ok nmX8 hown hK hP hD hS 0 rfl rfl 6 (by decide) k14 (fun _ h9 => h9) rfl hin rfl (by decide +kernel) rfl rfl (Nat.le_of_ble_eq_true rfl) dX8_init_53 rfl (fun H locs hP hD hS => ?_)
  exact W_mono hQ (W.vret hx hb hr (fun t ht hW => ⟨⟨(), rfl, trivial, _, ⟨_, _, _, _, _, rfl⟩, by rw [ht]; exact hP, va_K.moved hW.alike hK, hD⟩, hS.F ht⟩) hS.2.2 dX8_init_56)
def G_Tn_init (cA : ClassId) (h_t : Nat) : va_W → Prop := fun w => ∃ q1 q2 q3 q4 q5 q6 q7 q8 q9 q10 q11 q12 q13 q14 q15 q16 q17 q18 q19 q20 q21 q22 q23 q24 q25 q26 q27 q28 q29 q30 q31 q32 q33 q34 q35 q36 : Nat, w = [(h_t, .inr (9, [.ref q1, .ref q3, .ref q6, .ref q8, .ref q11, .ref q18, .ref q27, .ref q31])), (q1, .inr (6, [.int 12, .int 0, .int 0, .ref q2])), (q2, .inl (cA, 8, .inl (fun _ => 0))), (q3, .inr (2, [.int 0, .int 0, .ref q4])), (q4, .inr (4, [.int 16, .ref q5])), (q5, .inl (cA, 176, .inl (fun _ => 0))), (q6, .inr (4, [.int 2, .ref q7])), (q7, .inl (cA, 22, .inl (fun _ => 0))), (q8, .inr (0, [.int 0, .ref q9, .ref q10])), (q9, .inl (cA, 20, .inl (fun _ => 0))), (q10, .inl (cA, 20, .inl (fun _ => 0))), (q11, .inr (1, [.int 0, .int 0, .ref q12, .ref q13, .ref q14, .ref q15, .ref q16])), (q12, .inl (cA, 224, .inl (fun _ => 0))), (q13, .inl (cA, 224, .inl (fun _ => 0))), (q14, .inl (cA, 224, .inl (fun _ => 0))), (q15, .inl (cA, 14, .inl (fun _ => 0))), (q16, .inr (5, [.ref q17])), (q17, .inl (cA, 128, .inl (fun _ => 0))), (q18, .inr (8, [.int 0, .int 0, .int 0, .int 0, .int 0, .ref q19, .ref q20, .ref q21, .ref q22, .ref q23, .ref q24, .ref q25, .ref q26])), (q19, .inl (cA, 13, .inl (fun _ => 0))), (q20, .inl (cA, 13, .inl (fun _ => 0))), (q21, .inl (cA, 169, .inl (fun _ => 0))), (q22, .inl (cA, 13, .inl (fun _ => 0))), (q23, .inl (cA, 13, .inl (fun _ => 0))), (q24, .inl (cA, 13, .inl (fun _ => 0))), (q25, .inl (cA, 13, .inl (fun _ => 0))), (q26, .inl (cA, 13, .inl (fun _ => 0))), (q27, .inr (3, [.int 0, .ref q28, .ref q29, .ref q30])), (q28, .inl (cA, 8, .inl (fun _ => 0))), (q29, .inl (cA, 64, .inl (fun _ => 0))), (q30, .inl (cA, 896, .inl (fun _ => 0))), (q31, .inr (7, [.int 0, .int (-1), .int 0, .ref q32, .ref q33, .ref q34, .ref q35])), (q32, .inl (cA, 924, .inl (fun _ => 0))), (q33, .inl (cA, 924, .inl (fun _ => 0))), (q34, .inl (cA, 16, .inl (fun _ => 0))), (q35, .inr (5, [.ref q36])), (q36, .inl (cA, 128, .inl (fun _ => 0)))]
abbrev rmX10_init : Room := { frames := 3, cells := 36, slots := 4327, locals := 62 }
theorem uX0_X10_init : ∀ w ∈ wsX00, w ∈ wsX10_init := fun _ h => List.mem_cons_of_mem _ (List.mem_append_left _ (List.mem_append_left _ (List.mem_append_left _ (List.mem_append_left _ (List.mem_append_left _ (List.mem_append_right _ (h)))))))
theorem uX1_X10_init : ∀ w ∈ wsX10, w ∈ wsX10_init := fun _ h => List.mem_cons_of_mem _ (List.mem_append_left _ (List.mem_append_left _ (List.mem_append_left _ (List.mem_append_left _ (List.mem_append_right _ (h))))))
theorem uX10_X10_init : ∀ w ∈ wsX100, w ∈ wsX10_init := fun _ h => List.mem_cons_of_mem _ (List.mem_append_left _ (List.mem_append_left _ (List.mem_append_left _ (List.mem_append_left _ (List.mem_append_left _ (List.mem_append_left _ (List.mem_append_left _ (List.mem_append_left _ (List.mem_append_right _ (h))))))))))
theorem uX2_X10_init : ∀ w ∈ wsX20, w ∈ wsX10_init := fun _ h => List.mem_cons_of_mem _ (List.mem_append_left _ (List.mem_append_left _ (List.mem_append_left _ (List.mem_append_left _ (List.mem_append_left _ (List.mem_append_left _ (List.mem_append_left _ (List.mem_append_right _ (h)))))))))
theorem uX4_X10_init : ∀ w ∈ wsX40, w ∈ wsX10_init := fun _ h => List.mem_cons_of_mem _ (List.mem_append_left _ (List.mem_append_left _ (List.mem_append_right _ (h))))
theorem uX5_X10_init : ∀ w ∈ wsX50, w ∈ wsX10_init := fun _ h => List.mem_cons_of_mem _ (List.mem_append_left _ (List.mem_append_left _ (List.mem_append_left _ (List.mem_append_left _ (List.mem_append_left _ (List.mem_append_left _ (List.mem_append_right _ (h))))))))
theorem uX7_X10_init : ∀ w ∈ wsX70, w ∈ wsX10_init := fun _ h => List.mem_cons_of_mem _ (List.mem_append_left _ (List.mem_append_left _ (List.mem_append_left _ (List.mem_append_left _ (List.mem_append_left _ (List.mem_append_left _ (List.mem_append_left _ (List.mem_append_left _ (List.mem_append_left _ (List.mem_append_right _ (h)))))))))))
theorem uX8_X10_init : ∀ w ∈ wsX80, w ∈ wsX10_init := fun _ h => List.mem_cons_of_mem _ (List.mem_append_left _ (List.mem_append_right _ (h)))
theorem uX9_X10_init : ∀ w ∈ wsX90, w ∈ wsX10_init := fun _ h => List.mem_cons_of_mem _ (List.mem_append_left _ (List.mem_append_left _ (List.mem_append_left _ (List.mem_append_right _ (h)))))
set_option maxHeartbeats 40000000 in
set_option maxRecDepth 100000 in
theorem c_Tn_init (l : Launch) (dC : Nat → ClassId) (dI : Nat → Nat → Nat) (cA : ClassId) (h_t sz : Nat) : Met l yX10_init wsX10_init rmX10_init (nPre (dC, dI) cA [.ref h_t] sz [(h_t, .inr (9, [.null, .null, .null, .null, .null, .null, .null, .null]))] [("ToneSets", 9, yX7_init, "ToneSets"), ("ToneSets", 18, yX2_init, "ToneSets"), ("ToneSets", 34, yX0_init, "ToneSets"), ("ToneSets", 41, yX1_init, "ToneSets"), ("ToneSets", 48, yX9_init, "ToneSets"), ("ToneSets", 55, yX4_init, "ToneSets"), ("ToneSets", 62, yX8_init, "ToneSets"), ("ToneSets$Forms", 33, yX6_init, "ToneSets"), ("ToneSets$Smooth", 33, yX6_init, "ToneSets")]) (nPos (dC, dI) cA (va_A [(h_t, .inr (9, [.null, .null, .null, .null, .null, .null, .null, .null]))] sz) (G_Tn_init cA h_t)) 36 4327 (va_A [(h_t, .inr (9, [.null, .null, .null, .null, .null, .null, .null, .null]))] sz) := by
  refine Met.ofW (cc := cX10_init) (maxL := 1) (ret := none) (by decide) rfl ?_
  intro p e s m args below meth c s₁ B hml hv
  obtain ⟨rfl, ⟨hsz, hP, hK, hD0⟩, hNS⟩ := hv
  refine W_gen (fun Q hQ => ?_)
  have hx := B.exec
  have hb := B.bytes
  have hr := B.returns
  have hts := atoms_spec (ws := wsX10_init) B.pre
  have hown : s.vm.findClass RX10 = some m.cls := findClass_of_methodNamed B.named
  have hlocks := B.notSynchronized
  have hin : meth.name = "<init>" := (name_of_methodNamed B.named B.method).1
  subst hsz
  have hD := hD0.self (sz := s.heap.size)
  clear hD0
  generalize hAe : va_A [(h_t, .inr (9, [.null, .null, .null, .null, .null, .null, .null, .null]))] s.heap.size = A at hD hQ
  have hA : ∀ q : Nat, s.heap.size ≤ q → A q := fun q h => by rw [← hAe]; exact Or.inr h
  clear hAe
  have hS : va_S A s.heap s.heap [] := va_S.rf
  have hl := lv_entry ([.ref h_t]) (n := 1) (Nat.le_of_ble_eq_true rfl)
  rw [lg_entry_eq]
  generalize (lg_sl ([.ref h_t]) ++ List.replicate (1 - (lg_sl ([.ref h_t])).length) Slot.unset).toArray = ls at hl ⊢
  have hl : lv_has ls 1 [(0, .ref h_t)] := hl
  have k1 := hts (.methodLink RX10 1 objectInit) (List.mem_of_getElem? (i := 1) rfl)
  have k2 := hts (.instanceMethod objectInit) (List.mem_of_getElem? (i := 2) rfl)
  have k3 := hts (.code objectInit ⟨#[0xb1]⟩ 1 none) (List.mem_of_getElem? (i := 3) rfl)
  have k4 := hts (.classLink RX10 7 RX7) (List.mem_of_getElem? (i := 4) rfl)
  have k5 := hts (.instantiable RX7 4) (List.mem_of_getElem? (i := 5) rfl)
  have k6 := hts (.initialized RX7) (List.mem_of_getElem? (i := 6) rfl)
  have k36 := hts (.instanceMethod yX7_init) (List.mem_of_getElem? (i := 36) rfl)
  have k7 := hts (.fieldLink RX10 10 "ToneSets" "shelf" "LToneSets$Shelf;") (List.mem_of_getElem? (i := 7) rfl)
  have k8 := hts (.classLink RX10 16 RX2) (List.mem_of_getElem? (i := 8) rfl)
  have k9 := hts (.instantiable RX2 3) (List.mem_of_getElem? (i := 9) rfl)
  have k10 := hts (.initialized RX2) (List.mem_of_getElem? (i := 10) rfl)
  have k44 := hts (.instanceMethod yX2_init) (List.mem_of_getElem? (i := 44) rfl)
  have k11 := hts (.fieldLink RX10 19 "ToneSets" "past" "LToneSets$Past;") (List.mem_of_getElem? (i := 11) rfl)
  have k12 := hts (.classLink RX10 23 RX5) (List.mem_of_getElem? (i := 12) rfl)
  have k13 := hts (.instantiable RX5 2) (List.mem_of_getElem? (i := 13) rfl)
  have k14 := hts (.initialized RX5) (List.mem_of_getElem? (i := 14) rfl)
  have k52 := hts (.instanceMethod yX5_init) (List.mem_of_getElem? (i := 52) rfl)
  have k64 := hts (.methodLink RX10 25 yX5_init) (List.mem_of_getElem? (i := 64) rfl)
  have k15 := hts (.fieldLink RX10 28 "ToneSets" "images" "LToneSets$Rows;") (List.mem_of_getElem? (i := 15) rfl)
  have k16 := hts (.classLink RX10 32 RX0) (List.mem_of_getElem? (i := 16) rfl)
  have k17 := hts (.instantiable RX0 3) (List.mem_of_getElem? (i := 17) rfl)
  have k18 := hts (.initialized RX0) (List.mem_of_getElem? (i := 18) rfl)
  have k65 := hts (.instanceMethod yX0_init) (List.mem_of_getElem? (i := 65) rfl)
  have k19 := hts (.fieldLink RX10 35 "ToneSets" "book" "LToneSets$Book;") (List.mem_of_getElem? (i := 19) rfl)
  have k20 := hts (.classLink RX10 39 RX1) (List.mem_of_getElem? (i := 20) rfl)
  have k21 := hts (.instantiable RX1 7) (List.mem_of_getElem? (i := 21) rfl)
  have k22 := hts (.initialized RX1) (List.mem_of_getElem? (i := 22) rfl)
  have k71 := hts (.instanceMethod yX1_init) (List.mem_of_getElem? (i := 71) rfl)
  have k23 := hts (.fieldLink RX10 42 "ToneSets" "formList" "LToneSets$Forms;") (List.mem_of_getElem? (i := 23) rfl)
  have k24 := hts (.classLink RX10 46 RX9) (List.mem_of_getElem? (i := 24) rfl)
  have k25 := hts (.instantiable RX9 13) (List.mem_of_getElem? (i := 25) rfl)
  have k26 := hts (.initialized RX9) (List.mem_of_getElem? (i := 26) rfl)
  have k88 := hts (.instanceMethod yX9_init) (List.mem_of_getElem? (i := 88) rfl)
  have k27 := hts (.fieldLink RX10 49 "ToneSets" "ways" "LToneSets$Ways;") (List.mem_of_getElem? (i := 27) rfl)
  have k28 := hts (.classLink RX10 53 RX4) (List.mem_of_getElem? (i := 28) rfl)
  have k29 := hts (.instantiable RX4 4) (List.mem_of_getElem? (i := 29) rfl)
  have k30 := hts (.initialized RX4) (List.mem_of_getElem? (i := 30) rfl)
  have k104 := hts (.instanceMethod yX4_init) (List.mem_of_getElem? (i := 104) rfl)
  have k31 := hts (.fieldLink RX10 56 "ToneSets" "round" "LToneSets$Round;") (List.mem_of_getElem? (i := 31) rfl)
  have k32 := hts (.classLink RX10 60 RX8) (List.mem_of_getElem? (i := 32) rfl)
  have k33 := hts (.instantiable RX8 7) (List.mem_of_getElem? (i := 33) rfl)
  have k34 := hts (.initialized RX8) (List.mem_of_getElem? (i := 34) rfl)
  have k111 := hts (.instanceMethod yX8_init) (List.mem_of_getElem? (i := 111) rfl)
  have k35 := hts (.fieldLink RX10 63 "ToneSets" "smooth" "LToneSets$Smooth;") (List.mem_of_getElem? (i := 35) rfl)
  have uX7 := uX7_X10_init
  have uX10 := uX10_X10_init
  have uX2 := uX2_X10_init
  have uX5 := uX5_X10_init
  have uX0 := uX0_X10_init
  have uX1 := uX1_X10_init
  have uX9 := uX9_X10_init
  have uX4 := uX4_X10_init
  have uX8 := uX8_X10_init
  refine lv_aload_n hx hb dX10_init_0 rfl (lv_at hl 0 rfl) ?_
  refine W.objInit hx hb hown k1 k2 k3 rfl (by rw [hml]; exact hl.1) rfl dX10_init_1 (Nat.le_of_ble_eq_true rfl) (Nat.le_of_ble_eq_true rfl) ?_
  refine W.eq (g2 := F0 m 4 ls []) rfl ?_
  refine lv_aload_n hx hb dX10_init_4 rfl (lv_at hl 0 rfl) ?_
  refine va_new (ci := 6) (fs := [.int 0, .int 0, .int 0, .null]) (C := RX7) (T := TX7) (N := 4) hx hb hts uX7 tyX7 tyX7_ok hown k4 k5 k6 hK hP hD hS hA rfl (fun j hj => by rcases (show j = 0 ∨ j = 1 ∨ j = 2 ∨ j = 3 by omega) with rfl | rfl | rfl | rfl <;> rfl) (Nat.le_of_ble_eq_true rfl) (Nat.le_of_ble_eq_true rfl) dX10_init_5 (fun q1 H hP hD hS => ?_)
  have hP : va_P (dC, dI) vwCl [(h_t, .inr (9, [.null, .null, .null, .null, .null, .null, .null, .null])), (q1, .inr (6, [.int 0, .int 0, .int 0, .null]))] H := hP
  have hD : va_D A [(h_t, .inr (9, [.null, .null, .null, .null, .null, .null, .null, .null])), (q1, .inr (6, [.int 0, .int 0, .int 0, .null]))] := hD
  refine W.widen (k := 1) (n := 4) (Nat.le_of_ble_eq_true rfl) (Nat.le_of_ble_eq_true rfl) ?_
  refine lv_dup hx hb dX10_init_8 rfl ?_
  refine my_cIN (As := []) (rest := [.ref q1, .ref h_t]) (WC := [(q1, .inr (6, [.int 0, .int 0, .int 0, .null]))]) (WR := [(h_t, .inr (9, [.null, .null, .null, .null, .null, .null, .null, .null]))]) (NS := []) ⟨hx, hb, hml, hown, hts⟩ hK hP hD hS hA (fun sz => c_Shelf_init l dC dI cA q1 sz) ⟨va_cnB 0 hts gX10_init_X7_init_n9 rfl rfl rfl (hNS _ (List.mem_of_getElem? (i := 0) rfl)) k6 (by decide +kernel) ⟨Nat.le_of_ble_eq_true rfl, Nat.le_of_ble_eq_true rfl⟩, rfl, k36⟩ (fun q hq => absurd hq List.not_mem_nil) [1] [0] rfl rfl rfl rfl rfl hl.1 (Nat.le_of_ble_eq_true rfl) dX10_init_9 ⟨Nat.le_of_ble_eq_true rfl, Nat.le_of_ble_eq_true rfl⟩ (fun w1 hG H locs hP hD hS => ?_)
  obtain ⟨q2, rfl⟩ := hG
  have hP : va_P (dC, dI) vwCl [(h_t, .inr (9, [.null, .null, .null, .null, .null, .null, .null, .null])), (q1, .inr (6, [.int 12, .int 0, .int 0, .ref q2])), (q2, .inl (cA, 8, .inl (fun _ => 0)))] H := hP
  have hD : va_D A [(h_t, .inr (9, [.null, .null, .null, .null, .null, .null, .null, .null])), (q1, .inr (6, [.int 12, .int 0, .int 0, .ref q2])), (q2, .inl (cA, 8, .inl (fun _ => 0)))] := hD
  refine W.widen (k := 2) (n := 12) (Nat.le_of_ble_eq_true rfl) (Nat.le_of_ble_eq_true rfl) ?_
  refine my_putF (W' := [(h_t, .inr (9, [.ref q1, .null, .null, .null, .null, .null, .null, .null])), (q1, .inr (6, [.int 12, .int 0, .int 0, .ref q2])), (q2, .inl (cA, 8, .inl (fun _ => 0)))]) (ci := 9) (v := .ref q1) (ty := .object "ToneSets$Shelf") (C := RX10) (T := TX10) (N := 8) hx hb hts uX10 tyX10 tyX10_ok nmX10 hown hK hP hD hS 0 rfl rfl 0 (by decide) k7 (fun _ h9 => h9) rfl hin rfl (by decide +kernel) rfl rfl (Nat.le_of_ble_eq_true rfl) dX10_init_12 rfl (fun H locs hP hD hS => ?_)
  refine lv_aload_n hx hb dX10_init_15 rfl (lv_at hl 0 rfl) ?_
  refine va_new (ci := 2) (fs := [.int 0, .int 0, .null]) (C := RX2) (T := TX2) (N := 3) hx hb hts uX2 tyX2 tyX2_ok hown k8 k9 k10 hK hP hD hS hA rfl (fun j hj => by rcases (show j = 0 ∨ j = 1 ∨ j = 2 by omega) with rfl | rfl | rfl <;> rfl) (Nat.le_of_ble_eq_true rfl) (Nat.le_of_ble_eq_true rfl) dX10_init_16 (fun q3 H hP hD hS => ?_)
  have hP : va_P (dC, dI) vwCl [(h_t, .inr (9, [.ref q1, .null, .null, .null, .null, .null, .null, .null])), (q1, .inr (6, [.int 12, .int 0, .int 0, .ref q2])), (q2, .inl (cA, 8, .inl (fun _ => 0))), (q3, .inr (2, [.int 0, .int 0, .null]))] H := hP
  have hD : va_D A [(h_t, .inr (9, [.ref q1, .null, .null, .null, .null, .null, .null, .null])), (q1, .inr (6, [.int 12, .int 0, .int 0, .ref q2])), (q2, .inl (cA, 8, .inl (fun _ => 0))), (q3, .inr (2, [.int 0, .int 0, .null]))] := hD
  refine W.widen (k := 3) (n := 15) (Nat.le_of_ble_eq_true rfl) (Nat.le_of_ble_eq_true rfl) ?_
  refine lv_dup hx hb dX10_init_19 rfl ?_
  refine my_cIN (As := []) (rest := [.ref q3, .ref h_t]) (WC := [(q3, .inr (2, [.int 0, .int 0, .null]))]) (WR := [(h_t, .inr (9, [.ref q1, .null, .null, .null, .null, .null, .null, .null])), (q1, .inr (6, [.int 12, .int 0, .int 0, .ref q2])), (q2, .inl (cA, 8, .inl (fun _ => 0)))]) (NS := []) ⟨hx, hb, hml, hown, hts⟩ hK hP hD hS hA (fun sz => c_Past_init l dC dI cA q3 sz) ⟨va_cnB 0 hts gX10_init_X2_init_n18 rfl rfl rfl (hNS _ (List.mem_of_getElem? (i := 1) rfl)) k10 (by decide +kernel) ⟨Nat.le_of_ble_eq_true rfl, Nat.le_of_ble_eq_true rfl⟩, rfl, k44⟩ (fun q hq => absurd hq List.not_mem_nil) [3] [0, 1, 2] rfl rfl rfl rfl rfl hl.1 (Nat.le_of_ble_eq_true rfl) dX10_init_20 ⟨Nat.le_of_ble_eq_true rfl, Nat.le_of_ble_eq_true rfl⟩ (fun w1 hG H locs hP hD hS => ?_)
  obtain ⟨q4, q5, rfl⟩ := hG
  have hP : va_P (dC, dI) vwCl [(h_t, .inr (9, [.ref q1, .null, .null, .null, .null, .null, .null, .null])), (q1, .inr (6, [.int 12, .int 0, .int 0, .ref q2])), (q2, .inl (cA, 8, .inl (fun _ => 0))), (q3, .inr (2, [.int 0, .int 0, .ref q4])), (q4, .inr (4, [.int 16, .ref q5])), (q5, .inl (cA, 176, .inl (fun _ => 0)))] H := hP
  have hD : va_D A [(h_t, .inr (9, [.ref q1, .null, .null, .null, .null, .null, .null, .null])), (q1, .inr (6, [.int 12, .int 0, .int 0, .ref q2])), (q2, .inl (cA, 8, .inl (fun _ => 0))), (q3, .inr (2, [.int 0, .int 0, .ref q4])), (q4, .inr (4, [.int 16, .ref q5])), (q5, .inl (cA, 176, .inl (fun _ => 0)))] := hD
  refine W.widen (k := 5) (n := 193) (Nat.le_of_ble_eq_true rfl) (Nat.le_of_ble_eq_true rfl) ?_
  refine my_putF (W' := [(h_t, .inr (9, [.ref q1, .ref q3, .null, .null, .null, .null, .null, .null])), (q1, .inr (6, [.int 12, .int 0, .int 0, .ref q2])), (q2, .inl (cA, 8, .inl (fun _ => 0))), (q3, .inr (2, [.int 0, .int 0, .ref q4])), (q4, .inr (4, [.int 16, .ref q5])), (q5, .inl (cA, 176, .inl (fun _ => 0)))]) (ci := 9) (v := .ref q3) (ty := .object "ToneSets$Past") (C := RX10) (T := TX10) (N := 8) hx hb hts uX10 tyX10 tyX10_ok nmX10 hown hK hP hD hS 0 rfl rfl 1 (by decide) k11 (fun _ h9 => h9) rfl hin rfl (by decide +kernel) rfl rfl (Nat.le_of_ble_eq_true rfl) dX10_init_23 rfl (fun H locs hP hD hS => ?_)
  refine lv_aload_n hx hb dX10_init_26 rfl (lv_at hl 0 rfl) ?_
  refine va_new (ci := 4) (fs := [.int 0, .null]) (C := RX5) (T := TX5) (N := 2) hx hb hts uX5 tyX5 tyX5_ok hown k12 k13 k14 hK hP hD hS hA rfl (fun j hj => by rcases (show j = 0 ∨ j = 1 by omega) with rfl | rfl <;> rfl) (Nat.le_of_ble_eq_true rfl) (Nat.le_of_ble_eq_true rfl) dX10_init_27 (fun q6 H hP hD hS => ?_)
  have hP : va_P (dC, dI) vwCl [(h_t, .inr (9, [.ref q1, .ref q3, .null, .null, .null, .null, .null, .null])), (q1, .inr (6, [.int 12, .int 0, .int 0, .ref q2])), (q2, .inl (cA, 8, .inl (fun _ => 0))), (q3, .inr (2, [.int 0, .int 0, .ref q4])), (q4, .inr (4, [.int 16, .ref q5])), (q5, .inl (cA, 176, .inl (fun _ => 0))), (q6, .inr (4, [.int 0, .null]))] H := hP
  have hD : va_D A [(h_t, .inr (9, [.ref q1, .ref q3, .null, .null, .null, .null, .null, .null])), (q1, .inr (6, [.int 12, .int 0, .int 0, .ref q2])), (q2, .inl (cA, 8, .inl (fun _ => 0))), (q3, .inr (2, [.int 0, .int 0, .ref q4])), (q4, .inr (4, [.int 16, .ref q5])), (q5, .inl (cA, 176, .inl (fun _ => 0))), (q6, .inr (4, [.int 0, .null]))] := hD
  refine W.widen (k := 6) (n := 195) (Nat.le_of_ble_eq_true rfl) (Nat.le_of_ble_eq_true rfl) ?_
  refine lv_dup hx hb dX10_init_30 rfl ?_
  refine lv_iconst (v := 2) hx hb dX10_init_31 (by decide) ?_
  refine my_cI (As := [.int 2]) (rest := [.ref q6, .ref h_t]) (WC := [(q6, .inr (4, [.int 0, .null]))]) (WR := [(h_t, .inr (9, [.ref q1, .ref q3, .null, .null, .null, .null, .null, .null])), (q1, .inr (6, [.int 12, .int 0, .int 0, .ref q2])), (q2, .inl (cA, 8, .inl (fun _ => 0))), (q3, .inr (2, [.int 0, .int 0, .ref q4])), (q4, .inr (4, [.int 16, .ref q5])), (q5, .inl (cA, 176, .inl (fun _ => 0)))]) (NS := []) ⟨hx, hb, hml, hown, hts⟩ hK hP hD hS hA (fun sz => c_Rows_init2 l dC dI cA q6 sz) (cwI 1 hts gX10_init_X5_init rfl rfl rfl k14 k64 k52 rfl (by decide +kernel) ⟨Nat.le_of_ble_eq_true rfl, Nat.le_of_ble_eq_true rfl⟩) (fun q hq => absurd hq List.not_mem_nil) [6] [0, 1, 2, 3, 4, 5] rfl rfl rfl rfl rfl hl.1 (Nat.le_of_ble_eq_true rfl) dX10_init_32 ⟨Nat.le_of_ble_eq_true rfl, Nat.le_of_ble_eq_true rfl⟩ (fun w1 hG H locs hP hD hS => ?_)
  obtain ⟨q7, rfl⟩ := hG
  have hP : va_P (dC, dI) vwCl [(h_t, .inr (9, [.ref q1, .ref q3, .null, .null, .null, .null, .null, .null])), (q1, .inr (6, [.int 12, .int 0, .int 0, .ref q2])), (q2, .inl (cA, 8, .inl (fun _ => 0))), (q3, .inr (2, [.int 0, .int 0, .ref q4])), (q4, .inr (4, [.int 16, .ref q5])), (q5, .inl (cA, 176, .inl (fun _ => 0))), (q6, .inr (4, [.int 2, .ref q7])), (q7, .inl (cA, 22, .inl (fun _ => 0)))] H := hP
  have hD : va_D A [(h_t, .inr (9, [.ref q1, .ref q3, .null, .null, .null, .null, .null, .null])), (q1, .inr (6, [.int 12, .int 0, .int 0, .ref q2])), (q2, .inl (cA, 8, .inl (fun _ => 0))), (q3, .inr (2, [.int 0, .int 0, .ref q4])), (q4, .inr (4, [.int 16, .ref q5])), (q5, .inl (cA, 176, .inl (fun _ => 0))), (q6, .inr (4, [.int 2, .ref q7])), (q7, .inl (cA, 22, .inl (fun _ => 0)))] := hD
  refine W.widen (k := 7) (n := 217) (Nat.le_of_ble_eq_true rfl) (Nat.le_of_ble_eq_true rfl) ?_
  refine my_putF (W' := [(h_t, .inr (9, [.ref q1, .ref q3, .ref q6, .null, .null, .null, .null, .null])), (q1, .inr (6, [.int 12, .int 0, .int 0, .ref q2])), (q2, .inl (cA, 8, .inl (fun _ => 0))), (q3, .inr (2, [.int 0, .int 0, .ref q4])), (q4, .inr (4, [.int 16, .ref q5])), (q5, .inl (cA, 176, .inl (fun _ => 0))), (q6, .inr (4, [.int 2, .ref q7])), (q7, .inl (cA, 22, .inl (fun _ => 0)))]) (ci := 9) (v := .ref q6) (ty := .object "ToneSets$Rows") (C := RX10) (T := TX10) (N := 8) hx hb hts uX10 tyX10 tyX10_ok nmX10 hown hK hP hD hS 0 rfl rfl 2 (by decide) k15 (fun _ h9 => h9) rfl hin rfl (by decide +kernel) rfl rfl (Nat.le_of_ble_eq_true rfl) dX10_init_35 rfl (fun H locs hP hD hS => ?_)
  refine lv_aload_n hx hb dX10_init_38 rfl (lv_at hl 0 rfl) ?_
  refine va_new (ci := 0) (fs := [.int 0, .null, .null]) (C := RX0) (T := TX0) (N := 3) hx hb hts uX0 tyX0 tyX0_ok hown k16 k17 k18 hK hP hD hS hA rfl (fun j hj => by rcases (show j = 0 ∨ j = 1 ∨ j = 2 by omega) with rfl | rfl | rfl <;> rfl) (Nat.le_of_ble_eq_true rfl) (Nat.le_of_ble_eq_true rfl) dX10_init_39 (fun q8 H hP hD hS => ?_)
  have hP : va_P (dC, dI) vwCl [(h_t, .inr (9, [.ref q1, .ref q3, .ref q6, .null, .null, .null, .null, .null])), (q1, .inr (6, [.int 12, .int 0, .int 0, .ref q2])), (q2, .inl (cA, 8, .inl (fun _ => 0))), (q3, .inr (2, [.int 0, .int 0, .ref q4])), (q4, .inr (4, [.int 16, .ref q5])), (q5, .inl (cA, 176, .inl (fun _ => 0))), (q6, .inr (4, [.int 2, .ref q7])), (q7, .inl (cA, 22, .inl (fun _ => 0))), (q8, .inr (0, [.int 0, .null, .null]))] H := hP
  have hD : va_D A [(h_t, .inr (9, [.ref q1, .ref q3, .ref q6, .null, .null, .null, .null, .null])), (q1, .inr (6, [.int 12, .int 0, .int 0, .ref q2])), (q2, .inl (cA, 8, .inl (fun _ => 0))), (q3, .inr (2, [.int 0, .int 0, .ref q4])), (q4, .inr (4, [.int 16, .ref q5])), (q5, .inl (cA, 176, .inl (fun _ => 0))), (q6, .inr (4, [.int 2, .ref q7])), (q7, .inl (cA, 22, .inl (fun _ => 0))), (q8, .inr (0, [.int 0, .null, .null]))] := hD
  refine W.widen (k := 8) (n := 220) (Nat.le_of_ble_eq_true rfl) (Nat.le_of_ble_eq_true rfl) ?_
  refine lv_dup hx hb dX10_init_42 rfl ?_
  refine my_cIN (As := []) (rest := [.ref q8, .ref h_t]) (WC := [(q8, .inr (0, [.int 0, .null, .null]))]) (WR := [(h_t, .inr (9, [.ref q1, .ref q3, .ref q6, .null, .null, .null, .null, .null])), (q1, .inr (6, [.int 12, .int 0, .int 0, .ref q2])), (q2, .inl (cA, 8, .inl (fun _ => 0))), (q3, .inr (2, [.int 0, .int 0, .ref q4])), (q4, .inr (4, [.int 16, .ref q5])), (q5, .inl (cA, 176, .inl (fun _ => 0))), (q6, .inr (4, [.int 2, .ref q7])), (q7, .inl (cA, 22, .inl (fun _ => 0)))]) (NS := []) ⟨hx, hb, hml, hown, hts⟩ hK hP hD hS hA (fun sz => c_Book_init l dC dI cA q8 sz) ⟨va_cnB 0 hts gX10_init_X0_init_n34 rfl rfl rfl (hNS _ (List.mem_of_getElem? (i := 2) rfl)) k18 (by decide +kernel) ⟨Nat.le_of_ble_eq_true rfl, Nat.le_of_ble_eq_true rfl⟩, rfl, k65⟩ (fun q hq => absurd hq List.not_mem_nil) [8] [0, 1, 2, 3, 4, 5, 6, 7] rfl rfl rfl rfl rfl hl.1 (Nat.le_of_ble_eq_true rfl) dX10_init_43 ⟨Nat.le_of_ble_eq_true rfl, Nat.le_of_ble_eq_true rfl⟩ (fun w1 hG H locs hP hD hS => ?_)
  obtain ⟨q9, q10, rfl⟩ := hG
  have hP : va_P (dC, dI) vwCl [(h_t, .inr (9, [.ref q1, .ref q3, .ref q6, .null, .null, .null, .null, .null])), (q1, .inr (6, [.int 12, .int 0, .int 0, .ref q2])), (q2, .inl (cA, 8, .inl (fun _ => 0))), (q3, .inr (2, [.int 0, .int 0, .ref q4])), (q4, .inr (4, [.int 16, .ref q5])), (q5, .inl (cA, 176, .inl (fun _ => 0))), (q6, .inr (4, [.int 2, .ref q7])), (q7, .inl (cA, 22, .inl (fun _ => 0))), (q8, .inr (0, [.int 0, .ref q9, .ref q10])), (q9, .inl (cA, 20, .inl (fun _ => 0))), (q10, .inl (cA, 20, .inl (fun _ => 0)))] H := hP
  have hD : va_D A [(h_t, .inr (9, [.ref q1, .ref q3, .ref q6, .null, .null, .null, .null, .null])), (q1, .inr (6, [.int 12, .int 0, .int 0, .ref q2])), (q2, .inl (cA, 8, .inl (fun _ => 0))), (q3, .inr (2, [.int 0, .int 0, .ref q4])), (q4, .inr (4, [.int 16, .ref q5])), (q5, .inl (cA, 176, .inl (fun _ => 0))), (q6, .inr (4, [.int 2, .ref q7])), (q7, .inl (cA, 22, .inl (fun _ => 0))), (q8, .inr (0, [.int 0, .ref q9, .ref q10])), (q9, .inl (cA, 20, .inl (fun _ => 0))), (q10, .inl (cA, 20, .inl (fun _ => 0)))] := hD
  refine W.widen (k := 10) (n := 260) (Nat.le_of_ble_eq_true rfl) (Nat.le_of_ble_eq_true rfl) ?_
  refine my_putF (W' := [(h_t, .inr (9, [.ref q1, .ref q3, .ref q6, .ref q8, .null, .null, .null, .null])), (q1, .inr (6, [.int 12, .int 0, .int 0, .ref q2])), (q2, .inl (cA, 8, .inl (fun _ => 0))), (q3, .inr (2, [.int 0, .int 0, .ref q4])), (q4, .inr (4, [.int 16, .ref q5])), (q5, .inl (cA, 176, .inl (fun _ => 0))), (q6, .inr (4, [.int 2, .ref q7])), (q7, .inl (cA, 22, .inl (fun _ => 0))), (q8, .inr (0, [.int 0, .ref q9, .ref q10])), (q9, .inl (cA, 20, .inl (fun _ => 0))), (q10, .inl (cA, 20, .inl (fun _ => 0)))]) (ci := 9) (v := .ref q8) (ty := .object "ToneSets$Book") (C := RX10) (T := TX10) (N := 8) hx hb hts uX10 tyX10 tyX10_ok nmX10 hown hK hP hD hS 0 rfl rfl 3 (by decide) k19 (fun _ h9 => h9) rfl hin rfl (by decide +kernel) rfl rfl (Nat.le_of_ble_eq_true rfl) dX10_init_46 rfl (fun H locs hP hD hS => ?_)
  refine lv_aload_n hx hb dX10_init_49 rfl (lv_at hl 0 rfl) ?_
  refine va_new (ci := 1) (fs := [.int 0, .int 0, .null, .null, .null, .null, .null]) (C := RX1) (T := TX1) (N := 7) hx hb hts uX1 tyX1 tyX1_ok hown k20 k21 k22 hK hP hD hS hA rfl (fun j hj => by rcases (show j = 0 ∨ j = 1 ∨ j = 2 ∨ j = 3 ∨ j = 4 ∨ j = 5 ∨ j = 6 by omega) with rfl | rfl | rfl | rfl | rfl | rfl | rfl <;> rfl) (Nat.le_of_ble_eq_true rfl) (Nat.le_of_ble_eq_true rfl) dX10_init_50 (fun q11 H hP hD hS => ?_)
  have hP : va_P (dC, dI) vwCl [(h_t, .inr (9, [.ref q1, .ref q3, .ref q6, .ref q8, .null, .null, .null, .null])), (q1, .inr (6, [.int 12, .int 0, .int 0, .ref q2])), (q2, .inl (cA, 8, .inl (fun _ => 0))), (q3, .inr (2, [.int 0, .int 0, .ref q4])), (q4, .inr (4, [.int 16, .ref q5])), (q5, .inl (cA, 176, .inl (fun _ => 0))), (q6, .inr (4, [.int 2, .ref q7])), (q7, .inl (cA, 22, .inl (fun _ => 0))), (q8, .inr (0, [.int 0, .ref q9, .ref q10])), (q9, .inl (cA, 20, .inl (fun _ => 0))), (q10, .inl (cA, 20, .inl (fun _ => 0))), (q11, .inr (1, [.int 0, .int 0, .null, .null, .null, .null, .null]))] H := hP
  have hD : va_D A [(h_t, .inr (9, [.ref q1, .ref q3, .ref q6, .ref q8, .null, .null, .null, .null])), (q1, .inr (6, [.int 12, .int 0, .int 0, .ref q2])), (q2, .inl (cA, 8, .inl (fun _ => 0))), (q3, .inr (2, [.int 0, .int 0, .ref q4])), (q4, .inr (4, [.int 16, .ref q5])), (q5, .inl (cA, 176, .inl (fun _ => 0))), (q6, .inr (4, [.int 2, .ref q7])), (q7, .inl (cA, 22, .inl (fun _ => 0))), (q8, .inr (0, [.int 0, .ref q9, .ref q10])), (q9, .inl (cA, 20, .inl (fun _ => 0))), (q10, .inl (cA, 20, .inl (fun _ => 0))), (q11, .inr (1, [.int 0, .int 0, .null, .null, .null, .null, .null]))] := hD
  refine W.widen (k := 11) (n := 267) (Nat.le_of_ble_eq_true rfl) (Nat.le_of_ble_eq_true rfl) ?_
  refine lv_dup hx hb dX10_init_53 rfl ?_
  refine my_cIN (As := []) (rest := [.ref q11, .ref h_t]) (WC := [(q11, .inr (1, [.int 0, .int 0, .null, .null, .null, .null, .null]))]) (WR := [(h_t, .inr (9, [.ref q1, .ref q3, .ref q6, .ref q8, .null, .null, .null, .null])), (q1, .inr (6, [.int 12, .int 0, .int 0, .ref q2])), (q2, .inl (cA, 8, .inl (fun _ => 0))), (q3, .inr (2, [.int 0, .int 0, .ref q4])), (q4, .inr (4, [.int 16, .ref q5])), (q5, .inl (cA, 176, .inl (fun _ => 0))), (q6, .inr (4, [.int 2, .ref q7])), (q7, .inl (cA, 22, .inl (fun _ => 0))), (q8, .inr (0, [.int 0, .ref q9, .ref q10])), (q9, .inl (cA, 20, .inl (fun _ => 0))), (q10, .inl (cA, 20, .inl (fun _ => 0)))]) (NS := [("ToneSets$Forms", 33, yX6_init, "ToneSets")]) ⟨hx, hb, hml, hown, hts⟩ hK hP hD hS hA (fun sz => c_Forms_init l dC dI cA q11 sz) ⟨va_cnB 0 hts gX10_init_X1_init_n41 rfl rfl rfl (hNS _ (List.mem_of_getElem? (i := 3) rfl)) k22 (by decide +kernel) ⟨Nat.le_of_ble_eq_true rfl, Nat.le_of_ble_eq_true rfl⟩, rfl, k71⟩ (fun q hq => by cases List.mem_singleton.mp hq; exact hNS _ (List.mem_of_getElem? (i := 7) rfl)) [11] [0, 1, 2, 3, 4, 5, 6, 7, 8, 9, 10] rfl rfl rfl rfl rfl hl.1 (Nat.le_of_ble_eq_true rfl) dX10_init_54 ⟨Nat.le_of_ble_eq_true rfl, Nat.le_of_ble_eq_true rfl⟩ (fun w1 hG H locs hP hD hS => ?_)
  obtain ⟨q12, q13, q14, q15, q16, q17, rfl⟩ := hG
  have hP : va_P (dC, dI) vwCl [(h_t, .inr (9, [.ref q1, .ref q3, .ref q6, .ref q8, .null, .null, .null, .null])), (q1, .inr (6, [.int 12, .int 0, .int 0, .ref q2])), (q2, .inl (cA, 8, .inl (fun _ => 0))), (q3, .inr (2, [.int 0, .int 0, .ref q4])), (q4, .inr (4, [.int 16, .ref q5])), (q5, .inl (cA, 176, .inl (fun _ => 0))), (q6, .inr (4, [.int 2, .ref q7])), (q7, .inl (cA, 22, .inl (fun _ => 0))), (q8, .inr (0, [.int 0, .ref q9, .ref q10])), (q9, .inl (cA, 20, .inl (fun _ => 0))), (q10, .inl (cA, 20, .inl (fun _ => 0))), (q11, .inr (1, [.int 0, .int 0, .ref q12, .ref q13, .ref q14, .ref q15, .ref q16])), (q12, .inl (cA, 224, .inl (fun _ => 0))), (q13, .inl (cA, 224, .inl (fun _ => 0))), (q14, .inl (cA, 224, .inl (fun _ => 0))), (q15, .inl (cA, 14, .inl (fun _ => 0))), (q16, .inr (5, [.ref q17])), (q17, .inl (cA, 128, .inl (fun _ => 0)))] H := hP
  have hD : va_D A [(h_t, .inr (9, [.ref q1, .ref q3, .ref q6, .ref q8, .null, .null, .null, .null])), (q1, .inr (6, [.int 12, .int 0, .int 0, .ref q2])), (q2, .inl (cA, 8, .inl (fun _ => 0))), (q3, .inr (2, [.int 0, .int 0, .ref q4])), (q4, .inr (4, [.int 16, .ref q5])), (q5, .inl (cA, 176, .inl (fun _ => 0))), (q6, .inr (4, [.int 2, .ref q7])), (q7, .inl (cA, 22, .inl (fun _ => 0))), (q8, .inr (0, [.int 0, .ref q9, .ref q10])), (q9, .inl (cA, 20, .inl (fun _ => 0))), (q10, .inl (cA, 20, .inl (fun _ => 0))), (q11, .inr (1, [.int 0, .int 0, .ref q12, .ref q13, .ref q14, .ref q15, .ref q16])), (q12, .inl (cA, 224, .inl (fun _ => 0))), (q13, .inl (cA, 224, .inl (fun _ => 0))), (q14, .inl (cA, 224, .inl (fun _ => 0))), (q15, .inl (cA, 14, .inl (fun _ => 0))), (q16, .inr (5, [.ref q17])), (q17, .inl (cA, 128, .inl (fun _ => 0)))] := hD
  refine W.widen (k := 17) (n := 1082) (Nat.le_of_ble_eq_true rfl) (Nat.le_of_ble_eq_true rfl) ?_
  refine my_putF (W' := [(h_t, .inr (9, [.ref q1, .ref q3, .ref q6, .ref q8, .ref q11, .null, .null, .null])), (q1, .inr (6, [.int 12, .int 0, .int 0, .ref q2])), (q2, .inl (cA, 8, .inl (fun _ => 0))), (q3, .inr (2, [.int 0, .int 0, .ref q4])), (q4, .inr (4, [.int 16, .ref q5])), (q5, .inl (cA, 176, .inl (fun _ => 0))), (q6, .inr (4, [.int 2, .ref q7])), (q7, .inl (cA, 22, .inl (fun _ => 0))), (q8, .inr (0, [.int 0, .ref q9, .ref q10])), (q9, .inl (cA, 20, .inl (fun _ => 0))), (q10, .inl (cA, 20, .inl (fun _ => 0))), (q11, .inr (1, [.int 0, .int 0, .ref q12, .ref q13, .ref q14, .ref q15, .ref q16])), (q12, .inl (cA, 224, .inl (fun _ => 0))), (q13, .inl (cA, 224, .inl (fun _ => 0))), (q14, .inl (cA, 224, .inl (fun _ => 0))), (q15, .inl (cA, 14, .inl (fun _ => 0))), (q16, .inr (5, [.ref q17])), (q17, .inl (cA, 128, .inl (fun _ => 0)))]) (ci := 9) (v := .ref q11) (ty := .object "ToneSets$Forms") (C := RX10) (T := TX10) (N := 8) hx hb hts uX10 tyX10 tyX10_ok nmX10 hown hK hP hD hS 0 rfl rfl 4 (by decide) k23 (fun _ h9 => h9) rfl hin rfl (by decide +kernel) rfl rfl (Nat.le_of_ble_eq_true rfl) dX10_init_57 rfl (fun H locs hP hD hS => ?_)
  refine lv_aload_n hx hb dX10_init_60 rfl (lv_at hl 0 rfl) ?_
  refine va_new (ci := 8) (fs := [.int 0, .int 0, .int 0, .int 0, .int 0, .null, .null, .null, .null, .null, .null, .null, .null]) (C := RX9) (T := TX9) (N := 13) hx hb hts uX9 tyX9 tyX9_ok hown k24 k25 k26 hK hP hD hS hA rfl (fun j hj => by rcases (show j = 0 ∨ j = 1 ∨ j = 2 ∨ j = 3 ∨ j = 4 ∨ j = 5 ∨ j = 6 ∨ j = 7 ∨ j = 8 ∨ j = 9 ∨ j = 10 ∨ j = 11 ∨ j = 12 by omega) with rfl | rfl | rfl | rfl | rfl | rfl | rfl | rfl | rfl | rfl | rfl | rfl | rfl <;> rfl) (Nat.le_of_ble_eq_true rfl) (Nat.le_of_ble_eq_true rfl) dX10_init_61 (fun q18 H hP hD hS => ?_)
  have hP : va_P (dC, dI) vwCl [(h_t, .inr (9, [.ref q1, .ref q3, .ref q6, .ref q8, .ref q11, .null, .null, .null])), (q1, .inr (6, [.int 12, .int 0, .int 0, .ref q2])), (q2, .inl (cA, 8, .inl (fun _ => 0))), (q3, .inr (2, [.int 0, .int 0, .ref q4])), (q4, .inr (4, [.int 16, .ref q5])), (q5, .inl (cA, 176, .inl (fun _ => 0))), (q6, .inr (4, [.int 2, .ref q7])), (q7, .inl (cA, 22, .inl (fun _ => 0))), (q8, .inr (0, [.int 0, .ref q9, .ref q10])), (q9, .inl (cA, 20, .inl (fun _ => 0))), (q10, .inl (cA, 20, .inl (fun _ => 0))), (q11, .inr (1, [.int 0, .int 0, .ref q12, .ref q13, .ref q14, .ref q15, .ref q16])), (q12, .inl (cA, 224, .inl (fun _ => 0))), (q13, .inl (cA, 224, .inl (fun _ => 0))), (q14, .inl (cA, 224, .inl (fun _ => 0))), (q15, .inl (cA, 14, .inl (fun _ => 0))), (q16, .inr (5, [.ref q17])), (q17, .inl (cA, 128, .inl (fun _ => 0))), (q18, .inr (8, [.int 0, .int 0, .int 0, .int 0, .int 0, .null, .null, .null, .null, .null, .null, .null, .null]))] H := hP
  have hD : va_D A [(h_t, .inr (9, [.ref q1, .ref q3, .ref q6, .ref q8, .ref q11, .null, .null, .null])), (q1, .inr (6, [.int 12, .int 0, .int 0, .ref q2])), (q2, .inl (cA, 8, .inl (fun _ => 0))), (q3, .inr (2, [.int 0, .int 0, .ref q4])), (q4, .inr (4, [.int 16, .ref q5])), (q5, .inl (cA, 176, .inl (fun _ => 0))), (q6, .inr (4, [.int 2, .ref q7])), (q7, .inl (cA, 22, .inl (fun _ => 0))), (q8, .inr (0, [.int 0, .ref q9, .ref q10])), (q9, .inl (cA, 20, .inl (fun _ => 0))), (q10, .inl (cA, 20, .inl (fun _ => 0))), (q11, .inr (1, [.int 0, .int 0, .ref q12, .ref q13, .ref q14, .ref q15, .ref q16])), (q12, .inl (cA, 224, .inl (fun _ => 0))), (q13, .inl (cA, 224, .inl (fun _ => 0))), (q14, .inl (cA, 224, .inl (fun _ => 0))), (q15, .inl (cA, 14, .inl (fun _ => 0))), (q16, .inr (5, [.ref q17])), (q17, .inl (cA, 128, .inl (fun _ => 0))), (q18, .inr (8, [.int 0, .int 0, .int 0, .int 0, .int 0, .null, .null, .null, .null, .null, .null, .null, .null]))] := hD
  refine W.widen (k := 18) (n := 1095) (Nat.le_of_ble_eq_true rfl) (Nat.le_of_ble_eq_true rfl) ?_
  refine lv_dup hx hb dX10_init_64 rfl ?_
  refine my_cIN (As := []) (rest := [.ref q18, .ref h_t]) (WC := [(q18, .inr (8, [.int 0, .int 0, .int 0, .int 0, .int 0, .null, .null, .null, .null, .null, .null, .null, .null]))]) (WR := [(h_t, .inr (9, [.ref q1, .ref q3, .ref q6, .ref q8, .ref q11, .null, .null, .null])), (q1, .inr (6, [.int 12, .int 0, .int 0, .ref q2])), (q2, .inl (cA, 8, .inl (fun _ => 0))), (q3, .inr (2, [.int 0, .int 0, .ref q4])), (q4, .inr (4, [.int 16, .ref q5])), (q5, .inl (cA, 176, .inl (fun _ => 0))), (q6, .inr (4, [.int 2, .ref q7])), (q7, .inl (cA, 22, .inl (fun _ => 0))), (q8, .inr (0, [.int 0, .ref q9, .ref q10])), (q9, .inl (cA, 20, .inl (fun _ => 0))), (q10, .inl (cA, 20, .inl (fun _ => 0))), (q11, .inr (1, [.int 0, .int 0, .ref q12, .ref q13, .ref q14, .ref q15, .ref q16])), (q12, .inl (cA, 224, .inl (fun _ => 0))), (q13, .inl (cA, 224, .inl (fun _ => 0))), (q14, .inl (cA, 224, .inl (fun _ => 0))), (q15, .inl (cA, 14, .inl (fun _ => 0))), (q16, .inr (5, [.ref q17])), (q17, .inl (cA, 128, .inl (fun _ => 0)))]) (NS := []) ⟨hx, hb, hml, hown, hts⟩ hK hP hD hS hA (fun sz => c_Ways_init l dC dI cA q18 sz) ⟨va_cnB 0 hts gX10_init_X9_init_n48 rfl rfl rfl (hNS _ (List.mem_of_getElem? (i := 4) rfl)) k26 (by decide +kernel) ⟨Nat.le_of_ble_eq_true rfl, Nat.le_of_ble_eq_true rfl⟩, rfl, k88⟩ (fun q hq => absurd hq List.not_mem_nil) [18] [0, 1, 2, 3, 4, 5, 6, 7, 8, 9, 10, 11, 12, 13, 14, 15, 16, 17] rfl rfl rfl rfl rfl hl.1 (Nat.le_of_ble_eq_true rfl) dX10_init_65 ⟨Nat.le_of_ble_eq_true rfl, Nat.le_of_ble_eq_true rfl⟩ (fun w1 hG H locs hP hD hS => ?_)
  obtain ⟨q19, q20, q21, q22, q23, q24, q25, q26, rfl⟩ := hG
  have hP : va_P (dC, dI) vwCl [(h_t, .inr (9, [.ref q1, .ref q3, .ref q6, .ref q8, .ref q11, .null, .null, .null])), (q1, .inr (6, [.int 12, .int 0, .int 0, .ref q2])), (q2, .inl (cA, 8, .inl (fun _ => 0))), (q3, .inr (2, [.int 0, .int 0, .ref q4])), (q4, .inr (4, [.int 16, .ref q5])), (q5, .inl (cA, 176, .inl (fun _ => 0))), (q6, .inr (4, [.int 2, .ref q7])), (q7, .inl (cA, 22, .inl (fun _ => 0))), (q8, .inr (0, [.int 0, .ref q9, .ref q10])), (q9, .inl (cA, 20, .inl (fun _ => 0))), (q10, .inl (cA, 20, .inl (fun _ => 0))), (q11, .inr (1, [.int 0, .int 0, .ref q12, .ref q13, .ref q14, .ref q15, .ref q16])), (q12, .inl (cA, 224, .inl (fun _ => 0))), (q13, .inl (cA, 224, .inl (fun _ => 0))), (q14, .inl (cA, 224, .inl (fun _ => 0))), (q15, .inl (cA, 14, .inl (fun _ => 0))), (q16, .inr (5, [.ref q17])), (q17, .inl (cA, 128, .inl (fun _ => 0))), (q18, .inr (8, [.int 0, .int 0, .int 0, .int 0, .int 0, .ref q19, .ref q20, .ref q21, .ref q22, .ref q23, .ref q24, .ref q25, .ref q26])), (q19, .inl (cA, 13, .inl (fun _ => 0))), (q20, .inl (cA, 13, .inl (fun _ => 0))), (q21, .inl (cA, 169, .inl (fun _ => 0))), (q22, .inl (cA, 13, .inl (fun _ => 0))), (q23, .inl (cA, 13, .inl (fun _ => 0))), (q24, .inl (cA, 13, .inl (fun _ => 0))), (q25, .inl (cA, 13, .inl (fun _ => 0))), (q26, .inl (cA, 13, .inl (fun _ => 0)))] H := hP
  have hD : va_D A [(h_t, .inr (9, [.ref q1, .ref q3, .ref q6, .ref q8, .ref q11, .null, .null, .null])), (q1, .inr (6, [.int 12, .int 0, .int 0, .ref q2])), (q2, .inl (cA, 8, .inl (fun _ => 0))), (q3, .inr (2, [.int 0, .int 0, .ref q4])), (q4, .inr (4, [.int 16, .ref q5])), (q5, .inl (cA, 176, .inl (fun _ => 0))), (q6, .inr (4, [.int 2, .ref q7])), (q7, .inl (cA, 22, .inl (fun _ => 0))), (q8, .inr (0, [.int 0, .ref q9, .ref q10])), (q9, .inl (cA, 20, .inl (fun _ => 0))), (q10, .inl (cA, 20, .inl (fun _ => 0))), (q11, .inr (1, [.int 0, .int 0, .ref q12, .ref q13, .ref q14, .ref q15, .ref q16])), (q12, .inl (cA, 224, .inl (fun _ => 0))), (q13, .inl (cA, 224, .inl (fun _ => 0))), (q14, .inl (cA, 224, .inl (fun _ => 0))), (q15, .inl (cA, 14, .inl (fun _ => 0))), (q16, .inr (5, [.ref q17])), (q17, .inl (cA, 128, .inl (fun _ => 0))), (q18, .inr (8, [.int 0, .int 0, .int 0, .int 0, .int 0, .ref q19, .ref q20, .ref q21, .ref q22, .ref q23, .ref q24, .ref q25, .ref q26])), (q19, .inl (cA, 13, .inl (fun _ => 0))), (q20, .inl (cA, 13, .inl (fun _ => 0))), (q21, .inl (cA, 169, .inl (fun _ => 0))), (q22, .inl (cA, 13, .inl (fun _ => 0))), (q23, .inl (cA, 13, .inl (fun _ => 0))), (q24, .inl (cA, 13, .inl (fun _ => 0))), (q25, .inl (cA, 13, .inl (fun _ => 0))), (q26, .inl (cA, 13, .inl (fun _ => 0)))] := hD
  refine W.widen (k := 26) (n := 1355) (Nat.le_of_ble_eq_true rfl) (Nat.le_of_ble_eq_true rfl) ?_
  refine my_putF (W' := [(h_t, .inr (9, [.ref q1, .ref q3, .ref q6, .ref q8, .ref q11, .ref q18, .null, .null])), (q1, .inr (6, [.int 12, .int 0, .int 0, .ref q2])), (q2, .inl (cA, 8, .inl (fun _ => 0))), (q3, .inr (2, [.int 0, .int 0, .ref q4])), (q4, .inr (4, [.int 16, .ref q5])), (q5, .inl (cA, 176, .inl (fun _ => 0))), (q6, .inr (4, [.int 2, .ref q7])), (q7, .inl (cA, 22, .inl (fun _ => 0))), (q8, .inr (0, [.int 0, .ref q9, .ref q10])), (q9, .inl (cA, 20, .inl (fun _ => 0))), (q10, .inl (cA, 20, .inl (fun _ => 0))), (q11, .inr (1, [.int 0, .int 0, .ref q12, .ref q13, .ref q14, .ref q15, .ref q16])), (q12, .inl (cA, 224, .inl (fun _ => 0))), (q13, .inl (cA, 224, .inl (fun _ => 0))), (q14, .inl (cA, 224, .inl (fun _ => 0))), (q15, .inl (cA, 14, .inl (fun _ => 0))), (q16, .inr (5, [.ref q17])), (q17, .inl (cA, 128, .inl (fun _ => 0))), (q18, .inr (8, [.int 0, .int 0, .int 0, .int 0, .int 0, .ref q19, .ref q20, .ref q21, .ref q22, .ref q23, .ref q24, .ref q25, .ref q26])), (q19, .inl (cA, 13, .inl (fun _ => 0))), (q20, .inl (cA, 13, .inl (fun _ => 0))), (q21, .inl (cA, 169, .inl (fun _ => 0))), (q22, .inl (cA, 13, .inl (fun _ => 0))), (q23, .inl (cA, 13, .inl (fun _ => 0))), (q24, .inl (cA, 13, .inl (fun _ => 0))), (q25, .inl (cA, 13, .inl (fun _ => 0))), (q26, .inl (cA, 13, .inl (fun _ => 0)))]) (ci := 9) (v := .ref q18) (ty := .object "ToneSets$Ways") (C := RX10) (T := TX10) (N := 8) hx hb hts uX10 tyX10 tyX10_ok nmX10 hown hK hP hD hS 0 rfl rfl 5 (by decide) k27 (fun _ h9 => h9) rfl hin rfl (by decide +kernel) rfl rfl (Nat.le_of_ble_eq_true rfl) dX10_init_68 rfl (fun H locs hP hD hS => ?_)
  refine lv_aload_n hx hb dX10_init_71 rfl (lv_at hl 0 rfl) ?_
  refine va_new (ci := 3) (fs := [.int 0, .null, .null, .null]) (C := RX4) (T := TX4) (N := 4) hx hb hts uX4 tyX4 tyX4_ok hown k28 k29 k30 hK hP hD hS hA rfl (fun j hj => by rcases (show j = 0 ∨ j = 1 ∨ j = 2 ∨ j = 3 by omega) with rfl | rfl | rfl | rfl <;> rfl) (Nat.le_of_ble_eq_true rfl) (Nat.le_of_ble_eq_true rfl) dX10_init_72 (fun q27 H hP hD hS => ?_)
  have hP : va_P (dC, dI) vwCl [(h_t, .inr (9, [.ref q1, .ref q3, .ref q6, .ref q8, .ref q11, .ref q18, .null, .null])), (q1, .inr (6, [.int 12, .int 0, .int 0, .ref q2])), (q2, .inl (cA, 8, .inl (fun _ => 0))), (q3, .inr (2, [.int 0, .int 0, .ref q4])), (q4, .inr (4, [.int 16, .ref q5])), (q5, .inl (cA, 176, .inl (fun _ => 0))), (q6, .inr (4, [.int 2, .ref q7])), (q7, .inl (cA, 22, .inl (fun _ => 0))), (q8, .inr (0, [.int 0, .ref q9, .ref q10])), (q9, .inl (cA, 20, .inl (fun _ => 0))), (q10, .inl (cA, 20, .inl (fun _ => 0))), (q11, .inr (1, [.int 0, .int 0, .ref q12, .ref q13, .ref q14, .ref q15, .ref q16])), (q12, .inl (cA, 224, .inl (fun _ => 0))), (q13, .inl (cA, 224, .inl (fun _ => 0))), (q14, .inl (cA, 224, .inl (fun _ => 0))), (q15, .inl (cA, 14, .inl (fun _ => 0))), (q16, .inr (5, [.ref q17])), (q17, .inl (cA, 128, .inl (fun _ => 0))), (q18, .inr (8, [.int 0, .int 0, .int 0, .int 0, .int 0, .ref q19, .ref q20, .ref q21, .ref q22, .ref q23, .ref q24, .ref q25, .ref q26])), (q19, .inl (cA, 13, .inl (fun _ => 0))), (q20, .inl (cA, 13, .inl (fun _ => 0))), (q21, .inl (cA, 169, .inl (fun _ => 0))), (q22, .inl (cA, 13, .inl (fun _ => 0))), (q23, .inl (cA, 13, .inl (fun _ => 0))), (q24, .inl (cA, 13, .inl (fun _ => 0))), (q25, .inl (cA, 13, .inl (fun _ => 0))), (q26, .inl (cA, 13, .inl (fun _ => 0))), (q27, .inr (3, [.int 0, .null, .null, .null]))] H := hP
  have hD : va_D A [(h_t, .inr (9, [.ref q1, .ref q3, .ref q6, .ref q8, .ref q11, .ref q18, .null, .null])), (q1, .inr (6, [.int 12, .int 0, .int 0, .ref q2])), (q2, .inl (cA, 8, .inl (fun _ => 0))), (q3, .inr (2, [.int 0, .int 0, .ref q4])), (q4, .inr (4, [.int 16, .ref q5])), (q5, .inl (cA, 176, .inl (fun _ => 0))), (q6, .inr (4, [.int 2, .ref q7])), (q7, .inl (cA, 22, .inl (fun _ => 0))), (q8, .inr (0, [.int 0, .ref q9, .ref q10])), (q9, .inl (cA, 20, .inl (fun _ => 0))), (q10, .inl (cA, 20, .inl (fun _ => 0))), (q11, .inr (1, [.int 0, .int 0, .ref q12, .ref q13, .ref q14, .ref q15, .ref q16])), (q12, .inl (cA, 224, .inl (fun _ => 0))), (q13, .inl (cA, 224, .inl (fun _ => 0))), (q14, .inl (cA, 224, .inl (fun _ => 0))), (q15, .inl (cA, 14, .inl (fun _ => 0))), (q16, .inr (5, [.ref q17])), (q17, .inl (cA, 128, .inl (fun _ => 0))), (q18, .inr (8, [.int 0, .int 0, .int 0, .int 0, .int 0, .ref q19, .ref q20, .ref q21, .ref q22, .ref q23, .ref q24, .ref q25, .ref q26])), (q19, .inl (cA, 13, .inl (fun _ => 0))), (q20, .inl (cA, 13, .inl (fun _ => 0))), (q21, .inl (cA, 169, .inl (fun _ => 0))), (q22, .inl (cA, 13, .inl (fun _ => 0))), (q23, .inl (cA, 13, .inl (fun _ => 0))), (q24, .inl (cA, 13, .inl (fun _ => 0))), (q25, .inl (cA, 13, .inl (fun _ => 0))), (q26, .inl (cA, 13, .inl (fun _ => 0))), (q27, .inr (3, [.int 0, .null, .null, .null]))] := hD
  refine W.widen (k := 27) (n := 1359) (Nat.le_of_ble_eq_true rfl) (Nat.le_of_ble_eq_true rfl) ?_
  refine lv_dup hx hb dX10_init_75 rfl ?_
  refine my_cIN (As := []) (rest := [.ref q27, .ref h_t]) (WC := [(q27, .inr (3, [.int 0, .null, .null, .null]))]) (WR := [(h_t, .inr (9, [.ref q1, .ref q3, .ref q6, .ref q8, .ref q11, .ref q18, .null, .null])), (q1, .inr (6, [.int 12, .int 0, .int 0, .ref q2])), (q2, .inl (cA, 8, .inl (fun _ => 0))), (q3, .inr (2, [.int 0, .int 0, .ref q4])), (q4, .inr (4, [.int 16, .ref q5])), (q5, .inl (cA, 176, .inl (fun _ => 0))), (q6, .inr (4, [.int 2, .ref q7])), (q7, .inl (cA, 22, .inl (fun _ => 0))), (q8, .inr (0, [.int 0, .ref q9, .ref q10])), (q9, .inl (cA, 20, .inl (fun _ => 0))), (q10, .inl (cA, 20, .inl (fun _ => 0))), (q11, .inr (1, [.int 0, .int 0, .ref q12, .ref q13, .ref q14, .ref q15, .ref q16])), (q12, .inl (cA, 224, .inl (fun _ => 0))), (q13, .inl (cA, 224, .inl (fun _ => 0))), (q14, .inl (cA, 224, .inl (fun _ => 0))), (q15, .inl (cA, 14, .inl (fun _ => 0))), (q16, .inr (5, [.ref q17])), (q17, .inl (cA, 128, .inl (fun _ => 0))), (q18, .inr (8, [.int 0, .int 0, .int 0, .int 0, .int 0, .ref q19, .ref q20, .ref q21, .ref q22, .ref q23, .ref q24, .ref q25, .ref q26])), (q19, .inl (cA, 13, .inl (fun _ => 0))), (q20, .inl (cA, 13, .inl (fun _ => 0))), (q21, .inl (cA, 169, .inl (fun _ => 0))), (q22, .inl (cA, 13, .inl (fun _ => 0))), (q23, .inl (cA, 13, .inl (fun _ => 0))), (q24, .inl (cA, 13, .inl (fun _ => 0))), (q25, .inl (cA, 13, .inl (fun _ => 0))), (q26, .inl (cA, 13, .inl (fun _ => 0)))]) (NS := []) ⟨hx, hb, hml, hown, hts⟩ hK hP hD hS hA (fun sz => c_Round_init l dC dI cA q27 sz) ⟨va_cnB 0 hts gX10_init_X4_init_n55 rfl rfl rfl (hNS _ (List.mem_of_getElem? (i := 5) rfl)) k30 (by decide +kernel) ⟨Nat.le_of_ble_eq_true rfl, Nat.le_of_ble_eq_true rfl⟩, rfl, k104⟩ (fun q hq => absurd hq List.not_mem_nil) [27] [0, 1, 2, 3, 4, 5, 6, 7, 8, 9, 10, 11, 12, 13, 14, 15, 16, 17, 18, 19, 20, 21, 22, 23, 24, 25, 26] rfl rfl rfl rfl rfl hl.1 (Nat.le_of_ble_eq_true rfl) dX10_init_76 ⟨Nat.le_of_ble_eq_true rfl, Nat.le_of_ble_eq_true rfl⟩ (fun w1 hG H locs hP hD hS => ?_)
  obtain ⟨q28, q29, q30, rfl⟩ := hG
  have hP : va_P (dC, dI) vwCl [(h_t, .inr (9, [.ref q1, .ref q3, .ref q6, .ref q8, .ref q11, .ref q18, .null, .null])), (q1, .inr (6, [.int 12, .int 0, .int 0, .ref q2])), (q2, .inl (cA, 8, .inl (fun _ => 0))), (q3, .inr (2, [.int 0, .int 0, .ref q4])), (q4, .inr (4, [.int 16, .ref q5])), (q5, .inl (cA, 176, .inl (fun _ => 0))), (q6, .inr (4, [.int 2, .ref q7])), (q7, .inl (cA, 22, .inl (fun _ => 0))), (q8, .inr (0, [.int 0, .ref q9, .ref q10])), (q9, .inl (cA, 20, .inl (fun _ => 0))), (q10, .inl (cA, 20, .inl (fun _ => 0))), (q11, .inr (1, [.int 0, .int 0, .ref q12, .ref q13, .ref q14, .ref q15, .ref q16])), (q12, .inl (cA, 224, .inl (fun _ => 0))), (q13, .inl (cA, 224, .inl (fun _ => 0))), (q14, .inl (cA, 224, .inl (fun _ => 0))), (q15, .inl (cA, 14, .inl (fun _ => 0))), (q16, .inr (5, [.ref q17])), (q17, .inl (cA, 128, .inl (fun _ => 0))), (q18, .inr (8, [.int 0, .int 0, .int 0, .int 0, .int 0, .ref q19, .ref q20, .ref q21, .ref q22, .ref q23, .ref q24, .ref q25, .ref q26])), (q19, .inl (cA, 13, .inl (fun _ => 0))), (q20, .inl (cA, 13, .inl (fun _ => 0))), (q21, .inl (cA, 169, .inl (fun _ => 0))), (q22, .inl (cA, 13, .inl (fun _ => 0))), (q23, .inl (cA, 13, .inl (fun _ => 0))), (q24, .inl (cA, 13, .inl (fun _ => 0))), (q25, .inl (cA, 13, .inl (fun _ => 0))), (q26, .inl (cA, 13, .inl (fun _ => 0))), (q27, .inr (3, [.int 0, .ref q28, .ref q29, .ref q30])), (q28, .inl (cA, 8, .inl (fun _ => 0))), (q29, .inl (cA, 64, .inl (fun _ => 0))), (q30, .inl (cA, 896, .inl (fun _ => 0)))] H := hP
  have hD : va_D A [(h_t, .inr (9, [.ref q1, .ref q3, .ref q6, .ref q8, .ref q11, .ref q18, .null, .null])), (q1, .inr (6, [.int 12, .int 0, .int 0, .ref q2])), (q2, .inl (cA, 8, .inl (fun _ => 0))), (q3, .inr (2, [.int 0, .int 0, .ref q4])), (q4, .inr (4, [.int 16, .ref q5])), (q5, .inl (cA, 176, .inl (fun _ => 0))), (q6, .inr (4, [.int 2, .ref q7])), (q7, .inl (cA, 22, .inl (fun _ => 0))), (q8, .inr (0, [.int 0, .ref q9, .ref q10])), (q9, .inl (cA, 20, .inl (fun _ => 0))), (q10, .inl (cA, 20, .inl (fun _ => 0))), (q11, .inr (1, [.int 0, .int 0, .ref q12, .ref q13, .ref q14, .ref q15, .ref q16])), (q12, .inl (cA, 224, .inl (fun _ => 0))), (q13, .inl (cA, 224, .inl (fun _ => 0))), (q14, .inl (cA, 224, .inl (fun _ => 0))), (q15, .inl (cA, 14, .inl (fun _ => 0))), (q16, .inr (5, [.ref q17])), (q17, .inl (cA, 128, .inl (fun _ => 0))), (q18, .inr (8, [.int 0, .int 0, .int 0, .int 0, .int 0, .ref q19, .ref q20, .ref q21, .ref q22, .ref q23, .ref q24, .ref q25, .ref q26])), (q19, .inl (cA, 13, .inl (fun _ => 0))), (q20, .inl (cA, 13, .inl (fun _ => 0))), (q21, .inl (cA, 169, .inl (fun _ => 0))), (q22, .inl (cA, 13, .inl (fun _ => 0))), (q23, .inl (cA, 13, .inl (fun _ => 0))), (q24, .inl (cA, 13, .inl (fun _ => 0))), (q25, .inl (cA, 13, .inl (fun _ => 0))), (q26, .inl (cA, 13, .inl (fun _ => 0))), (q27, .inr (3, [.int 0, .ref q28, .ref q29, .ref q30])), (q28, .inl (cA, 8, .inl (fun _ => 0))), (q29, .inl (cA, 64, .inl (fun _ => 0))), (q30, .inl (cA, 896, .inl (fun _ => 0)))] := hD
  refine W.widen (k := 30) (n := 2327) (Nat.le_of_ble_eq_true rfl) (Nat.le_of_ble_eq_true rfl) ?_
  refine my_putF (W' := [(h_t, .inr (9, [.ref q1, .ref q3, .ref q6, .ref q8, .ref q11, .ref q18, .ref q27, .null])), (q1, .inr (6, [.int 12, .int 0, .int 0, .ref q2])), (q2, .inl (cA, 8, .inl (fun _ => 0))), (q3, .inr (2, [.int 0, .int 0, .ref q4])), (q4, .inr (4, [.int 16, .ref q5])), (q5, .inl (cA, 176, .inl (fun _ => 0))), (q6, .inr (4, [.int 2, .ref q7])), (q7, .inl (cA, 22, .inl (fun _ => 0))), (q8, .inr (0, [.int 0, .ref q9, .ref q10])), (q9, .inl (cA, 20, .inl (fun _ => 0))), (q10, .inl (cA, 20, .inl (fun _ => 0))), (q11, .inr (1, [.int 0, .int 0, .ref q12, .ref q13, .ref q14, .ref q15, .ref q16])), (q12, .inl (cA, 224, .inl (fun _ => 0))), (q13, .inl (cA, 224, .inl (fun _ => 0))), (q14, .inl (cA, 224, .inl (fun _ => 0))), (q15, .inl (cA, 14, .inl (fun _ => 0))), (q16, .inr (5, [.ref q17])), (q17, .inl (cA, 128, .inl (fun _ => 0))), (q18, .inr (8, [.int 0, .int 0, .int 0, .int 0, .int 0, .ref q19, .ref q20, .ref q21, .ref q22, .ref q23, .ref q24, .ref q25, .ref q26])), (q19, .inl (cA, 13, .inl (fun _ => 0))), (q20, .inl (cA, 13, .inl (fun _ => 0))), (q21, .inl (cA, 169, .inl (fun _ => 0))), (q22, .inl (cA, 13, .inl (fun _ => 0))), (q23, .inl (cA, 13, .inl (fun _ => 0))), (q24, .inl (cA, 13, .inl (fun _ => 0))), (q25, .inl (cA, 13, .inl (fun _ => 0))), (q26, .inl (cA, 13, .inl (fun _ => 0))), (q27, .inr (3, [.int 0, .ref q28, .ref q29, .ref q30])), (q28, .inl (cA, 8, .inl (fun _ => 0))), (q29, .inl (cA, 64, .inl (fun _ => 0))), (q30, .inl (cA, 896, .inl (fun _ => 0)))]) (ci := 9) (v := .ref q27) (ty := .object "ToneSets$Round") (C := RX10) (T := TX10) (N := 8) hx hb hts uX10 tyX10 tyX10_ok nmX10 hown hK hP hD hS 0 rfl rfl 6 (by decide) k31 (fun _ h9 => h9) rfl hin rfl (by decide +kernel) rfl rfl (Nat.le_of_ble_eq_true rfl) dX10_init_79 rfl (fun H locs hP hD hS => ?_)
  refine lv_aload_n hx hb dX10_init_82 rfl (lv_at hl 0 rfl) ?_
  refine va_new (ci := 7) (fs := [.int 0, .int 0, .int 0, .null, .null, .null, .null]) (C := RX8) (T := TX8) (N := 7) hx hb hts uX8 tyX8 tyX8_ok hown k32 k33 k34 hK hP hD hS hA rfl (fun j hj => by rcases (show j = 0 ∨ j = 1 ∨ j = 2 ∨ j = 3 ∨ j = 4 ∨ j = 5 ∨ j = 6 by omega) with rfl | rfl | rfl | rfl | rfl | rfl | rfl <;> rfl) (Nat.le_of_ble_eq_true rfl) (Nat.le_of_ble_eq_true rfl) dX10_init_83 (fun q31 H hP hD hS => ?_)
  have hP : va_P (dC, dI) vwCl [(h_t, .inr (9, [.ref q1, .ref q3, .ref q6, .ref q8, .ref q11, .ref q18, .ref q27, .null])), (q1, .inr (6, [.int 12, .int 0, .int 0, .ref q2])), (q2, .inl (cA, 8, .inl (fun _ => 0))), (q3, .inr (2, [.int 0, .int 0, .ref q4])), (q4, .inr (4, [.int 16, .ref q5])), (q5, .inl (cA, 176, .inl (fun _ => 0))), (q6, .inr (4, [.int 2, .ref q7])), (q7, .inl (cA, 22, .inl (fun _ => 0))), (q8, .inr (0, [.int 0, .ref q9, .ref q10])), (q9, .inl (cA, 20, .inl (fun _ => 0))), (q10, .inl (cA, 20, .inl (fun _ => 0))), (q11, .inr (1, [.int 0, .int 0, .ref q12, .ref q13, .ref q14, .ref q15, .ref q16])), (q12, .inl (cA, 224, .inl (fun _ => 0))), (q13, .inl (cA, 224, .inl (fun _ => 0))), (q14, .inl (cA, 224, .inl (fun _ => 0))), (q15, .inl (cA, 14, .inl (fun _ => 0))), (q16, .inr (5, [.ref q17])), (q17, .inl (cA, 128, .inl (fun _ => 0))), (q18, .inr (8, [.int 0, .int 0, .int 0, .int 0, .int 0, .ref q19, .ref q20, .ref q21, .ref q22, .ref q23, .ref q24, .ref q25, .ref q26])), (q19, .inl (cA, 13, .inl (fun _ => 0))), (q20, .inl (cA, 13, .inl (fun _ => 0))), (q21, .inl (cA, 169, .inl (fun _ => 0))), (q22, .inl (cA, 13, .inl (fun _ => 0))), (q23, .inl (cA, 13, .inl (fun _ => 0))), (q24, .inl (cA, 13, .inl (fun _ => 0))), (q25, .inl (cA, 13, .inl (fun _ => 0))), (q26, .inl (cA, 13, .inl (fun _ => 0))), (q27, .inr (3, [.int 0, .ref q28, .ref q29, .ref q30])), (q28, .inl (cA, 8, .inl (fun _ => 0))), (q29, .inl (cA, 64, .inl (fun _ => 0))), (q30, .inl (cA, 896, .inl (fun _ => 0))), (q31, .inr (7, [.int 0, .int 0, .int 0, .null, .null, .null, .null]))] H := hP
  have hD : va_D A [(h_t, .inr (9, [.ref q1, .ref q3, .ref q6, .ref q8, .ref q11, .ref q18, .ref q27, .null])), (q1, .inr (6, [.int 12, .int 0, .int 0, .ref q2])), (q2, .inl (cA, 8, .inl (fun _ => 0))), (q3, .inr (2, [.int 0, .int 0, .ref q4])), (q4, .inr (4, [.int 16, .ref q5])), (q5, .inl (cA, 176, .inl (fun _ => 0))), (q6, .inr (4, [.int 2, .ref q7])), (q7, .inl (cA, 22, .inl (fun _ => 0))), (q8, .inr (0, [.int 0, .ref q9, .ref q10])), (q9, .inl (cA, 20, .inl (fun _ => 0))), (q10, .inl (cA, 20, .inl (fun _ => 0))), (q11, .inr (1, [.int 0, .int 0, .ref q12, .ref q13, .ref q14, .ref q15, .ref q16])), (q12, .inl (cA, 224, .inl (fun _ => 0))), (q13, .inl (cA, 224, .inl (fun _ => 0))), (q14, .inl (cA, 224, .inl (fun _ => 0))), (q15, .inl (cA, 14, .inl (fun _ => 0))), (q16, .inr (5, [.ref q17])), (q17, .inl (cA, 128, .inl (fun _ => 0))), (q18, .inr (8, [.int 0, .int 0, .int 0, .int 0, .int 0, .ref q19, .ref q20, .ref q21, .ref q22, .ref q23, .ref q24, .ref q25, .ref q26])), (q19, .inl (cA, 13, .inl (fun _ => 0))), (q20, .inl (cA, 13, .inl (fun _ => 0))), (q21, .inl (cA, 169, .inl (fun _ => 0))), (q22, .inl (cA, 13, .inl (fun _ => 0))), (q23, .inl (cA, 13, .inl (fun _ => 0))), (q24, .inl (cA, 13, .inl (fun _ => 0))), (q25, .inl (cA, 13, .inl (fun _ => 0))), (q26, .inl (cA, 13, .inl (fun _ => 0))), (q27, .inr (3, [.int 0, .ref q28, .ref q29, .ref q30])), (q28, .inl (cA, 8, .inl (fun _ => 0))), (q29, .inl (cA, 64, .inl (fun _ => 0))), (q30, .inl (cA, 896, .inl (fun _ => 0))), (q31, .inr (7, [.int 0, .int 0, .int 0, .null, .null, .null, .null]))] := hD
  refine W.widen (k := 31) (n := 2334) (Nat.le_of_ble_eq_true rfl) (Nat.le_of_ble_eq_true rfl) ?_
  refine lv_dup hx hb dX10_init_86 rfl ?_
  refine my_cIN (As := []) (rest := [.ref q31, .ref h_t]) (WC := [(q31, .inr (7, [.int 0, .int 0, .int 0, .null, .null, .null, .null]))]) (WR := [(h_t, .inr (9, [.ref q1, .ref q3, .ref q6, .ref q8, .ref q11, .ref q18, .ref q27, .null])), (q1, .inr (6, [.int 12, .int 0, .int 0, .ref q2])), (q2, .inl (cA, 8, .inl (fun _ => 0))), (q3, .inr (2, [.int 0, .int 0, .ref q4])), (q4, .inr (4, [.int 16, .ref q5])), (q5, .inl (cA, 176, .inl (fun _ => 0))), (q6, .inr (4, [.int 2, .ref q7])), (q7, .inl (cA, 22, .inl (fun _ => 0))), (q8, .inr (0, [.int 0, .ref q9, .ref q10])), (q9, .inl (cA, 20, .inl (fun _ => 0))), (q10, .inl (cA, 20, .inl (fun _ => 0))), (q11, .inr (1, [.int 0, .int 0, .ref q12, .ref q13, .ref q14, .ref q15, .ref q16])), (q12, .inl (cA, 224, .inl (fun _ => 0))), (q13, .inl (cA, 224, .inl (fun _ => 0))), (q14, .inl (cA, 224, .inl (fun _ => 0))), (q15, .inl (cA, 14, .inl (fun _ => 0))), (q16, .inr (5, [.ref q17])), (q17, .inl (cA, 128, .inl (fun _ => 0))), (q18, .inr (8, [.int 0, .int 0, .int 0, .int 0, .int 0, .ref q19, .ref q20, .ref q21, .ref q22, .ref q23, .ref q24, .ref q25, .ref q26])), (q19, .inl (cA, 13, .inl (fun _ => 0))), (q20, .inl (cA, 13, .inl (fun _ => 0))), (q21, .inl (cA, 169, .inl (fun _ => 0))), (q22, .inl (cA, 13, .inl (fun _ => 0))), (q23, .inl (cA, 13, .inl (fun _ => 0))), (q24, .inl (cA, 13, .inl (fun _ => 0))), (q25, .inl (cA, 13, .inl (fun _ => 0))), (q26, .inl (cA, 13, .inl (fun _ => 0))), (q27, .inr (3, [.int 0, .ref q28, .ref q29, .ref q30])), (q28, .inl (cA, 8, .inl (fun _ => 0))), (q29, .inl (cA, 64, .inl (fun _ => 0))), (q30, .inl (cA, 896, .inl (fun _ => 0)))]) (NS := [("ToneSets$Smooth", 33, yX6_init, "ToneSets")]) ⟨hx, hb, hml, hown, hts⟩ hK hP hD hS hA (fun sz => c_Smooth_init l dC dI cA q31 sz) ⟨va_cnB 0 hts gX10_init_X8_init_n62 rfl rfl rfl (hNS _ (List.mem_of_getElem? (i := 6) rfl)) k34 (by decide +kernel) ⟨Nat.le_of_ble_eq_true rfl, Nat.le_of_ble_eq_true rfl⟩, rfl, k111⟩ (fun q hq => by cases List.mem_singleton.mp hq; exact hNS _ (List.mem_of_getElem? (i := 8) rfl)) [31] [0, 1, 2, 3, 4, 5, 6, 7, 8, 9, 10, 11, 12, 13, 14, 15, 16, 17, 18, 19, 20, 21, 22, 23, 24, 25, 26, 27, 28, 29, 30] rfl rfl rfl rfl rfl hl.1 (Nat.le_of_ble_eq_true rfl) dX10_init_87 ⟨Nat.le_of_ble_eq_true rfl, Nat.le_of_ble_eq_true rfl⟩ (fun w1 hG H locs hP hD hS => ?_)
  obtain ⟨q32, q33, q34, q35, q36, rfl⟩ := hG
  have hP : va_P (dC, dI) vwCl [(h_t, .inr (9, [.ref q1, .ref q3, .ref q6, .ref q8, .ref q11, .ref q18, .ref q27, .null])), (q1, .inr (6, [.int 12, .int 0, .int 0, .ref q2])), (q2, .inl (cA, 8, .inl (fun _ => 0))), (q3, .inr (2, [.int 0, .int 0, .ref q4])), (q4, .inr (4, [.int 16, .ref q5])), (q5, .inl (cA, 176, .inl (fun _ => 0))), (q6, .inr (4, [.int 2, .ref q7])), (q7, .inl (cA, 22, .inl (fun _ => 0))), (q8, .inr (0, [.int 0, .ref q9, .ref q10])), (q9, .inl (cA, 20, .inl (fun _ => 0))), (q10, .inl (cA, 20, .inl (fun _ => 0))), (q11, .inr (1, [.int 0, .int 0, .ref q12, .ref q13, .ref q14, .ref q15, .ref q16])), (q12, .inl (cA, 224, .inl (fun _ => 0))), (q13, .inl (cA, 224, .inl (fun _ => 0))), (q14, .inl (cA, 224, .inl (fun _ => 0))), (q15, .inl (cA, 14, .inl (fun _ => 0))), (q16, .inr (5, [.ref q17])), (q17, .inl (cA, 128, .inl (fun _ => 0))), (q18, .inr (8, [.int 0, .int 0, .int 0, .int 0, .int 0, .ref q19, .ref q20, .ref q21, .ref q22, .ref q23, .ref q24, .ref q25, .ref q26])), (q19, .inl (cA, 13, .inl (fun _ => 0))), (q20, .inl (cA, 13, .inl (fun _ => 0))), (q21, .inl (cA, 169, .inl (fun _ => 0))), (q22, .inl (cA, 13, .inl (fun _ => 0))), (q23, .inl (cA, 13, .inl (fun _ => 0))), (q24, .inl (cA, 13, .inl (fun _ => 0))), (q25, .inl (cA, 13, .inl (fun _ => 0))), (q26, .inl (cA, 13, .inl (fun _ => 0))), (q27, .inr (3, [.int 0, .ref q28, .ref q29, .ref q30])), (q28, .inl (cA, 8, .inl (fun _ => 0))), (q29, .inl (cA, 64, .inl (fun _ => 0))), (q30, .inl (cA, 896, .inl (fun _ => 0))), (q31, .inr (7, [.int 0, .int (-1), .int 0, .ref q32, .ref q33, .ref q34, .ref q35])), (q32, .inl (cA, 924, .inl (fun _ => 0))), (q33, .inl (cA, 924, .inl (fun _ => 0))), (q34, .inl (cA, 16, .inl (fun _ => 0))), (q35, .inr (5, [.ref q36])), (q36, .inl (cA, 128, .inl (fun _ => 0)))] H := hP
  have hD : va_D A [(h_t, .inr (9, [.ref q1, .ref q3, .ref q6, .ref q8, .ref q11, .ref q18, .ref q27, .null])), (q1, .inr (6, [.int 12, .int 0, .int 0, .ref q2])), (q2, .inl (cA, 8, .inl (fun _ => 0))), (q3, .inr (2, [.int 0, .int 0, .ref q4])), (q4, .inr (4, [.int 16, .ref q5])), (q5, .inl (cA, 176, .inl (fun _ => 0))), (q6, .inr (4, [.int 2, .ref q7])), (q7, .inl (cA, 22, .inl (fun _ => 0))), (q8, .inr (0, [.int 0, .ref q9, .ref q10])), (q9, .inl (cA, 20, .inl (fun _ => 0))), (q10, .inl (cA, 20, .inl (fun _ => 0))), (q11, .inr (1, [.int 0, .int 0, .ref q12, .ref q13, .ref q14, .ref q15, .ref q16])), (q12, .inl (cA, 224, .inl (fun _ => 0))), (q13, .inl (cA, 224, .inl (fun _ => 0))), (q14, .inl (cA, 224, .inl (fun _ => 0))), (q15, .inl (cA, 14, .inl (fun _ => 0))), (q16, .inr (5, [.ref q17])), (q17, .inl (cA, 128, .inl (fun _ => 0))), (q18, .inr (8, [.int 0, .int 0, .int 0, .int 0, .int 0, .ref q19, .ref q20, .ref q21, .ref q22, .ref q23, .ref q24, .ref q25, .ref q26])), (q19, .inl (cA, 13, .inl (fun _ => 0))), (q20, .inl (cA, 13, .inl (fun _ => 0))), (q21, .inl (cA, 169, .inl (fun _ => 0))), (q22, .inl (cA, 13, .inl (fun _ => 0))), (q23, .inl (cA, 13, .inl (fun _ => 0))), (q24, .inl (cA, 13, .inl (fun _ => 0))), (q25, .inl (cA, 13, .inl (fun _ => 0))), (q26, .inl (cA, 13, .inl (fun _ => 0))), (q27, .inr (3, [.int 0, .ref q28, .ref q29, .ref q30])), (q28, .inl (cA, 8, .inl (fun _ => 0))), (q29, .inl (cA, 64, .inl (fun _ => 0))), (q30, .inl (cA, 896, .inl (fun _ => 0))), (q31, .inr (7, [.int 0, .int (-1), .int 0, .ref q32, .ref q33, .ref q34, .ref q35])), (q32, .inl (cA, 924, .inl (fun _ => 0))), (q33, .inl (cA, 924, .inl (fun _ => 0))), (q34, .inl (cA, 16, .inl (fun _ => 0))), (q35, .inr (5, [.ref q36])), (q36, .inl (cA, 128, .inl (fun _ => 0)))] := hD
  refine W.widen (k := 36) (n := 4327) (Nat.le_of_ble_eq_true rfl) (Nat.le_of_ble_eq_true rfl) ?_
  refine my_putF (W' := [(h_t, .inr (9, [.ref q1, .ref q3, .ref q6, .ref q8, .ref q11, .ref q18, .ref q27, .ref q31])), (q1, .inr (6, [.int 12, .int 0, .int 0, .ref q2])), (q2, .inl (cA, 8, .inl (fun _ => 0))), (q3, .inr (2, [.int 0, .int 0, .ref q4])), (q4, .inr (4, [.int 16, .ref q5])), (q5, .inl (cA, 176, .inl (fun _ => 0))), (q6, .inr (4, [.int 2, .ref q7])), (q7, .inl (cA, 22, .inl (fun _ => 0))), (q8, .inr (0, [.int 0, .ref q9, .ref q10])), (q9, .inl (cA, 20, .inl (fun _ => 0))), (q10, .inl (cA, 20, .inl (fun _ => 0))), (q11, .inr (1, [.int 0, .int 0, .ref q12, .ref q13, .ref q14, .ref q15, .ref q16])), (q12, .inl (cA, 224, .inl (fun _ => 0))), (q13, .inl (cA, 224, .inl (fun _ => 0))), (q14, .inl (cA, 224, .inl (fun _ => 0))), (q15, .inl (cA, 14, .inl (fun _ => 0))), (q16, .inr (5, [.ref q17])), (q17, .inl (cA, 128, .inl (fun _ => 0))), (q18, .inr (8, [.int 0, .int 0, .int 0, .int 0, .int 0, .ref q19, .ref q20, .ref q21, .ref q22, .ref q23, .ref q24, .ref q25, .ref q26])), (q19, .inl (cA, 13, .inl (fun _ => 0))), (q20, .inl (cA, 13, .inl (fun _ => 0))), (q21, .inl (cA, 169, .inl (fun _ => 0))), (q22, .inl (cA, 13, .inl (fun _ => 0))), (q23, .inl (cA, 13, .inl (fun _ => 0))), (q24, .inl (cA, 13, .inl (fun _ => 0))), (q25, .inl (cA, 13, .inl (fun _ => 0))), (q26, .inl (cA, 13, .inl (fun _ => 0))), (q27, .inr (3, [.int 0, .ref q28, .ref q29, .ref q30])), (q28, .inl (cA, 8, .inl (fun _ => 0))), (q29, .inl (cA, 64, .inl (fun _ => 0))), (q30, .inl (cA, 896, .inl (fun _ => 0))), (q31, .inr (7, [.int 0, .int (-1), .int 0, .ref q32, .ref q33, .ref q34, .ref q35])), (q32, .inl (cA, 924, .inl (fun _ => 0))), (q33, .inl (cA, 924, .inl (fun _ => 0))), (q34, .inl (cA, 16, .inl (fun _ => 0))), (q35, .inr (5, [.ref q36])), (q36, .inl (cA, 128, .inl (fun _ => 0)))]) (ci := 9) (v := .ref q31) (ty := .object "ToneSets$Smooth") (C := RX10) (T := TX10) (N := 8) hx hb hts uX10 tyX10 tyX10_ok nmX10 hown hK hP hD hS 0 rfl rfl 7 (by decide) k35 (fun _ h9 => h9) rfl hin rfl (by decide +kernel) rfl rfl (Nat.le_of_ble_eq_true rfl) dX10_init_90 rfl (fun H locs hP hD hS => ?_)
  exact W_mono hQ (W.vret hx hb hr (fun t ht hW => ⟨⟨(), rfl, trivial, _, ⟨_, _, _, _, _, _, _, _, _, _, _, _, _, _, _, _, _, _, _, _, _, _, _, _, _, _, _, _, _, _, _, _, _, _, _, _, rfl⟩, by rw [ht]; exact hP, va_K.moved hW.alike hK, hD⟩, hS.F ht⟩) hS.2.2 dX10_init_93)
def G_Md_init (cA : ClassId) (h_t : Nat) : va_W → Prop := fun w => ∃ q1 q2 q3 q4 q5 q6 q7 q8 q9 q10 : Nat, w = [(h_t, .inr (10, [.ref q1, .int 0, .int 0, .int 0, .ref q2, .ref q3, .ref q4, .int 0, .ref q5, .int 0, .int 0, .ref q6, .ref q7, .ref q8, .ref q9, .ref q10, .int 0])), (q1, .inl (cA, 190, .inl (upd (fun _ => 0) 0 12))), (q2, .inl (cA, 2, .inl (fun _ => 0))), (q3, .inl (cA, 20, .inl (fun _ => 0))), (q4, .inl (cA, 20, .inl (fun _ => 0))), (q5, .inl (cA, 400, .inl (fun _ => 0))), (q6, .inl (cA, 4096, .inl (fun _ => 0))), (q7, .inl (cA, 4096, .inl (fun _ => 0))), (q8, .inl (cA, 64, .inl (fun _ => 0))), (q9, .inl (cA, 2048, .inl (fun _ => 0))), (q10, .inl (cA, 4096, .inl (fun _ => 0)))]
abbrev rmX11_init : Room := { frames := 1, cells := 10, slots := 15032, locals := 20 }
theorem uX11_X11_init : ∀ w ∈ wsX110, w ∈ wsX11_init := fun _ h => List.mem_cons_of_mem _ (List.mem_append_right _ (h))
set_option maxHeartbeats 40000000 in
set_option maxRecDepth 100000 in
theorem c_Md_init (l : Launch) (dC : Nat → ClassId) (dI : Nat → Nat → Nat) (cA : ClassId) (h_t sz : Nat) : Met l yX11_init wsX11_init rmX11_init (nPre (dC, dI) cA [.ref h_t] sz [(h_t, .inr (10, [.null, .int 0, .int 0, .int 0, .null, .null, .null, .int 0, .null, .int 0, .int 0, .null, .null, .null, .null, .null, .int 0]))] []) (nPos (dC, dI) cA (va_A [(h_t, .inr (10, [.null, .int 0, .int 0, .int 0, .null, .null, .null, .int 0, .null, .int 0, .int 0, .null, .null, .null, .null, .null, .int 0]))] sz) (G_Md_init cA h_t)) 10 15032 (va_A [(h_t, .inr (10, [.null, .int 0, .int 0, .int 0, .null, .null, .null, .int 0, .null, .int 0, .int 0, .null, .null, .null, .null, .null, .int 0]))] sz) := by
  refine Met.ofW (cc := cX11_init) (maxL := 1) (ret := none) (by decide) rfl ?_
  intro p e s m args below meth c s₁ B hml hv
  obtain ⟨rfl, ⟨hsz, hP, hK, hD0⟩, hNS⟩ := hv
  refine W_gen (fun Q hQ => ?_)
  have hx := B.exec
  have hb := B.bytes
  have hr := B.returns
  have hts := atoms_spec (ws := wsX11_init) B.pre
  have hown : s.vm.findClass RX11 = some m.cls := findClass_of_methodNamed B.named
  have hlocks := B.notSynchronized
  have hin : meth.name = "<init>" := (name_of_methodNamed B.named B.method).1
  subst hsz
  have hD := hD0.self (sz := s.heap.size)
  clear hD0
  generalize hAe : va_A [(h_t, .inr (10, [.null, .int 0, .int 0, .int 0, .null, .null, .null, .int 0, .null, .int 0, .int 0, .null, .null, .null, .null, .null, .int 0]))] s.heap.size = A at hD hQ
  have hA : ∀ q : Nat, s.heap.size ≤ q → A q := fun q h => by rw [← hAe]; exact Or.inr h
  clear hAe
  have hS : va_S A s.heap s.heap [] := va_S.rf
  have hl := lv_entry ([.ref h_t]) (n := 1) (Nat.le_of_ble_eq_true rfl)
  rw [lg_entry_eq]
  generalize (lg_sl ([.ref h_t]) ++ List.replicate (1 - (lg_sl ([.ref h_t])).length) Slot.unset).toArray = ls at hl ⊢
  have hl : lv_has ls 1 [(0, .ref h_t)] := hl
  have k1 := hts (.methodLink RX11 1 objectInit) (List.mem_of_getElem? (i := 1) rfl)
  have k2 := hts (.instanceMethod objectInit) (List.mem_of_getElem? (i := 2) rfl)
  have k3 := hts (.code objectInit ⟨#[0xb1]⟩ 1 none) (List.mem_of_getElem? (i := 3) rfl)
  have k4 := hts (.arrayClass .int) (List.mem_of_getElem? (i := 4) rfl)
  have k5 := hts (.fieldLink RX11 7 "ToneSetsModel" "w" "[I") (List.mem_of_getElem? (i := 5) rfl)
  have k6 := hts (.fieldLink RX11 13 "ToneSetsModel" "imageSeed" "[I") (List.mem_of_getElem? (i := 6) rfl)
  have k7 := hts (.fieldLink RX11 16 "ToneSetsModel" "bookOf" "[I") (List.mem_of_getElem? (i := 7) rfl)
  have k8 := hts (.fieldLink RX11 19 "ToneSetsModel" "bookIs" "[I") (List.mem_of_getElem? (i := 8) rfl)
  have k9 := hts (.fieldLink RX11 22 "ToneSetsModel" "forms" "[I") (List.mem_of_getElem? (i := 9) rfl)
  have k10 := hts (.fieldLink RX11 25 "ToneSetsModel" "best" "[I") (List.mem_of_getElem? (i := 10) rfl)
  have k11 := hts (.fieldLink RX11 28 "ToneSetsModel" "next" "[I") (List.mem_of_getElem? (i := 11) rfl)
  have k12 := hts (.fieldLink RX11 31 "ToneSetsModel" "ways" "[I") (List.mem_of_getElem? (i := 12) rfl)
  have k13 := hts (.fieldLink RX11 34 "ToneSetsModel" "round" "[I") (List.mem_of_getElem? (i := 13) rfl)
  have k14 := hts (.fieldLink RX11 37 "ToneSetsModel" "roughs" "[I") (List.mem_of_getElem? (i := 14) rfl)
  have uX11 := uX11_X11_init
  refine lv_aload_n hx hb dX11_init_0 rfl (lv_at hl 0 rfl) ?_
  refine W.objInit hx hb hown k1 k2 k3 rfl (by rw [hml]; exact hl.1) rfl dX11_init_1 (Nat.le_of_ble_eq_true rfl) (Nat.le_of_ble_eq_true rfl) ?_
  refine W.eq (g2 := F0 m 4 ls []) rfl ?_
  refine lv_aload_n hx hb dX11_init_4 rfl (lv_at hl 0 rfl) ?_
  refine lv_sipush (v := 190) hx hb dX11_init_5 (by decide) ?_
  refine my_newa (N' := 190) hx hb k4 hK hP hD hS hA (by decide) rfl (Nat.le_of_ble_eq_true rfl) (Nat.le_of_ble_eq_true rfl) (Nat.le_of_ble_eq_true rfl) dX11_init_8 (fun q1 H hP hD hS => ?_)
  have hP : va_P (dC, dI) vwCl [(h_t, .inr (10, [.null, .int 0, .int 0, .int 0, .null, .null, .null, .int 0, .null, .int 0, .int 0, .null, .null, .null, .null, .null, .int 0])), (q1, .inl (cA, 190, .inl (fun _ => 0)))] H := hP
  have hD : va_D A [(h_t, .inr (10, [.null, .int 0, .int 0, .int 0, .null, .null, .null, .int 0, .null, .int 0, .int 0, .null, .null, .null, .null, .null, .int 0])), (q1, .inl (cA, 190, .inl (fun _ => 0)))] := hD
  refine W.widen (k := 1) (n := 190) (Nat.le_of_ble_eq_true rfl) (Nat.le_of_ble_eq_true rfl) ?_
  refine my_putF (W' := [(h_t, .inr (10, [.ref q1, .int 0, .int 0, .int 0, .null, .null, .null, .int 0, .null, .int 0, .int 0, .null, .null, .null, .null, .null, .int 0])), (q1, .inl (cA, 190, .inl (fun _ => 0)))]) (ci := 10) (v := .ref q1) (ty := .array .int) (C := RX11) (T := TX11) (N := 17) hx hb hts uX11 tyX11 tyX11_ok nmX11 hown hK hP hD hS 0 rfl rfl 0 (by decide) k5 (fun _ h9 => h9) rfl hin rfl (by decide +kernel) rfl rfl (Nat.le_of_ble_eq_true rfl) dX11_init_10 rfl (fun H locs hP hD hS => ?_)
  refine lv_aload_n hx hb dX11_init_13 rfl (lv_at hl 0 rfl) ?_
  refine lv_iconst (v := 2) hx hb dX11_init_14 (by decide) ?_
  refine my_newa (N' := 2) hx hb k4 hK hP hD hS hA (by decide) rfl (Nat.le_of_ble_eq_true rfl) (Nat.le_of_ble_eq_true rfl) (Nat.le_of_ble_eq_true rfl) dX11_init_15 (fun q2 H hP hD hS => ?_)
  have hP : va_P (dC, dI) vwCl [(h_t, .inr (10, [.ref q1, .int 0, .int 0, .int 0, .null, .null, .null, .int 0, .null, .int 0, .int 0, .null, .null, .null, .null, .null, .int 0])), (q1, .inl (cA, 190, .inl (fun _ => 0))), (q2, .inl (cA, 2, .inl (fun _ => 0)))] H := hP
  have hD : va_D A [(h_t, .inr (10, [.ref q1, .int 0, .int 0, .int 0, .null, .null, .null, .int 0, .null, .int 0, .int 0, .null, .null, .null, .null, .null, .int 0])), (q1, .inl (cA, 190, .inl (fun _ => 0))), (q2, .inl (cA, 2, .inl (fun _ => 0)))] := hD
  refine W.widen (k := 2) (n := 192) (Nat.le_of_ble_eq_true rfl) (Nat.le_of_ble_eq_true rfl) ?_
  refine my_putF (W' := [(h_t, .inr (10, [.ref q1, .int 0, .int 0, .int 0, .ref q2, .null, .null, .int 0, .null, .int 0, .int 0, .null, .null, .null, .null, .null, .int 0])), (q1, .inl (cA, 190, .inl (fun _ => 0))), (q2, .inl (cA, 2, .inl (fun _ => 0)))]) (ci := 10) (v := .ref q2) (ty := .array .int) (C := RX11) (T := TX11) (N := 17) hx hb hts uX11 tyX11 tyX11_ok nmX11 hown hK hP hD hS 0 rfl rfl 4 (by decide) k6 (fun _ h9 => h9) rfl hin rfl (by decide +kernel) rfl rfl (Nat.le_of_ble_eq_true rfl) dX11_init_17 rfl (fun H locs hP hD hS => ?_)
  refine lv_aload_n hx hb dX11_init_20 rfl (lv_at hl 0 rfl) ?_
  refine lv_bipush (v := 20) hx hb dX11_init_21 (by decide) ?_
  refine my_newa (N' := 20) hx hb k4 hK hP hD hS hA (by decide) rfl (Nat.le_of_ble_eq_true rfl) (Nat.le_of_ble_eq_true rfl) (Nat.le_of_ble_eq_true rfl) dX11_init_23 (fun q3 H hP hD hS => ?_)
  have hP : va_P (dC, dI) vwCl [(h_t, .inr (10, [.ref q1, .int 0, .int 0, .int 0, .ref q2, .null, .null, .int 0, .null, .int 0, .int 0, .null, .null, .null, .null, .null, .int 0])), (q1, .inl (cA, 190, .inl (fun _ => 0))), (q2, .inl (cA, 2, .inl (fun _ => 0))), (q3, .inl (cA, 20, .inl (fun _ => 0)))] H := hP
  have hD : va_D A [(h_t, .inr (10, [.ref q1, .int 0, .int 0, .int 0, .ref q2, .null, .null, .int 0, .null, .int 0, .int 0, .null, .null, .null, .null, .null, .int 0])), (q1, .inl (cA, 190, .inl (fun _ => 0))), (q2, .inl (cA, 2, .inl (fun _ => 0))), (q3, .inl (cA, 20, .inl (fun _ => 0)))] := hD
  refine W.widen (k := 3) (n := 212) (Nat.le_of_ble_eq_true rfl) (Nat.le_of_ble_eq_true rfl) ?_
  refine my_putF (W' := [(h_t, .inr (10, [.ref q1, .int 0, .int 0, .int 0, .ref q2, .ref q3, .null, .int 0, .null, .int 0, .int 0, .null, .null, .null, .null, .null, .int 0])), (q1, .inl (cA, 190, .inl (fun _ => 0))), (q2, .inl (cA, 2, .inl (fun _ => 0))), (q3, .inl (cA, 20, .inl (fun _ => 0)))]) (ci := 10) (v := .ref q3) (ty := .array .int) (C := RX11) (T := TX11) (N := 17) hx hb hts uX11 tyX11 tyX11_ok nmX11 hown hK hP hD hS 0 rfl rfl 5 (by decide) k7 (fun _ h9 => h9) rfl hin rfl (by decide +kernel) rfl rfl (Nat.le_of_ble_eq_true rfl) dX11_init_25 rfl (fun H locs hP hD hS => ?_)
  refine lv_aload_n hx hb dX11_init_28 rfl (lv_at hl 0 rfl) ?_
  refine lv_bipush (v := 20) hx hb dX11_init_29 (by decide) ?_
  refine my_newa (N' := 20) hx hb k4 hK hP hD hS hA (by decide) rfl (Nat.le_of_ble_eq_true rfl) (Nat.le_of_ble_eq_true rfl) (Nat.le_of_ble_eq_true rfl) dX11_init_31 (fun q4 H hP hD hS => ?_)
  have hP : va_P (dC, dI) vwCl [(h_t, .inr (10, [.ref q1, .int 0, .int 0, .int 0, .ref q2, .ref q3, .null, .int 0, .null, .int 0, .int 0, .null, .null, .null, .null, .null, .int 0])), (q1, .inl (cA, 190, .inl (fun _ => 0))), (q2, .inl (cA, 2, .inl (fun _ => 0))), (q3, .inl (cA, 20, .inl (fun _ => 0))), (q4, .inl (cA, 20, .inl (fun _ => 0)))] H := hP
  have hD : va_D A [(h_t, .inr (10, [.ref q1, .int 0, .int 0, .int 0, .ref q2, .ref q3, .null, .int 0, .null, .int 0, .int 0, .null, .null, .null, .null, .null, .int 0])), (q1, .inl (cA, 190, .inl (fun _ => 0))), (q2, .inl (cA, 2, .inl (fun _ => 0))), (q3, .inl (cA, 20, .inl (fun _ => 0))), (q4, .inl (cA, 20, .inl (fun _ => 0)))] := hD
  refine W.widen (k := 4) (n := 232) (Nat.le_of_ble_eq_true rfl) (Nat.le_of_ble_eq_true rfl) ?_
  refine my_putF (W' := [(h_t, .inr (10, [.ref q1, .int 0, .int 0, .int 0, .ref q2, .ref q3, .ref q4, .int 0, .null, .int 0, .int 0, .null, .null, .null, .null, .null, .int 0])), (q1, .inl (cA, 190, .inl (fun _ => 0))), (q2, .inl (cA, 2, .inl (fun _ => 0))), (q3, .inl (cA, 20, .inl (fun _ => 0))), (q4, .inl (cA, 20, .inl (fun _ => 0)))]) (ci := 10) (v := .ref q4) (ty := .array .int) (C := RX11) (T := TX11) (N := 17) hx hb hts uX11 tyX11 tyX11_ok nmX11 hown hK hP hD hS 0 rfl rfl 6 (by decide) k8 (fun _ h9 => h9) rfl hin rfl (by decide +kernel) rfl rfl (Nat.le_of_ble_eq_true rfl) dX11_init_33 rfl (fun H locs hP hD hS => ?_)
  refine lv_aload_n hx hb dX11_init_36 rfl (lv_at hl 0 rfl) ?_
  refine lv_sipush (v := 400) hx hb dX11_init_37 (by decide) ?_
  refine my_newa (N' := 400) hx hb k4 hK hP hD hS hA (by decide) rfl (Nat.le_of_ble_eq_true rfl) (Nat.le_of_ble_eq_true rfl) (Nat.le_of_ble_eq_true rfl) dX11_init_40 (fun q5 H hP hD hS => ?_)
  have hP : va_P (dC, dI) vwCl [(h_t, .inr (10, [.ref q1, .int 0, .int 0, .int 0, .ref q2, .ref q3, .ref q4, .int 0, .null, .int 0, .int 0, .null, .null, .null, .null, .null, .int 0])), (q1, .inl (cA, 190, .inl (fun _ => 0))), (q2, .inl (cA, 2, .inl (fun _ => 0))), (q3, .inl (cA, 20, .inl (fun _ => 0))), (q4, .inl (cA, 20, .inl (fun _ => 0))), (q5, .inl (cA, 400, .inl (fun _ => 0)))] H := hP
  have hD : va_D A [(h_t, .inr (10, [.ref q1, .int 0, .int 0, .int 0, .ref q2, .ref q3, .ref q4, .int 0, .null, .int 0, .int 0, .null, .null, .null, .null, .null, .int 0])), (q1, .inl (cA, 190, .inl (fun _ => 0))), (q2, .inl (cA, 2, .inl (fun _ => 0))), (q3, .inl (cA, 20, .inl (fun _ => 0))), (q4, .inl (cA, 20, .inl (fun _ => 0))), (q5, .inl (cA, 400, .inl (fun _ => 0)))] := hD
  refine W.widen (k := 5) (n := 632) (Nat.le_of_ble_eq_true rfl) (Nat.le_of_ble_eq_true rfl) ?_
  refine my_putF (W' := [(h_t, .inr (10, [.ref q1, .int 0, .int 0, .int 0, .ref q2, .ref q3, .ref q4, .int 0, .ref q5, .int 0, .int 0, .null, .null, .null, .null, .null, .int 0])), (q1, .inl (cA, 190, .inl (fun _ => 0))), (q2, .inl (cA, 2, .inl (fun _ => 0))), (q3, .inl (cA, 20, .inl (fun _ => 0))), (q4, .inl (cA, 20, .inl (fun _ => 0))), (q5, .inl (cA, 400, .inl (fun _ => 0)))]) (ci := 10) (v := .ref q5) (ty := .array .int) (C := RX11) (T := TX11) (N := 17) hx hb hts uX11 tyX11 tyX11_ok nmX11 hown hK hP hD hS 0 rfl rfl 8 (by decide) k9 (fun _ h9 => h9) rfl hin rfl (by decide +kernel) rfl rfl (Nat.le_of_ble_eq_true rfl) dX11_init_42 rfl (fun H locs hP hD hS => ?_)
  refine lv_aload_n hx hb dX11_init_45 rfl (lv_at hl 0 rfl) ?_
  refine lv_sipush (v := 4096) hx hb dX11_init_46 (by decide) ?_
  refine my_newa (N' := 4096) hx hb k4 hK hP hD hS hA (by decide) rfl (Nat.le_of_ble_eq_true rfl) (Nat.le_of_ble_eq_true rfl) (Nat.le_of_ble_eq_true rfl) dX11_init_49 (fun q6 H hP hD hS => ?_)
  have hP : va_P (dC, dI) vwCl [(h_t, .inr (10, [.ref q1, .int 0, .int 0, .int 0, .ref q2, .ref q3, .ref q4, .int 0, .ref q5, .int 0, .int 0, .null, .null, .null, .null, .null, .int 0])), (q1, .inl (cA, 190, .inl (fun _ => 0))), (q2, .inl (cA, 2, .inl (fun _ => 0))), (q3, .inl (cA, 20, .inl (fun _ => 0))), (q4, .inl (cA, 20, .inl (fun _ => 0))), (q5, .inl (cA, 400, .inl (fun _ => 0))), (q6, .inl (cA, 4096, .inl (fun _ => 0)))] H := hP
  have hD : va_D A [(h_t, .inr (10, [.ref q1, .int 0, .int 0, .int 0, .ref q2, .ref q3, .ref q4, .int 0, .ref q5, .int 0, .int 0, .null, .null, .null, .null, .null, .int 0])), (q1, .inl (cA, 190, .inl (fun _ => 0))), (q2, .inl (cA, 2, .inl (fun _ => 0))), (q3, .inl (cA, 20, .inl (fun _ => 0))), (q4, .inl (cA, 20, .inl (fun _ => 0))), (q5, .inl (cA, 400, .inl (fun _ => 0))), (q6, .inl (cA, 4096, .inl (fun _ => 0)))] := hD
  refine W.widen (k := 6) (n := 4728) (Nat.le_of_ble_eq_true rfl) (Nat.le_of_ble_eq_true rfl) ?_
  refine my_putF (W' := [(h_t, .inr (10, [.ref q1, .int 0, .int 0, .int 0, .ref q2, .ref q3, .ref q4, .int 0, .ref q5, .int 0, .int 0, .ref q6, .null, .null, .null, .null, .int 0])), (q1, .inl (cA, 190, .inl (fun _ => 0))), (q2, .inl (cA, 2, .inl (fun _ => 0))), (q3, .inl (cA, 20, .inl (fun _ => 0))), (q4, .inl (cA, 20, .inl (fun _ => 0))), (q5, .inl (cA, 400, .inl (fun _ => 0))), (q6, .inl (cA, 4096, .inl (fun _ => 0)))]) (ci := 10) (v := .ref q6) (ty := .array .int) (C := RX11) (T := TX11) (N := 17) hx hb hts uX11 tyX11 tyX11_ok nmX11 hown hK hP hD hS 0 rfl rfl 11 (by decide) k10 (fun _ h9 => h9) rfl hin rfl (by decide +kernel) rfl rfl (Nat.le_of_ble_eq_true rfl) dX11_init_51 rfl (fun H locs hP hD hS => ?_)
  refine lv_aload_n hx hb dX11_init_54 rfl (lv_at hl 0 rfl) ?_
  refine lv_sipush (v := 4096) hx hb dX11_init_55 (by decide) ?_
  refine my_newa (N' := 4096) hx hb k4 hK hP hD hS hA (by decide) rfl (Nat.le_of_ble_eq_true rfl) (Nat.le_of_ble_eq_true rfl) (Nat.le_of_ble_eq_true rfl) dX11_init_58 (fun q7 H hP hD hS => ?_)
  have hP : va_P (dC, dI) vwCl [(h_t, .inr (10, [.ref q1, .int 0, .int 0, .int 0, .ref q2, .ref q3, .ref q4, .int 0, .ref q5, .int 0, .int 0, .ref q6, .null, .null, .null, .null, .int 0])), (q1, .inl (cA, 190, .inl (fun _ => 0))), (q2, .inl (cA, 2, .inl (fun _ => 0))), (q3, .inl (cA, 20, .inl (fun _ => 0))), (q4, .inl (cA, 20, .inl (fun _ => 0))), (q5, .inl (cA, 400, .inl (fun _ => 0))), (q6, .inl (cA, 4096, .inl (fun _ => 0))), (q7, .inl (cA, 4096, .inl (fun _ => 0)))] H := hP
  have hD : va_D A [(h_t, .inr (10, [.ref q1, .int 0, .int 0, .int 0, .ref q2, .ref q3, .ref q4, .int 0, .ref q5, .int 0, .int 0, .ref q6, .null, .null, .null, .null, .int 0])), (q1, .inl (cA, 190, .inl (fun _ => 0))), (q2, .inl (cA, 2, .inl (fun _ => 0))), (q3, .inl (cA, 20, .inl (fun _ => 0))), (q4, .inl (cA, 20, .inl (fun _ => 0))), (q5, .inl (cA, 400, .inl (fun _ => 0))), (q6, .inl (cA, 4096, .inl (fun _ => 0))), (q7, .inl (cA, 4096, .inl (fun _ => 0)))] := hD
  refine W.widen (k := 7) (n := 8824) (Nat.le_of_ble_eq_true rfl) (Nat.le_of_ble_eq_true rfl) ?_
  refine my_putF (W' := [(h_t, .inr (10, [.ref q1, .int 0, .int 0, .int 0, .ref q2, .ref q3, .ref q4, .int 0, .ref q5, .int 0, .int 0, .ref q6, .ref q7, .null, .null, .null, .int 0])), (q1, .inl (cA, 190, .inl (fun _ => 0))), (q2, .inl (cA, 2, .inl (fun _ => 0))), (q3, .inl (cA, 20, .inl (fun _ => 0))), (q4, .inl (cA, 20, .inl (fun _ => 0))), (q5, .inl (cA, 400, .inl (fun _ => 0))), (q6, .inl (cA, 4096, .inl (fun _ => 0))), (q7, .inl (cA, 4096, .inl (fun _ => 0)))]) (ci := 10) (v := .ref q7) (ty := .array .int) (C := RX11) (T := TX11) (N := 17) hx hb hts uX11 tyX11 tyX11_ok nmX11 hown hK hP hD hS 0 rfl rfl 12 (by decide) k11 (fun _ h9 => h9) rfl hin rfl (by decide +kernel) rfl rfl (Nat.le_of_ble_eq_true rfl) dX11_init_60 rfl (fun H locs hP hD hS => ?_)
  refine lv_aload_n hx hb dX11_init_63 rfl (lv_at hl 0 rfl) ?_
  refine lv_bipush (v := 64) hx hb dX11_init_64 (by decide) ?_
  refine my_newa (N' := 64) hx hb k4 hK hP hD hS hA (by decide) rfl (Nat.le_of_ble_eq_true rfl) (Nat.le_of_ble_eq_true rfl) (Nat.le_of_ble_eq_true rfl) dX11_init_66 (fun q8 H hP hD hS => ?_)
  have hP : va_P (dC, dI) vwCl [(h_t, .inr (10, [.ref q1, .int 0, .int 0, .int 0, .ref q2, .ref q3, .ref q4, .int 0, .ref q5, .int 0, .int 0, .ref q6, .ref q7, .null, .null, .null, .int 0])), (q1, .inl (cA, 190, .inl (fun _ => 0))), (q2, .inl (cA, 2, .inl (fun _ => 0))), (q3, .inl (cA, 20, .inl (fun _ => 0))), (q4, .inl (cA, 20, .inl (fun _ => 0))), (q5, .inl (cA, 400, .inl (fun _ => 0))), (q6, .inl (cA, 4096, .inl (fun _ => 0))), (q7, .inl (cA, 4096, .inl (fun _ => 0))), (q8, .inl (cA, 64, .inl (fun _ => 0)))] H := hP
  have hD : va_D A [(h_t, .inr (10, [.ref q1, .int 0, .int 0, .int 0, .ref q2, .ref q3, .ref q4, .int 0, .ref q5, .int 0, .int 0, .ref q6, .ref q7, .null, .null, .null, .int 0])), (q1, .inl (cA, 190, .inl (fun _ => 0))), (q2, .inl (cA, 2, .inl (fun _ => 0))), (q3, .inl (cA, 20, .inl (fun _ => 0))), (q4, .inl (cA, 20, .inl (fun _ => 0))), (q5, .inl (cA, 400, .inl (fun _ => 0))), (q6, .inl (cA, 4096, .inl (fun _ => 0))), (q7, .inl (cA, 4096, .inl (fun _ => 0))), (q8, .inl (cA, 64, .inl (fun _ => 0)))] := hD
  refine W.widen (k := 8) (n := 8888) (Nat.le_of_ble_eq_true rfl) (Nat.le_of_ble_eq_true rfl) ?_
  refine my_putF (W' := [(h_t, .inr (10, [.ref q1, .int 0, .int 0, .int 0, .ref q2, .ref q3, .ref q4, .int 0, .ref q5, .int 0, .int 0, .ref q6, .ref q7, .ref q8, .null, .null, .int 0])), (q1, .inl (cA, 190, .inl (fun _ => 0))), (q2, .inl (cA, 2, .inl (fun _ => 0))), (q3, .inl (cA, 20, .inl (fun _ => 0))), (q4, .inl (cA, 20, .inl (fun _ => 0))), (q5, .inl (cA, 400, .inl (fun _ => 0))), (q6, .inl (cA, 4096, .inl (fun _ => 0))), (q7, .inl (cA, 4096, .inl (fun _ => 0))), (q8, .inl (cA, 64, .inl (fun _ => 0)))]) (ci := 10) (v := .ref q8) (ty := .array .int) (C := RX11) (T := TX11) (N := 17) hx hb hts uX11 tyX11 tyX11_ok nmX11 hown hK hP hD hS 0 rfl rfl 13 (by decide) k12 (fun _ h9 => h9) rfl hin rfl (by decide +kernel) rfl rfl (Nat.le_of_ble_eq_true rfl) dX11_init_68 rfl (fun H locs hP hD hS => ?_)
  refine lv_aload_n hx hb dX11_init_71 rfl (lv_at hl 0 rfl) ?_
  refine lv_sipush (v := 2048) hx hb dX11_init_72 (by decide) ?_
  refine my_newa (N' := 2048) hx hb k4 hK hP hD hS hA (by decide) rfl (Nat.le_of_ble_eq_true rfl) (Nat.le_of_ble_eq_true rfl) (Nat.le_of_ble_eq_true rfl) dX11_init_75 (fun q9 H hP hD hS => ?_)
  have hP : va_P (dC, dI) vwCl [(h_t, .inr (10, [.ref q1, .int 0, .int 0, .int 0, .ref q2, .ref q3, .ref q4, .int 0, .ref q5, .int 0, .int 0, .ref q6, .ref q7, .ref q8, .null, .null, .int 0])), (q1, .inl (cA, 190, .inl (fun _ => 0))), (q2, .inl (cA, 2, .inl (fun _ => 0))), (q3, .inl (cA, 20, .inl (fun _ => 0))), (q4, .inl (cA, 20, .inl (fun _ => 0))), (q5, .inl (cA, 400, .inl (fun _ => 0))), (q6, .inl (cA, 4096, .inl (fun _ => 0))), (q7, .inl (cA, 4096, .inl (fun _ => 0))), (q8, .inl (cA, 64, .inl (fun _ => 0))), (q9, .inl (cA, 2048, .inl (fun _ => 0)))] H := hP
  have hD : va_D A [(h_t, .inr (10, [.ref q1, .int 0, .int 0, .int 0, .ref q2, .ref q3, .ref q4, .int 0, .ref q5, .int 0, .int 0, .ref q6, .ref q7, .ref q8, .null, .null, .int 0])), (q1, .inl (cA, 190, .inl (fun _ => 0))), (q2, .inl (cA, 2, .inl (fun _ => 0))), (q3, .inl (cA, 20, .inl (fun _ => 0))), (q4, .inl (cA, 20, .inl (fun _ => 0))), (q5, .inl (cA, 400, .inl (fun _ => 0))), (q6, .inl (cA, 4096, .inl (fun _ => 0))), (q7, .inl (cA, 4096, .inl (fun _ => 0))), (q8, .inl (cA, 64, .inl (fun _ => 0))), (q9, .inl (cA, 2048, .inl (fun _ => 0)))] := hD
  refine W.widen (k := 9) (n := 10936) (Nat.le_of_ble_eq_true rfl) (Nat.le_of_ble_eq_true rfl) ?_
  refine my_putF (W' := [(h_t, .inr (10, [.ref q1, .int 0, .int 0, .int 0, .ref q2, .ref q3, .ref q4, .int 0, .ref q5, .int 0, .int 0, .ref q6, .ref q7, .ref q8, .ref q9, .null, .int 0])), (q1, .inl (cA, 190, .inl (fun _ => 0))), (q2, .inl (cA, 2, .inl (fun _ => 0))), (q3, .inl (cA, 20, .inl (fun _ => 0))), (q4, .inl (cA, 20, .inl (fun _ => 0))), (q5, .inl (cA, 400, .inl (fun _ => 0))), (q6, .inl (cA, 4096, .inl (fun _ => 0))), (q7, .inl (cA, 4096, .inl (fun _ => 0))), (q8, .inl (cA, 64, .inl (fun _ => 0))), (q9, .inl (cA, 2048, .inl (fun _ => 0)))]) (ci := 10) (v := .ref q9) (ty := .array .int) (C := RX11) (T := TX11) (N := 17) hx hb hts uX11 tyX11 tyX11_ok nmX11 hown hK hP hD hS 0 rfl rfl 14 (by decide) k13 (fun _ h9 => h9) rfl hin rfl (by decide +kernel) rfl rfl (Nat.le_of_ble_eq_true rfl) dX11_init_77 rfl (fun H locs hP hD hS => ?_)
  refine lv_aload_n hx hb dX11_init_80 rfl (lv_at hl 0 rfl) ?_
  refine lv_sipush (v := 4096) hx hb dX11_init_81 (by decide) ?_
  refine my_newa (N' := 4096) hx hb k4 hK hP hD hS hA (by decide) rfl (Nat.le_of_ble_eq_true rfl) (Nat.le_of_ble_eq_true rfl) (Nat.le_of_ble_eq_true rfl) dX11_init_84 (fun q10 H hP hD hS => ?_)
  have hP : va_P (dC, dI) vwCl [(h_t, .inr (10, [.ref q1, .int 0, .int 0, .int 0, .ref q2, .ref q3, .ref q4, .int 0, .ref q5, .int 0, .int 0, .ref q6, .ref q7, .ref q8, .ref q9, .null, .int 0])), (q1, .inl (cA, 190, .inl (fun _ => 0))), (q2, .inl (cA, 2, .inl (fun _ => 0))), (q3, .inl (cA, 20, .inl (fun _ => 0))), (q4, .inl (cA, 20, .inl (fun _ => 0))), (q5, .inl (cA, 400, .inl (fun _ => 0))), (q6, .inl (cA, 4096, .inl (fun _ => 0))), (q7, .inl (cA, 4096, .inl (fun _ => 0))), (q8, .inl (cA, 64, .inl (fun _ => 0))), (q9, .inl (cA, 2048, .inl (fun _ => 0))), (q10, .inl (cA, 4096, .inl (fun _ => 0)))] H := hP
  have hD : va_D A [(h_t, .inr (10, [.ref q1, .int 0, .int 0, .int 0, .ref q2, .ref q3, .ref q4, .int 0, .ref q5, .int 0, .int 0, .ref q6, .ref q7, .ref q8, .ref q9, .null, .int 0])), (q1, .inl (cA, 190, .inl (fun _ => 0))), (q2, .inl (cA, 2, .inl (fun _ => 0))), (q3, .inl (cA, 20, .inl (fun _ => 0))), (q4, .inl (cA, 20, .inl (fun _ => 0))), (q5, .inl (cA, 400, .inl (fun _ => 0))), (q6, .inl (cA, 4096, .inl (fun _ => 0))), (q7, .inl (cA, 4096, .inl (fun _ => 0))), (q8, .inl (cA, 64, .inl (fun _ => 0))), (q9, .inl (cA, 2048, .inl (fun _ => 0))), (q10, .inl (cA, 4096, .inl (fun _ => 0)))] := hD
  refine W.widen (k := 10) (n := 15032) (Nat.le_of_ble_eq_true rfl) (Nat.le_of_ble_eq_true rfl) ?_
  refine my_putF (W' := [(h_t, .inr (10, [.ref q1, .int 0, .int 0, .int 0, .ref q2, .ref q3, .ref q4, .int 0, .ref q5, .int 0, .int 0, .ref q6, .ref q7, .ref q8, .ref q9, .ref q10, .int 0])), (q1, .inl (cA, 190, .inl (fun _ => 0))), (q2, .inl (cA, 2, .inl (fun _ => 0))), (q3, .inl (cA, 20, .inl (fun _ => 0))), (q4, .inl (cA, 20, .inl (fun _ => 0))), (q5, .inl (cA, 400, .inl (fun _ => 0))), (q6, .inl (cA, 4096, .inl (fun _ => 0))), (q7, .inl (cA, 4096, .inl (fun _ => 0))), (q8, .inl (cA, 64, .inl (fun _ => 0))), (q9, .inl (cA, 2048, .inl (fun _ => 0))), (q10, .inl (cA, 4096, .inl (fun _ => 0)))]) (ci := 10) (v := .ref q10) (ty := .array .int) (C := RX11) (T := TX11) (N := 17) hx hb hts uX11 tyX11 tyX11_ok nmX11 hown hK hP hD hS 0 rfl rfl 15 (by decide) k14 (fun _ h9 => h9) rfl hin rfl (by decide +kernel) rfl rfl (Nat.le_of_ble_eq_true rfl) dX11_init_86 rfl (fun H locs hP hD hS => ?_)
  refine lv_aload_n hx hb dX11_init_89 rfl (lv_at hl 0 rfl) ?_
  refine va_get (D := (dC, dI)) (ci := 10) (v := .ref q1) (C := RX11) (T := TX11) (N := 17) hx hb hts uX11 hown hK hP 0 rfl rfl 0 (by decide) k5 (fun _ h9 => h9) rfl dX11_init_90 ?_
  refine lv_iconst (v := 0) hx hb dX11_init_93 (by decide) ?_
  refine lv_bipush (v := 12) hx hb dX11_init_94 (by decide) ?_
  refine my_iast (W' := fun z' => [(h_t, .inr (10, [.ref q1, .int 0, .int 0, .int 0, .ref q2, .ref q3, .ref q4, .int 0, .ref q5, .int 0, .int 0, .ref q6, .ref q7, .ref q8, .ref q9, .ref q10, .int 0])), (q1, .inl (cA, 190, .inl z')), (q2, .inl (cA, 2, .inl (fun _ => 0))), (q3, .inl (cA, 20, .inl (fun _ => 0))), (q4, .inl (cA, 20, .inl (fun _ => 0))), (q5, .inl (cA, 400, .inl (fun _ => 0))), (q6, .inl (cA, 4096, .inl (fun _ => 0))), (q7, .inl (cA, 4096, .inl (fun _ => 0))), (q8, .inl (cA, 64, .inl (fun _ => 0))), (q9, .inl (cA, 2048, .inl (fun _ => 0))), (q10, .inl (cA, 4096, .inl (fun _ => 0)))]) hx hb hK hP hD hS 1 0 rfl rfl (by unfold vp_in; decide) dX11_init_96 (fun _ => rfl) (fun z ez H locs hP hD hS => ?_)
  obtain rfl : z = upd (fun _ => 0) 0 12 := ez
  exact W_mono hQ (W.vret hx hb hr (fun t ht hW => ⟨⟨(), rfl, trivial, _, ⟨_, _, _, _, _, _, _, _, _, _, rfl⟩, by rw [ht]; exact hP, va_K.moved hW.alike hK, hD⟩, hS.F ht⟩) hS.2.2 dX11_init_97)
