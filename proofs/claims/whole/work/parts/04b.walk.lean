abbrev rmX9_least : Room := { frames := 3, cells := 0, slots := 0, locals := 70 }
theorem uX9_X9_least : ∀ w ∈ wsX90, w ∈ wsX9_least := fun _ h => List.mem_cons_of_mem _ (List.mem_append_right _ (h))
set_option maxHeartbeats 40000000 in
set_option maxRecDepth 100000 in
theorem c_Ways_least (l : Launch) (dC : Nat → ClassId) (dI : Nat → Nat → Nat) (cA : ClassId) (fu : Nat) (h_t h_t_goalTones h_t_goerTones h_t_extra h_t_goalPrices h_t_goerPrices h_t_goalOfGoer h_t_cameFrom h_t_slack : Nat) (f_t_nearestNumber : Int32) (f_t_nearestLength : Int32) (f_t_goals : Int32) (f_t_goers : Int32) (f_t_reached : Int32) (f_t_cameFrom : Nat → Int32) (f_t_extra : Nat → Int32) (f_t_goalOfGoer : Nat → Int32) (f_t_goalPrices : Nat → Int32) (f_t_goalTones : Nat → Int32) (f_t_goerPrices : Nat → Int32) (f_t_goerTones : Nat → Int32) (f_t_slack : Nat → Int32) (a1 : Int32) (a2 : Int32) (a3 : Int32) (r0 : Int32) (f_t_cameFrom_z : Nat → Int32) (f_t_extra_z : Nat → Int32) (f_t_goalOfGoer_z : Nat → Int32) (f_t_goalPrices_z : Nat → Int32) (f_t_goalTones_z : Nat → Int32) (f_t_goals_z : Int32) (f_t_goerPrices_z : Nat → Int32) (f_t_goerTones_z : Nat → Int32) (f_t_goers_z : Int32) (f_t_reached_z : Int32) (f_t_slack_z : Nat → Int32) (hm : m_Ways_least fu f_t_cameFrom f_t_extra f_t_goalOfGoer f_t_goalPrices f_t_goalTones f_t_goals f_t_goerPrices f_t_goerTones f_t_goers f_t_reached f_t_slack a1 a2 a3 = some (r0, f_t_cameFrom_z, f_t_extra_z, f_t_goalOfGoer_z, f_t_goalPrices_z, f_t_goalTones_z, f_t_goals_z, f_t_goerPrices_z, f_t_goerTones_z, f_t_goers_z, f_t_reached_z, f_t_slack_z)) (sz : Nat) : Met l yX9_least wsX9_least rmX9_least (mPre (dC, dI) cA [.ref h_t, .int a1, .int a2, .int a3] sz [(h_t, .inr (8, [.int f_t_nearestNumber, .int f_t_nearestLength, .int f_t_goals, .int f_t_goers, .int f_t_reached, .ref h_t_goalTones, .ref h_t_goerTones, .ref h_t_extra, .ref h_t_goalPrices, .ref h_t_goerPrices, .ref h_t_goalOfGoer, .ref h_t_cameFrom, .ref h_t_slack])), (h_t_cameFrom, .inl (cA, 13, .inl f_t_cameFrom)), (h_t_extra, .inl (cA, 169, .inl f_t_extra)), (h_t_goalOfGoer, .inl (cA, 13, .inl f_t_goalOfGoer)), (h_t_goalPrices, .inl (cA, 13, .inl f_t_goalPrices)), (h_t_goalTones, .inl (cA, 13, .inl f_t_goalTones)), (h_t_goerPrices, .inl (cA, 13, .inl f_t_goerPrices)), (h_t_goerTones, .inl (cA, 13, .inl f_t_goerTones)), (h_t_slack, .inl (cA, 13, .inl f_t_slack))]) (mPosI (dC, dI) cA r0 (va_A [(h_t, .inr (8, [.int f_t_nearestNumber, .int f_t_nearestLength, .int f_t_goals, .int f_t_goers, .int f_t_reached, .ref h_t_goalTones, .ref h_t_goerTones, .ref h_t_extra, .ref h_t_goalPrices, .ref h_t_goerPrices, .ref h_t_goalOfGoer, .ref h_t_cameFrom, .ref h_t_slack])), (h_t_cameFrom, .inl (cA, 13, .inl f_t_cameFrom)), (h_t_extra, .inl (cA, 169, .inl f_t_extra)), (h_t_goalOfGoer, .inl (cA, 13, .inl f_t_goalOfGoer)), (h_t_goalPrices, .inl (cA, 13, .inl f_t_goalPrices)), (h_t_goalTones, .inl (cA, 13, .inl f_t_goalTones)), (h_t_goerPrices, .inl (cA, 13, .inl f_t_goerPrices)), (h_t_goerTones, .inl (cA, 13, .inl f_t_goerTones)), (h_t_slack, .inl (cA, 13, .inl f_t_slack))] sz) [(h_t, .inr (8, [.int f_t_nearestNumber, .int f_t_nearestLength, .int f_t_goals_z, .int f_t_goers_z, .int f_t_reached_z, .ref h_t_goalTones, .ref h_t_goerTones, .ref h_t_extra, .ref h_t_goalPrices, .ref h_t_goerPrices, .ref h_t_goalOfGoer, .ref h_t_cameFrom, .ref h_t_slack])), (h_t_cameFrom, .inl (cA, 13, .inl f_t_cameFrom_z)), (h_t_extra, .inl (cA, 169, .inl f_t_extra_z)), (h_t_goalOfGoer, .inl (cA, 13, .inl f_t_goalOfGoer_z)), (h_t_goalPrices, .inl (cA, 13, .inl f_t_goalPrices_z)), (h_t_goalTones, .inl (cA, 13, .inl f_t_goalTones_z)), (h_t_goerPrices, .inl (cA, 13, .inl f_t_goerPrices_z)), (h_t_goerTones, .inl (cA, 13, .inl f_t_goerTones_z)), (h_t_slack, .inl (cA, 13, .inl f_t_slack_z))]) 0 0 (va_A [(h_t, .inr (8, [.int f_t_nearestNumber, .int f_t_nearestLength, .int f_t_goals, .int f_t_goers, .int f_t_reached, .ref h_t_goalTones, .ref h_t_goerTones, .ref h_t_extra, .ref h_t_goalPrices, .ref h_t_goerPrices, .ref h_t_goalOfGoer, .ref h_t_cameFrom, .ref h_t_slack])), (h_t_cameFrom, .inl (cA, 13, .inl f_t_cameFrom)), (h_t_extra, .inl (cA, 169, .inl f_t_extra)), (h_t_goalOfGoer, .inl (cA, 13, .inl f_t_goalOfGoer)), (h_t_goalPrices, .inl (cA, 13, .inl f_t_goalPrices)), (h_t_goalTones, .inl (cA, 13, .inl f_t_goalTones)), (h_t_goerPrices, .inl (cA, 13, .inl f_t_goerPrices)), (h_t_goerTones, .inl (cA, 13, .inl f_t_goerTones)), (h_t_slack, .inl (cA, 13, .inl f_t_slack))] sz) := by
  refine Met.ofW (cc := cX9_least) (maxL := 8) (ret := (some .int)) (by decide) rfl ?_
  intro p e s m args below meth c s₁ B hml hv
  obtain ⟨rfl, hsz, hP, hK, hD0⟩ := hv
  refine W_gen (fun Q hQ => ?_)
  have hx := B.exec
  have hb := B.bytes
  have hr := B.returns
  have hts := atoms_spec (ws := wsX9_least) B.pre
  have hown : s.vm.findClass RX9 = some m.cls := findClass_of_methodNamed B.named
  have hlocks := B.notSynchronized
  subst hsz
  have hD := hD0.self (sz := s.heap.size)
  clear hD0
  generalize hAe : va_A [(h_t, .inr (8, [.int f_t_nearestNumber, .int f_t_nearestLength, .int f_t_goals, .int f_t_goers, .int f_t_reached, .ref h_t_goalTones, .ref h_t_goerTones, .ref h_t_extra, .ref h_t_goalPrices, .ref h_t_goerPrices, .ref h_t_goalOfGoer, .ref h_t_cameFrom, .ref h_t_slack])), (h_t_cameFrom, .inl (cA, 13, .inl f_t_cameFrom)), (h_t_extra, .inl (cA, 169, .inl f_t_extra)), (h_t_goalOfGoer, .inl (cA, 13, .inl f_t_goalOfGoer)), (h_t_goalPrices, .inl (cA, 13, .inl f_t_goalPrices)), (h_t_goalTones, .inl (cA, 13, .inl f_t_goalTones)), (h_t_goerPrices, .inl (cA, 13, .inl f_t_goerPrices)), (h_t_goerTones, .inl (cA, 13, .inl f_t_goerTones)), (h_t_slack, .inl (cA, 13, .inl f_t_slack))] s.heap.size = A at hD hQ
  have hA : ∀ q : Nat, s.heap.size ≤ q → A q := fun q h => by rw [← hAe]; exact Or.inr h
  clear hAe
  have hS : va_S A s.heap s.heap [] := va_S.rf
  have hl := lv_entry ([.ref h_t, .int a1, .int a2, .int a3]) (n := 8) (Nat.le_of_ble_eq_true rfl)
  rw [lg_entry_eq]
  generalize (lg_sl ([.ref h_t, .int a1, .int a2, .int a3]) ++ List.replicate (8 - (lg_sl ([.ref h_t, .int a1, .int a2, .int a3])).length) Slot.unset).toArray = ls at hl ⊢
  have hl : lv_has ls 8 [(0, .ref h_t), (1, .int a1), (2, .int a2), (3, .int a3)] := hl
  have k1 := hts (.fieldLink RX9 31 "ToneSets$Ways" "goerTones" "[I") (List.mem_of_getElem? (i := 1) rfl)
  have k2 := hts (.fieldLink RX9 21 "ToneSets$Ways" "goers" "I") (List.mem_of_getElem? (i := 2) rfl)
  have k3 := hts (.fieldLink RX9 27 "ToneSets$Ways" "goalTones" "[I") (List.mem_of_getElem? (i := 3) rfl)
  have k4 := hts (.fieldLink RX9 18 "ToneSets$Ways" "goals" "I") (List.mem_of_getElem? (i := 4) rfl)
  have k5 := hts (.fieldLink RX9 37 "ToneSets$Ways" "goalPrices" "[I") (List.mem_of_getElem? (i := 5) rfl)
  have k6 := hts (.fieldLink RX9 40 "ToneSets$Ways" "goerPrices" "[I") (List.mem_of_getElem? (i := 6) rfl)
  have k7 := hts (.fieldLink RX9 43 "ToneSets$Ways" "goalOfGoer" "[I") (List.mem_of_getElem? (i := 7) rfl)
  have uX9 := uX9_X9_least
  unfold m_Ways_least at hm
  refine lv_iload_n hx hb dX9_least_0 rfl (lv_at hl 1 rfl) ?_
  obtain ⟨r_1, hc1, hm⟩ := bd1_go hm
  refine my_cSi (As := [.int a1]) (rest := []) (WC := []) (WC' := []) (WR := [(h_t, .inr (8, [.int f_t_nearestNumber, .int f_t_nearestLength, .int f_t_goals, .int f_t_goers, .int f_t_reached, .ref h_t_goalTones, .ref h_t_goerTones, .ref h_t_extra, .ref h_t_goalPrices, .ref h_t_goerPrices, .ref h_t_goalOfGoer, .ref h_t_cameFrom, .ref h_t_slack])), (h_t_cameFrom, .inl (cA, 13, .inl f_t_cameFrom)), (h_t_extra, .inl (cA, 169, .inl f_t_extra)), (h_t_goalOfGoer, .inl (cA, 13, .inl f_t_goalOfGoer)), (h_t_goalPrices, .inl (cA, 13, .inl f_t_goalPrices)), (h_t_goalTones, .inl (cA, 13, .inl f_t_goalTones)), (h_t_goerPrices, .inl (cA, 13, .inl f_t_goerPrices)), (h_t_goerTones, .inl (cA, 13, .inl f_t_goerTones)), (h_t_slack, .inl (cA, 13, .inl f_t_slack))]) (W' := [(h_t, .inr (8, [.int f_t_nearestNumber, .int f_t_nearestLength, .int f_t_goals, .int f_t_goers, .int f_t_reached, .ref h_t_goalTones, .ref h_t_goerTones, .ref h_t_extra, .ref h_t_goalPrices, .ref h_t_goerPrices, .ref h_t_goalOfGoer, .ref h_t_cameFrom, .ref h_t_slack])), (h_t_cameFrom, .inl (cA, 13, .inl f_t_cameFrom)), (h_t_extra, .inl (cA, 169, .inl f_t_extra)), (h_t_goalOfGoer, .inl (cA, 13, .inl f_t_goalOfGoer)), (h_t_goalPrices, .inl (cA, 13, .inl f_t_goalPrices)), (h_t_goalTones, .inl (cA, 13, .inl f_t_goalTones)), (h_t_goerPrices, .inl (cA, 13, .inl f_t_goerPrices)), (h_t_goerTones, .inl (cA, 13, .inl f_t_goerTones)), (h_t_slack, .inl (cA, 13, .inl f_t_slack))]) ⟨hx, hb, hml, hown, hts⟩ hK hP hD hS hA (c_Ji_bitCount l dC dI cA a1 r_1 hc1) (va_cwS 1 hts gX9_least_J6_bitCount_0f7a4 rfl rfl rfl (by decide +kernel) ⟨Nat.le_of_ble_eq_true rfl, Nat.le_of_ble_eq_true rfl⟩) [] [0, 1, 2, 3, 4, 5, 6, 7, 8] [0, 1, 2, 3, 4, 5, 6, 7, 8] rfl rfl rfl rfl rfl rfl hl.1 (Nat.le_of_ble_eq_true rfl) dX9_least_1 ⟨Nat.zero_le _, Nat.zero_le _⟩ (fun H locs hP hD hS => ?_)
  refine lv_iload_n hx hb dX9_least_4 rfl (lv_at hl 2 rfl) ?_
  obtain ⟨r_2, hc5, hm⟩ := bd1_go hm
  refine my_cSi (As := [.int a2]) (rest := [.int r_1]) (WC := []) (WC' := []) (WR := [(h_t, .inr (8, [.int f_t_nearestNumber, .int f_t_nearestLength, .int f_t_goals, .int f_t_goers, .int f_t_reached, .ref h_t_goalTones, .ref h_t_goerTones, .ref h_t_extra, .ref h_t_goalPrices, .ref h_t_goerPrices, .ref h_t_goalOfGoer, .ref h_t_cameFrom, .ref h_t_slack])), (h_t_cameFrom, .inl (cA, 13, .inl f_t_cameFrom)), (h_t_extra, .inl (cA, 169, .inl f_t_extra)), (h_t_goalOfGoer, .inl (cA, 13, .inl f_t_goalOfGoer)), (h_t_goalPrices, .inl (cA, 13, .inl f_t_goalPrices)), (h_t_goalTones, .inl (cA, 13, .inl f_t_goalTones)), (h_t_goerPrices, .inl (cA, 13, .inl f_t_goerPrices)), (h_t_goerTones, .inl (cA, 13, .inl f_t_goerTones)), (h_t_slack, .inl (cA, 13, .inl f_t_slack))]) (W' := [(h_t, .inr (8, [.int f_t_nearestNumber, .int f_t_nearestLength, .int f_t_goals, .int f_t_goers, .int f_t_reached, .ref h_t_goalTones, .ref h_t_goerTones, .ref h_t_extra, .ref h_t_goalPrices, .ref h_t_goerPrices, .ref h_t_goalOfGoer, .ref h_t_cameFrom, .ref h_t_slack])), (h_t_cameFrom, .inl (cA, 13, .inl f_t_cameFrom)), (h_t_extra, .inl (cA, 169, .inl f_t_extra)), (h_t_goalOfGoer, .inl (cA, 13, .inl f_t_goalOfGoer)), (h_t_goalPrices, .inl (cA, 13, .inl f_t_goalPrices)), (h_t_goalTones, .inl (cA, 13, .inl f_t_goalTones)), (h_t_goerPrices, .inl (cA, 13, .inl f_t_goerPrices)), (h_t_goerTones, .inl (cA, 13, .inl f_t_goerTones)), (h_t_slack, .inl (cA, 13, .inl f_t_slack))]) ⟨hx, hb, hml, hown, hts⟩ hK hP hD hS hA (c_Ji_bitCount l dC dI cA a2 r_2 hc5) (va_cwS 1 hts gX9_least_J6_bitCount_0f7a4 rfl rfl rfl (by decide +kernel) ⟨Nat.le_of_ble_eq_true rfl, Nat.le_of_ble_eq_true rfl⟩) [] [0, 1, 2, 3, 4, 5, 6, 7, 8] [0, 1, 2, 3, 4, 5, 6, 7, 8] rfl rfl rfl rfl rfl rfl hl.1 (Nat.le_of_ble_eq_true rfl) dX9_least_5 ⟨Nat.zero_le _, Nat.zero_le _⟩ (fun H locs hP hD hS => ?_)
  obtain ⟨q16_1, hqJ_1, hm⟩ := bd1_go hm
  have J_1 : ∀ (H : Heap) (locs : List Loc), va_P (dC, dI) vwCl [(h_t, .inr (8, [.int f_t_nearestNumber, .int f_t_nearestLength, .int f_t_goals, .int f_t_goers, .int f_t_reached, .ref h_t_goalTones, .ref h_t_goerTones, .ref h_t_extra, .ref h_t_goalPrices, .ref h_t_goerPrices, .ref h_t_goalOfGoer, .ref h_t_cameFrom, .ref h_t_slack])), (h_t_cameFrom, .inl (cA, 13, .inl f_t_cameFrom)), (h_t_extra, .inl (cA, 169, .inl f_t_extra)), (h_t_goalOfGoer, .inl (cA, 13, .inl f_t_goalOfGoer)), (h_t_goalPrices, .inl (cA, 13, .inl f_t_goalPrices)), (h_t_goalTones, .inl (cA, 13, .inl f_t_goalTones)), (h_t_goerPrices, .inl (cA, 13, .inl f_t_goerPrices)), (h_t_goerTones, .inl (cA, 13, .inl f_t_goerTones)), (h_t_slack, .inl (cA, 13, .inl f_t_slack))] H → va_D A [(h_t, .inr (8, [.int f_t_nearestNumber, .int f_t_nearestLength, .int f_t_goals, .int f_t_goers, .int f_t_reached, .ref h_t_goalTones, .ref h_t_goerTones, .ref h_t_extra, .ref h_t_goalPrices, .ref h_t_goerPrices, .ref h_t_goalOfGoer, .ref h_t_cameFrom, .ref h_t_slack])), (h_t_cameFrom, .inl (cA, 13, .inl f_t_cameFrom)), (h_t_extra, .inl (cA, 169, .inl f_t_extra)), (h_t_goalOfGoer, .inl (cA, 13, .inl f_t_goalOfGoer)), (h_t_goalPrices, .inl (cA, 13, .inl f_t_goalPrices)), (h_t_goalTones, .inl (cA, 13, .inl f_t_goalTones)), (h_t_goerPrices, .inl (cA, 13, .inl f_t_goerPrices)), (h_t_goerTones, .inl (cA, 13, .inl f_t_goerTones)), (h_t_slack, .inl (cA, 13, .inl f_t_slack))] → va_S A s.heap H locs → ∀ ls : Array Slot, lv_has ls 8 [(0, .ref h_t), (1, .int a1), (2, .int a2), (3, .int a3)] → W p l e (headSpec wsX9_least rmX9_least).room s m (([.ref h_t, .int a1, .int a2, .int a3] : List Value).toArray) below meth c H locs 0 0 Q (F0 m 16 ls [.int q16_1]) := by
    intro H locs hP hD hS ls hl
    clear hqJ_1
    refine lv_topi (fun v4_1 ev4_1 => ?_)
    replace hm := lt_go ev4_1 hm
    refine lv_istore (lv' := [(4, .int v4_1), (0, .ref h_t), (1, .int a1), (2, .int a2), (3, .int a3)]) hx hb dX9_least_16 hl (by decide) rfl (fun ls hl => ?_)
    refine lv_aload_n hx hb dX9_least_18 rfl (lv_at hl 1 rfl) ?_
    refine lv_aload_n hx hb dX9_least_19 rfl (lv_at hl 1 rfl) ?_
    refine lv_iload hx hb dX9_least_20 (lv_at hl 0 rfl) ?_
    obtain ⟨q30_1, hqJ_2, hm⟩ := bd1_go hm
    have J_2 : ∀ (H : Heap) (locs : List Loc), va_P (dC, dI) vwCl [(h_t, .inr (8, [.int f_t_nearestNumber, .int f_t_nearestLength, .int f_t_goals, .int f_t_goers, .int f_t_reached, .ref h_t_goalTones, .ref h_t_goerTones, .ref h_t_extra, .ref h_t_goalPrices, .ref h_t_goerPrices, .ref h_t_goalOfGoer, .ref h_t_cameFrom, .ref h_t_slack])), (h_t_cameFrom, .inl (cA, 13, .inl f_t_cameFrom)), (h_t_extra, .inl (cA, 169, .inl f_t_extra)), (h_t_goalOfGoer, .inl (cA, 13, .inl f_t_goalOfGoer)), (h_t_goalPrices, .inl (cA, 13, .inl f_t_goalPrices)), (h_t_goalTones, .inl (cA, 13, .inl f_t_goalTones)), (h_t_goerPrices, .inl (cA, 13, .inl f_t_goerPrices)), (h_t_goerTones, .inl (cA, 13, .inl f_t_goerTones)), (h_t_slack, .inl (cA, 13, .inl f_t_slack))] H → va_D A [(h_t, .inr (8, [.int f_t_nearestNumber, .int f_t_nearestLength, .int f_t_goals, .int f_t_goers, .int f_t_reached, .ref h_t_goalTones, .ref h_t_goerTones, .ref h_t_extra, .ref h_t_goalPrices, .ref h_t_goerPrices, .ref h_t_goalOfGoer, .ref h_t_cameFrom, .ref h_t_slack])), (h_t_cameFrom, .inl (cA, 13, .inl f_t_cameFrom)), (h_t_extra, .inl (cA, 169, .inl f_t_extra)), (h_t_goalOfGoer, .inl (cA, 13, .inl f_t_goalOfGoer)), (h_t_goalPrices, .inl (cA, 13, .inl f_t_goalPrices)), (h_t_goalTones, .inl (cA, 13, .inl f_t_goalTones)), (h_t_goerPrices, .inl (cA, 13, .inl f_t_goerPrices)), (h_t_goerTones, .inl (cA, 13, .inl f_t_goerTones)), (h_t_slack, .inl (cA, 13, .inl f_t_slack))] → va_S A s.heap H locs → ∀ ls : Array Slot, lv_has ls 8 [(0, .ref h_t), (1, .int a1), (2, .int a2), (3, .int a3), (4, .int v4_1)] → W p l e (headSpec wsX9_least rmX9_least).room s m (([.ref h_t, .int a1, .int a2, .int a3] : List Value).toArray) below meth c H locs 0 0 Q (F0 m 30 ls [.int q30_1, .ref h_t, .ref h_t]) := by
      intro H locs hP hD hS ls hl
      clear hqJ_2
      refine lv_aload_n hx hb dX9_least_30 rfl (lv_at hl 0 rfl) ?_
      refine va_get (D := (dC, dI)) (ci := 8) (v := .ref h_t_goerTones) (C := RX9) (T := TX9) (N := 13) hx hb hts uX9 hown hK hP 0 rfl rfl 6 (by decide) k1 (fun _ h9 => h9) rfl dX9_least_31 ?_
      obtain ⟨r_3, f_t_goerTones_1, hc34, hm⟩ := bd2_go hm
      refine my_cVi (As := [.int q30_1, .ref h_t_goerTones]) (rest := [.ref h_t]) (WC := [(h_t, .inr (8, [.int f_t_nearestNumber, .int f_t_nearestLength, .int f_t_goals, .int f_t_goers, .int f_t_reached, .ref h_t_goalTones, .ref h_t_goerTones, .ref h_t_extra, .ref h_t_goalPrices, .ref h_t_goerPrices, .ref h_t_goalOfGoer, .ref h_t_cameFrom, .ref h_t_slack])), (h_t_goerTones, .inl (cA, 13, .inl f_t_goerTones))]) (WC' := [(h_t, .inr (8, [.int f_t_nearestNumber, .int f_t_nearestLength, .int f_t_goals, .int f_t_goers, .int f_t_reached, .ref h_t_goalTones, .ref h_t_goerTones, .ref h_t_extra, .ref h_t_goalPrices, .ref h_t_goerPrices, .ref h_t_goalOfGoer, .ref h_t_cameFrom, .ref h_t_slack])), (h_t_goerTones, .inl (cA, 13, .inl f_t_goerTones_1))]) (WR := [(h_t_cameFrom, .inl (cA, 13, .inl f_t_cameFrom)), (h_t_extra, .inl (cA, 169, .inl f_t_extra)), (h_t_goalOfGoer, .inl (cA, 13, .inl f_t_goalOfGoer)), (h_t_goalPrices, .inl (cA, 13, .inl f_t_goalPrices)), (h_t_goalTones, .inl (cA, 13, .inl f_t_goalTones)), (h_t_goerPrices, .inl (cA, 13, .inl f_t_goerPrices)), (h_t_slack, .inl (cA, 13, .inl f_t_slack))]) (W' := [(h_t, .inr (8, [.int f_t_nearestNumber, .int f_t_nearestLength, .int f_t_goals, .int f_t_goers, .int f_t_reached, .ref h_t_goalTones, .ref h_t_goerTones, .ref h_t_extra, .ref h_t_goalPrices, .ref h_t_goerPrices, .ref h_t_goalOfGoer, .ref h_t_cameFrom, .ref h_t_slack])), (h_t_cameFrom, .inl (cA, 13, .inl f_t_cameFrom)), (h_t_extra, .inl (cA, 169, .inl f_t_extra)), (h_t_goalOfGoer, .inl (cA, 13, .inl f_t_goalOfGoer)), (h_t_goalPrices, .inl (cA, 13, .inl f_t_goalPrices)), (h_t_goalTones, .inl (cA, 13, .inl f_t_goalTones)), (h_t_goerPrices, .inl (cA, 13, .inl f_t_goerPrices)), (h_t_goerTones, .inl (cA, 13, .inl f_t_goerTones_1)), (h_t_slack, .inl (cA, 13, .inl f_t_slack))]) ⟨hx, hb, hml, hown, hts⟩ hK hP hD hS hA (c_Ways_listTones l dC dI cA fu h_t h_t_goalTones h_t_goerTones h_t_extra h_t_goalPrices h_t_goerPrices h_t_goalOfGoer h_t_cameFrom h_t_slack h_t_goerTones 13 f_t_nearestNumber f_t_nearestLength f_t_goals f_t_goers f_t_reached f_t_goerTones q30_1 r_3 f_t_goerTones_1 hc34) (cwV 2 hts gX9_least_X9_listTones rfl rfl rfl (by decide +kernel) ⟨Nat.le_of_ble_eq_true rfl, Nat.le_of_ble_eq_true rfl⟩) [0, 7] [1, 2, 3, 4, 5, 6, 8] [7, 0, 1, 2, 3, 4, 5, 8, 6] rfl rfl rfl rfl (ci := 8) (q0 := 0) rfl rfl rfl rfl hl.1 (Nat.le_of_ble_eq_true rfl) dX9_least_34 ⟨Nat.zero_le _, Nat.zero_le _⟩ (fun H locs hP hD hS => ?_)
      refine lv_topi (fun f_t_goers_1 ef_t_goers_1 => ?_)
      replace hm := lt_go ef_t_goers_1 hm
      refine my_put (W' := [(h_t, .inr (8, [.int f_t_nearestNumber, .int f_t_nearestLength, .int f_t_goals, .int f_t_goers_1, .int f_t_reached, .ref h_t_goalTones, .ref h_t_goerTones, .ref h_t_extra, .ref h_t_goalPrices, .ref h_t_goerPrices, .ref h_t_goalOfGoer, .ref h_t_cameFrom, .ref h_t_slack])), (h_t_cameFrom, .inl (cA, 13, .inl f_t_cameFrom)), (h_t_extra, .inl (cA, 169, .inl f_t_extra)), (h_t_goalOfGoer, .inl (cA, 13, .inl f_t_goalOfGoer)), (h_t_goalPrices, .inl (cA, 13, .inl f_t_goalPrices)), (h_t_goalTones, .inl (cA, 13, .inl f_t_goalTones)), (h_t_goerPrices, .inl (cA, 13, .inl f_t_goerPrices)), (h_t_goerTones, .inl (cA, 13, .inl f_t_goerTones_1)), (h_t_slack, .inl (cA, 13, .inl f_t_slack))]) (ci := 8) (v := .int f_t_goers_1) (ty := .int) (C := RX9) (T := TX9) (N := 13) hx hb hts uX9 tyX9 tyX9_ok nmX9 hown hK hP hD hS 0 rfl rfl 3 (by decide) k2 (fun _ h9 => h9) rfl (by decide +kernel) rfl rfl (Nat.le_of_ble_eq_true rfl) dX9_least_37 rfl (fun H locs hP hD hS => ?_)
      refine lv_aload_n hx hb dX9_least_40 rfl (lv_at hl 0 rfl) ?_
      refine lv_aload_n hx hb dX9_least_41 rfl (lv_at hl 0 rfl) ?_
      refine lv_iload hx hb dX9_least_42 (lv_at hl 4 rfl) ?_
      obtain ⟨q52_1, hqJ_3, hm⟩ := bd1_go hm
      have J_3 : ∀ (H : Heap) (locs : List Loc), va_P (dC, dI) vwCl [(h_t, .inr (8, [.int f_t_nearestNumber, .int f_t_nearestLength, .int f_t_goals, .int f_t_goers_1, .int f_t_reached, .ref h_t_goalTones, .ref h_t_goerTones, .ref h_t_extra, .ref h_t_goalPrices, .ref h_t_goerPrices, .ref h_t_goalOfGoer, .ref h_t_cameFrom, .ref h_t_slack])), (h_t_cameFrom, .inl (cA, 13, .inl f_t_cameFrom)), (h_t_extra, .inl (cA, 169, .inl f_t_extra)), (h_t_goalOfGoer, .inl (cA, 13, .inl f_t_goalOfGoer)), (h_t_goalPrices, .inl (cA, 13, .inl f_t_goalPrices)), (h_t_goalTones, .inl (cA, 13, .inl f_t_goalTones)), (h_t_goerPrices, .inl (cA, 13, .inl f_t_goerPrices)), (h_t_goerTones, .inl (cA, 13, .inl f_t_goerTones_1)), (h_t_slack, .inl (cA, 13, .inl f_t_slack))] H → va_D A [(h_t, .inr (8, [.int f_t_nearestNumber, .int f_t_nearestLength, .int f_t_goals, .int f_t_goers_1, .int f_t_reached, .ref h_t_goalTones, .ref h_t_goerTones, .ref h_t_extra, .ref h_t_goalPrices, .ref h_t_goerPrices, .ref h_t_goalOfGoer, .ref h_t_cameFrom, .ref h_t_slack])), (h_t_cameFrom, .inl (cA, 13, .inl f_t_cameFrom)), (h_t_extra, .inl (cA, 169, .inl f_t_extra)), (h_t_goalOfGoer, .inl (cA, 13, .inl f_t_goalOfGoer)), (h_t_goalPrices, .inl (cA, 13, .inl f_t_goalPrices)), (h_t_goalTones, .inl (cA, 13, .inl f_t_goalTones)), (h_t_goerPrices, .inl (cA, 13, .inl f_t_goerPrices)), (h_t_goerTones, .inl (cA, 13, .inl f_t_goerTones_1)), (h_t_slack, .inl (cA, 13, .inl f_t_slack))] → va_S A s.heap H locs → ∀ ls : Array Slot, lv_has ls 8 [(0, .ref h_t), (3, .int a3)] → W p l e (headSpec wsX9_least rmX9_least).room s m (([.ref h_t, .int a1, .int a2, .int a3] : List Value).toArray) below meth c H locs 0 0 Q (F0 m 52 ls [.int q52_1, .ref h_t, .ref h_t]) := by
        intro H locs hP hD hS ls hl
        clear hqJ_3
        refine lv_aload_n hx hb dX9_least_52 rfl (lv_at hl 0 rfl) ?_
        refine va_get (D := (dC, dI)) (ci := 8) (v := .ref h_t_goalTones) (C := RX9) (T := TX9) (N := 13) hx hb hts uX9 hown hK hP 0 rfl rfl 5 (by decide) k3 (fun _ h9 => h9) rfl dX9_least_53 ?_
        obtain ⟨r_4, f_t_goalTones_1, hc56, hm⟩ := bd2_go hm
        refine my_cVi (As := [.int q52_1, .ref h_t_goalTones]) (rest := [.ref h_t]) (WC := [(h_t, .inr (8, [.int f_t_nearestNumber, .int f_t_nearestLength, .int f_t_goals, .int f_t_goers_1, .int f_t_reached, .ref h_t_goalTones, .ref h_t_goerTones, .ref h_t_extra, .ref h_t_goalPrices, .ref h_t_goerPrices, .ref h_t_goalOfGoer, .ref h_t_cameFrom, .ref h_t_slack])), (h_t_goalTones, .inl (cA, 13, .inl f_t_goalTones))]) (WC' := [(h_t, .inr (8, [.int f_t_nearestNumber, .int f_t_nearestLength, .int f_t_goals, .int f_t_goers_1, .int f_t_reached, .ref h_t_goalTones, .ref h_t_goerTones, .ref h_t_extra, .ref h_t_goalPrices, .ref h_t_goerPrices, .ref h_t_goalOfGoer, .ref h_t_cameFrom, .ref h_t_slack])), (h_t_goalTones, .inl (cA, 13, .inl f_t_goalTones_1))]) (WR := [(h_t_cameFrom, .inl (cA, 13, .inl f_t_cameFrom)), (h_t_extra, .inl (cA, 169, .inl f_t_extra)), (h_t_goalOfGoer, .inl (cA, 13, .inl f_t_goalOfGoer)), (h_t_goalPrices, .inl (cA, 13, .inl f_t_goalPrices)), (h_t_goerPrices, .inl (cA, 13, .inl f_t_goerPrices)), (h_t_goerTones, .inl (cA, 13, .inl f_t_goerTones_1)), (h_t_slack, .inl (cA, 13, .inl f_t_slack))]) (W' := [(h_t, .inr (8, [.int f_t_nearestNumber, .int f_t_nearestLength, .int f_t_goals, .int f_t_goers_1, .int f_t_reached, .ref h_t_goalTones, .ref h_t_goerTones, .ref h_t_extra, .ref h_t_goalPrices, .ref h_t_goerPrices, .ref h_t_goalOfGoer, .ref h_t_cameFrom, .ref h_t_slack])), (h_t_cameFrom, .inl (cA, 13, .inl f_t_cameFrom)), (h_t_extra, .inl (cA, 169, .inl f_t_extra)), (h_t_goalOfGoer, .inl (cA, 13, .inl f_t_goalOfGoer)), (h_t_goalPrices, .inl (cA, 13, .inl f_t_goalPrices)), (h_t_goalTones, .inl (cA, 13, .inl f_t_goalTones_1)), (h_t_goerPrices, .inl (cA, 13, .inl f_t_goerPrices)), (h_t_goerTones, .inl (cA, 13, .inl f_t_goerTones_1)), (h_t_slack, .inl (cA, 13, .inl f_t_slack))]) ⟨hx, hb, hml, hown, hts⟩ hK hP hD hS hA (c_Ways_listTones l dC dI cA fu h_t h_t_goalTones h_t_goerTones h_t_extra h_t_goalPrices h_t_goerPrices h_t_goalOfGoer h_t_cameFrom h_t_slack h_t_goalTones 13 f_t_nearestNumber f_t_nearestLength f_t_goals f_t_goers_1 f_t_reached f_t_goalTones q52_1 r_4 f_t_goalTones_1 hc56) (cwV 2 hts gX9_least_X9_listTones rfl rfl rfl (by decide +kernel) ⟨Nat.le_of_ble_eq_true rfl, Nat.le_of_ble_eq_true rfl⟩) [0, 5] [1, 2, 3, 4, 6, 7, 8] [7, 0, 1, 2, 3, 8, 4, 5, 6] rfl rfl rfl rfl (ci := 8) (q0 := 0) rfl rfl rfl rfl hl.1 (Nat.le_of_ble_eq_true rfl) dX9_least_56 ⟨Nat.zero_le _, Nat.zero_le _⟩ (fun H locs hP hD hS => ?_)
        refine lv_topi (fun f_t_goals_1 ef_t_goals_1 => ?_)
        replace hm := lt_go ef_t_goals_1 hm
        refine my_put (W' := [(h_t, .inr (8, [.int f_t_nearestNumber, .int f_t_nearestLength, .int f_t_goals_1, .int f_t_goers_1, .int f_t_reached, .ref h_t_goalTones, .ref h_t_goerTones, .ref h_t_extra, .ref h_t_goalPrices, .ref h_t_goerPrices, .ref h_t_goalOfGoer, .ref h_t_cameFrom, .ref h_t_slack])), (h_t_cameFrom, .inl (cA, 13, .inl f_t_cameFrom)), (h_t_extra, .inl (cA, 169, .inl f_t_extra)), (h_t_goalOfGoer, .inl (cA, 13, .inl f_t_goalOfGoer)), (h_t_goalPrices, .inl (cA, 13, .inl f_t_goalPrices)), (h_t_goalTones, .inl (cA, 13, .inl f_t_goalTones_1)), (h_t_goerPrices, .inl (cA, 13, .inl f_t_goerPrices)), (h_t_goerTones, .inl (cA, 13, .inl f_t_goerTones_1)), (h_t_slack, .inl (cA, 13, .inl f_t_slack))]) (ci := 8) (v := .int f_t_goals_1) (ty := .int) (C := RX9) (T := TX9) (N := 13) hx hb hts uX9 tyX9 tyX9_ok nmX9 hown hK hP hD hS 0 rfl rfl 2 (by decide) k4 (fun _ h9 => h9) rfl (by decide +kernel) rfl rfl (Nat.le_of_ble_eq_true rfl) dX9_least_59 rfl (fun H locs hP hD hS => ?_)
        refine lv_aload_n hx hb dX9_least_62 rfl (lv_at hl 0 rfl) ?_
        refine lv_iload_n hx hb dX9_least_63 rfl (lv_at hl 1 rfl) ?_
        obtain ⟨r_5, f_t_extra_1, hc64, hm⟩ := bd2_go hm
        refine my_cVi (As := [.int a3]) (rest := []) (WC := [(h_t, .inr (8, [.int f_t_nearestNumber, .int f_t_nearestLength, .int f_t_goals_1, .int f_t_goers_1, .int f_t_reached, .ref h_t_goalTones, .ref h_t_goerTones, .ref h_t_extra, .ref h_t_goalPrices, .ref h_t_goerPrices, .ref h_t_goalOfGoer, .ref h_t_cameFrom, .ref h_t_slack])), (h_t_extra, .inl (cA, 169, .inl f_t_extra)), (h_t_goalTones, .inl (cA, 13, .inl f_t_goalTones_1)), (h_t_goerTones, .inl (cA, 13, .inl f_t_goerTones_1))]) (WC' := [(h_t, .inr (8, [.int f_t_nearestNumber, .int f_t_nearestLength, .int f_t_goals_1, .int f_t_goers_1, .int f_t_reached, .ref h_t_goalTones, .ref h_t_goerTones, .ref h_t_extra, .ref h_t_goalPrices, .ref h_t_goerPrices, .ref h_t_goalOfGoer, .ref h_t_cameFrom, .ref h_t_slack])), (h_t_extra, .inl (cA, 169, .inl f_t_extra_1)), (h_t_goalTones, .inl (cA, 13, .inl f_t_goalTones_1)), (h_t_goerTones, .inl (cA, 13, .inl f_t_goerTones_1))]) (WR := [(h_t_cameFrom, .inl (cA, 13, .inl f_t_cameFrom)), (h_t_goalOfGoer, .inl (cA, 13, .inl f_t_goalOfGoer)), (h_t_goalPrices, .inl (cA, 13, .inl f_t_goalPrices)), (h_t_goerPrices, .inl (cA, 13, .inl f_t_goerPrices)), (h_t_slack, .inl (cA, 13, .inl f_t_slack))]) (W' := [(h_t, .inr (8, [.int f_t_nearestNumber, .int f_t_nearestLength, .int f_t_goals_1, .int f_t_goers_1, .int f_t_reached, .ref h_t_goalTones, .ref h_t_goerTones, .ref h_t_extra, .ref h_t_goalPrices, .ref h_t_goerPrices, .ref h_t_goalOfGoer, .ref h_t_cameFrom, .ref h_t_slack])), (h_t_cameFrom, .inl (cA, 13, .inl f_t_cameFrom)), (h_t_extra, .inl (cA, 169, .inl f_t_extra_1)), (h_t_goalOfGoer, .inl (cA, 13, .inl f_t_goalOfGoer)), (h_t_goalPrices, .inl (cA, 13, .inl f_t_goalPrices)), (h_t_goalTones, .inl (cA, 13, .inl f_t_goalTones_1)), (h_t_goerPrices, .inl (cA, 13, .inl f_t_goerPrices)), (h_t_goerTones, .inl (cA, 13, .inl f_t_goerTones_1)), (h_t_slack, .inl (cA, 13, .inl f_t_slack))]) ⟨hx, hb, hml, hown, hts⟩ hK hP hD hS hA (c_Ways_measure l dC dI cA fu h_t h_t_goalTones h_t_goerTones h_t_extra h_t_goalPrices h_t_goerPrices h_t_goalOfGoer h_t_cameFrom h_t_slack f_t_nearestNumber f_t_nearestLength f_t_goals_1 f_t_goers_1 f_t_reached f_t_extra f_t_goalTones_1 f_t_goerTones_1 a3 r_5 f_t_extra_1 hc64) (cwV 1 hts gX9_least_X9_measure rfl rfl rfl (by decide +kernel) ⟨Nat.le_of_ble_eq_true rfl, Nat.le_of_ble_eq_true rfl⟩) [0, 2, 5, 7] [1, 3, 4, 6, 8] [5, 0, 6, 1, 2, 7, 3, 8, 4] rfl rfl rfl rfl (ci := 8) (q0 := 0) rfl rfl rfl rfl hl.1 (Nat.le_of_ble_eq_true rfl) dX9_least_64 ⟨Nat.zero_le _, Nat.zero_le _⟩ (fun H locs hP hD hS => ?_)
        refine lv_topi (fun v5_1 ev5_1 => ?_)
        replace hm := lt_go ev5_1 hm
        refine lv_istore (lv' := [(5, .int v5_1), (0, .ref h_t), (3, .int a3)]) hx hb dX9_least_67 hl (by decide) rfl (fun ls hl => ?_)
        refine lv_aload_n hx hb dX9_least_69 rfl (lv_at hl 1 rfl) ?_
        refine va_get (D := (dC, dI)) (ci := 8) (v := .ref h_t_goalPrices) (C := RX9) (T := TX9) (N := 13) hx hb hts uX9 hown hK hP 0 rfl rfl 8 (by decide) k5 (fun _ h9 => h9) rfl dX9_least_70 ?_
        refine lv_iconst (v := 0) hx hb dX9_least_73 (by decide) ?_
        obtain ⟨f_t_goalPrices_1, hc74, hm⟩ := bd1_go hm
        refine my_cSv (As := [.ref h_t_goalPrices, .int 0]) (rest := []) (WC := [(h_t_goalPrices, .inl (cA, 13, .inl f_t_goalPrices))]) (WC' := [(h_t_goalPrices, .inl (cA, 13, .inl f_t_goalPrices_1))]) (WR := [(h_t, .inr (8, [.int f_t_nearestNumber, .int f_t_nearestLength, .int f_t_goals_1, .int f_t_goers_1, .int f_t_reached, .ref h_t_goalTones, .ref h_t_goerTones, .ref h_t_extra, .ref h_t_goalPrices, .ref h_t_goerPrices, .ref h_t_goalOfGoer, .ref h_t_cameFrom, .ref h_t_slack])), (h_t_cameFrom, .inl (cA, 13, .inl f_t_cameFrom)), (h_t_extra, .inl (cA, 169, .inl f_t_extra_1)), (h_t_goalOfGoer, .inl (cA, 13, .inl f_t_goalOfGoer)), (h_t_goalTones, .inl (cA, 13, .inl f_t_goalTones_1)), (h_t_goerPrices, .inl (cA, 13, .inl f_t_goerPrices)), (h_t_goerTones, .inl (cA, 13, .inl f_t_goerTones_1)), (h_t_slack, .inl (cA, 13, .inl f_t_slack))]) (W' := [(h_t, .inr (8, [.int f_t_nearestNumber, .int f_t_nearestLength, .int f_t_goals_1, .int f_t_goers_1, .int f_t_reached, .ref h_t_goalTones, .ref h_t_goerTones, .ref h_t_extra, .ref h_t_goalPrices, .ref h_t_goerPrices, .ref h_t_goalOfGoer, .ref h_t_cameFrom, .ref h_t_slack])), (h_t_cameFrom, .inl (cA, 13, .inl f_t_cameFrom)), (h_t_extra, .inl (cA, 169, .inl f_t_extra_1)), (h_t_goalOfGoer, .inl (cA, 13, .inl f_t_goalOfGoer)), (h_t_goalPrices, .inl (cA, 13, .inl f_t_goalPrices_1)), (h_t_goalTones, .inl (cA, 13, .inl f_t_goalTones_1)), (h_t_goerPrices, .inl (cA, 13, .inl f_t_goerPrices)), (h_t_goerTones, .inl (cA, 13, .inl f_t_goerTones_1)), (h_t_slack, .inl (cA, 13, .inl f_t_slack))]) ⟨hx, hb, hml, hown, hts⟩ hK hP hD hS hA (c_Ja_fill l dC dI cA fu h_t_goalPrices 13 f_t_goalPrices 0 f_t_goalPrices_1 hc74) (va_cwS 2 hts gX9_least_J7_fill_53178 rfl rfl rfl (by decide +kernel) ⟨Nat.le_of_ble_eq_true rfl, Nat.le_of_ble_eq_true rfl⟩) [4] [0, 1, 2, 3, 5, 6, 7, 8] [0, 1, 2, 3, 8, 4, 5, 6, 7] rfl rfl rfl rfl rfl rfl hl.1 (Nat.le_of_ble_eq_true rfl) dX9_least_74 ⟨Nat.zero_le _, Nat.zero_le _⟩ (fun H locs hP hD hS => ?_)
        refine lv_aload_n hx hb dX9_least_77 rfl (lv_at hl 1 rfl) ?_
        refine va_get (D := (dC, dI)) (ci := 8) (v := .ref h_t_goerPrices) (C := RX9) (T := TX9) (N := 13) hx hb hts uX9 hown hK hP 0 rfl rfl 9 (by decide) k6 (fun _ h9 => h9) rfl dX9_least_78 ?_
        refine lv_iconst (v := 0) hx hb dX9_least_81 (by decide) ?_
        obtain ⟨f_t_goerPrices_1, hc82, hm⟩ := bd1_go hm
        refine my_cSv (As := [.ref h_t_goerPrices, .int 0]) (rest := []) (WC := [(h_t_goerPrices, .inl (cA, 13, .inl f_t_goerPrices))]) (WC' := [(h_t_goerPrices, .inl (cA, 13, .inl f_t_goerPrices_1))]) (WR := [(h_t, .inr (8, [.int f_t_nearestNumber, .int f_t_nearestLength, .int f_t_goals_1, .int f_t_goers_1, .int f_t_reached, .ref h_t_goalTones, .ref h_t_goerTones, .ref h_t_extra, .ref h_t_goalPrices, .ref h_t_goerPrices, .ref h_t_goalOfGoer, .ref h_t_cameFrom, .ref h_t_slack])), (h_t_cameFrom, .inl (cA, 13, .inl f_t_cameFrom)), (h_t_extra, .inl (cA, 169, .inl f_t_extra_1)), (h_t_goalOfGoer, .inl (cA, 13, .inl f_t_goalOfGoer)), (h_t_goalPrices, .inl (cA, 13, .inl f_t_goalPrices_1)), (h_t_goalTones, .inl (cA, 13, .inl f_t_goalTones_1)), (h_t_goerTones, .inl (cA, 13, .inl f_t_goerTones_1)), (h_t_slack, .inl (cA, 13, .inl f_t_slack))]) (W' := [(h_t, .inr (8, [.int f_t_nearestNumber, .int f_t_nearestLength, .int f_t_goals_1, .int f_t_goers_1, .int f_t_reached, .ref h_t_goalTones, .ref h_t_goerTones, .ref h_t_extra, .ref h_t_goalPrices, .ref h_t_goerPrices, .ref h_t_goalOfGoer, .ref h_t_cameFrom, .ref h_t_slack])), (h_t_cameFrom, .inl (cA, 13, .inl f_t_cameFrom)), (h_t_extra, .inl (cA, 169, .inl f_t_extra_1)), (h_t_goalOfGoer, .inl (cA, 13, .inl f_t_goalOfGoer)), (h_t_goalPrices, .inl (cA, 13, .inl f_t_goalPrices_1)), (h_t_goalTones, .inl (cA, 13, .inl f_t_goalTones_1)), (h_t_goerPrices, .inl (cA, 13, .inl f_t_goerPrices_1)), (h_t_goerTones, .inl (cA, 13, .inl f_t_goerTones_1)), (h_t_slack, .inl (cA, 13, .inl f_t_slack))]) ⟨hx, hb, hml, hown, hts⟩ hK hP hD hS hA (c_Ja_fill l dC dI cA fu h_t_goerPrices 13 f_t_goerPrices 0 f_t_goerPrices_1 hc82) (va_cwS 2 hts gX9_least_J7_fill_53178 rfl rfl rfl (by decide +kernel) ⟨Nat.le_of_ble_eq_true rfl, Nat.le_of_ble_eq_true rfl⟩) [6] [0, 1, 2, 3, 4, 5, 7, 8] [0, 1, 2, 3, 4, 5, 8, 6, 7] rfl rfl rfl rfl rfl rfl hl.1 (Nat.le_of_ble_eq_true rfl) dX9_least_82 ⟨Nat.zero_le _, Nat.zero_le _⟩ (fun H locs hP hD hS => ?_)
        refine lv_aload_n hx hb dX9_least_85 rfl (lv_at hl 1 rfl) ?_
        refine va_get (D := (dC, dI)) (ci := 8) (v := .ref h_t_goalOfGoer) (C := RX9) (T := TX9) (N := 13) hx hb hts uX9 hown hK hP 0 rfl rfl 10 (by decide) k7 (fun _ h9 => h9) rfl dX9_least_86 ?_
        refine lv_iconst (v := 0) hx hb dX9_least_89 (by decide) ?_
        obtain ⟨f_t_goalOfGoer_1, hc90, hm⟩ := bd1_go hm
        refine my_cSv (As := [.ref h_t_goalOfGoer, .int 0]) (rest := []) (WC := [(h_t_goalOfGoer, .inl (cA, 13, .inl f_t_goalOfGoer))]) (WC' := [(h_t_goalOfGoer, .inl (cA, 13, .inl f_t_goalOfGoer_1))]) (WR := [(h_t, .inr (8, [.int f_t_nearestNumber, .int f_t_nearestLength, .int f_t_goals_1, .int f_t_goers_1, .int f_t_reached, .ref h_t_goalTones, .ref h_t_goerTones, .ref h_t_extra, .ref h_t_goalPrices, .ref h_t_goerPrices, .ref h_t_goalOfGoer, .ref h_t_cameFrom, .ref h_t_slack])), (h_t_cameFrom, .inl (cA, 13, .inl f_t_cameFrom)), (h_t_extra, .inl (cA, 169, .inl f_t_extra_1)), (h_t_goalPrices, .inl (cA, 13, .inl f_t_goalPrices_1)), (h_t_goalTones, .inl (cA, 13, .inl f_t_goalTones_1)), (h_t_goerPrices, .inl (cA, 13, .inl f_t_goerPrices_1)), (h_t_goerTones, .inl (cA, 13, .inl f_t_goerTones_1)), (h_t_slack, .inl (cA, 13, .inl f_t_slack))]) (W' := [(h_t, .inr (8, [.int f_t_nearestNumber, .int f_t_nearestLength, .int f_t_goals_1, .int f_t_goers_1, .int f_t_reached, .ref h_t_goalTones, .ref h_t_goerTones, .ref h_t_extra, .ref h_t_goalPrices, .ref h_t_goerPrices, .ref h_t_goalOfGoer, .ref h_t_cameFrom, .ref h_t_slack])), (h_t_cameFrom, .inl (cA, 13, .inl f_t_cameFrom)), (h_t_extra, .inl (cA, 169, .inl f_t_extra_1)), (h_t_goalOfGoer, .inl (cA, 13, .inl f_t_goalOfGoer_1)), (h_t_goalPrices, .inl (cA, 13, .inl f_t_goalPrices_1)), (h_t_goalTones, .inl (cA, 13, .inl f_t_goalTones_1)), (h_t_goerPrices, .inl (cA, 13, .inl f_t_goerPrices_1)), (h_t_goerTones, .inl (cA, 13, .inl f_t_goerTones_1)), (h_t_slack, .inl (cA, 13, .inl f_t_slack))]) ⟨hx, hb, hml, hown, hts⟩ hK hP hD hS hA (c_Ja_fill l dC dI cA fu h_t_goalOfGoer 13 f_t_goalOfGoer 0 f_t_goalOfGoer_1 hc90) (va_cwS 2 hts gX9_least_J7_fill_53178 rfl rfl rfl (by decide +kernel) ⟨Nat.le_of_ble_eq_true rfl, Nat.le_of_ble_eq_true rfl⟩) [3] [0, 1, 2, 4, 5, 6, 7, 8] [0, 1, 2, 8, 3, 4, 5, 6, 7] rfl rfl rfl rfl rfl rfl hl.1 (Nat.le_of_ble_eq_true rfl) dX9_least_90 ⟨Nat.zero_le _, Nat.zero_le _⟩ (fun H locs hP hD hS => ?_)
        refine lv_iconst (v := 1) hx hb dX9_least_93 (by decide) ?_
        refine lv_topi (fun v6_1 ev6_1 => ?_)
        replace hm := lt_go ev6_1 hm
        refine lv_istore (lv' := [(6, .int v6_1), (5, .int v5_1), (0, .ref h_t), (3, .int a3)]) hx hb dX9_least_94 hl (by decide) rfl (fun ls hl => ?_)
        have L96 : ∀ (n : Nat) (v6_2 : Int32) (f_t_cameFrom_1 : Nat → Int32) (f_t_goalOfGoer_2 : Nat → Int32) (f_t_goalPrices_2 : Nat → Int32) (f_t_goerPrices_2 : Nat → Int32) (f_t_reached_1 : Int32) (f_t_slack_1 : Nat → Int32) (f_t_cameFrom_2 : Nat → Int32) (f_t_goalOfGoer_3 : Nat → Int32) (f_t_goalPrices_3 : Nat → Int32) (f_t_goerPrices_3 : Nat → Int32) (f_t_reached_2 : Int32) (f_t_slack_2 : Nat → Int32), m_Ways_least_L96 fu f_t_goals_1 f_t_extra_1 f_t_goers_1 n v6_2 f_t_cameFrom_1 f_t_goalOfGoer_2 f_t_goalPrices_2 f_t_goerPrices_2 f_t_reached_1 f_t_slack_1 = some (f_t_cameFrom_2, f_t_goalOfGoer_3, f_t_goalPrices_3, f_t_goerPrices_3, f_t_reached_2, f_t_slack_2) → ∀ (H : Heap) (locs : List Loc), va_P (dC, dI) vwCl [(h_t, .inr (8, [.int f_t_nearestNumber, .int f_t_nearestLength, .int f_t_goals_1, .int f_t_goers_1, .int f_t_reached_1, .ref h_t_goalTones, .ref h_t_goerTones, .ref h_t_extra, .ref h_t_goalPrices, .ref h_t_goerPrices, .ref h_t_goalOfGoer, .ref h_t_cameFrom, .ref h_t_slack])), (h_t_cameFrom, .inl (cA, 13, .inl f_t_cameFrom_1)), (h_t_extra, .inl (cA, 169, .inl f_t_extra_1)), (h_t_goalOfGoer, .inl (cA, 13, .inl f_t_goalOfGoer_2)), (h_t_goalPrices, .inl (cA, 13, .inl f_t_goalPrices_2)), (h_t_goalTones, .inl (cA, 13, .inl f_t_goalTones_1)), (h_t_goerPrices, .inl (cA, 13, .inl f_t_goerPrices_2)), (h_t_goerTones, .inl (cA, 13, .inl f_t_goerTones_1)), (h_t_slack, .inl (cA, 13, .inl f_t_slack_1))] H → va_D A [(h_t, .inr (8, [.int f_t_nearestNumber, .int f_t_nearestLength, .int f_t_goals_1, .int f_t_goers_1, .int f_t_reached_1, .ref h_t_goalTones, .ref h_t_goerTones, .ref h_t_extra, .ref h_t_goalPrices, .ref h_t_goerPrices, .ref h_t_goalOfGoer, .ref h_t_cameFrom, .ref h_t_slack])), (h_t_cameFrom, .inl (cA, 13, .inl f_t_cameFrom_1)), (h_t_extra, .inl (cA, 169, .inl f_t_extra_1)), (h_t_goalOfGoer, .inl (cA, 13, .inl f_t_goalOfGoer_2)), (h_t_goalPrices, .inl (cA, 13, .inl f_t_goalPrices_2)), (h_t_goalTones, .inl (cA, 13, .inl f_t_goalTones_1)), (h_t_goerPrices, .inl (cA, 13, .inl f_t_goerPrices_2)), (h_t_goerTones, .inl (cA, 13, .inl f_t_goerTones_1)), (h_t_slack, .inl (cA, 13, .inl f_t_slack_1))] → va_S A s.heap H locs → ∀ ls : Array Slot, lv_has ls 8 [(0, .ref h_t), (5, .int v5_1), (6, .int v6_2)] → (∀ (H : Heap) (locs : List Loc), va_P (dC, dI) vwCl [(h_t, .inr (8, [.int f_t_nearestNumber, .int f_t_nearestLength, .int f_t_goals_1, .int f_t_goers_1, .int f_t_reached_2, .ref h_t_goalTones, .ref h_t_goerTones, .ref h_t_extra, .ref h_t_goalPrices, .ref h_t_goerPrices, .ref h_t_goalOfGoer, .ref h_t_cameFrom, .ref h_t_slack])), (h_t_cameFrom, .inl (cA, 13, .inl f_t_cameFrom_2)), (h_t_extra, .inl (cA, 169, .inl f_t_extra_1)), (h_t_goalOfGoer, .inl (cA, 13, .inl f_t_goalOfGoer_3)), (h_t_goalPrices, .inl (cA, 13, .inl f_t_goalPrices_3)), (h_t_goalTones, .inl (cA, 13, .inl f_t_goalTones_1)), (h_t_goerPrices, .inl (cA, 13, .inl f_t_goerPrices_3)), (h_t_goerTones, .inl (cA, 13, .inl f_t_goerTones_1)), (h_t_slack, .inl (cA, 13, .inl f_t_slack_2))] H → va_D A [(h_t, .inr (8, [.int f_t_nearestNumber, .int f_t_nearestLength, .int f_t_goals_1, .int f_t_goers_1, .int f_t_reached_2, .ref h_t_goalTones, .ref h_t_goerTones, .ref h_t_extra, .ref h_t_goalPrices, .ref h_t_goerPrices, .ref h_t_goalOfGoer, .ref h_t_cameFrom, .ref h_t_slack])), (h_t_cameFrom, .inl (cA, 13, .inl f_t_cameFrom_2)), (h_t_extra, .inl (cA, 169, .inl f_t_extra_1)), (h_t_goalOfGoer, .inl (cA, 13, .inl f_t_goalOfGoer_3)), (h_t_goalPrices, .inl (cA, 13, .inl f_t_goalPrices_3)), (h_t_goalTones, .inl (cA, 13, .inl f_t_goalTones_1)), (h_t_goerPrices, .inl (cA, 13, .inl f_t_goerPrices_3)), (h_t_goerTones, .inl (cA, 13, .inl f_t_goerTones_1)), (h_t_slack, .inl (cA, 13, .inl f_t_slack_2))] → va_S A s.heap H locs → ∀ ls : Array Slot, lv_has ls 8 [(0, .ref h_t), (5, .int v5_1)] → W p l e (headSpec wsX9_least rmX9_least).room s m (([.ref h_t, .int a1, .int a2, .int a3] : List Value).toArray) below meth c H locs 0 0 Q (F0 m 125 ls [])) → W p l e (headSpec wsX9_least rmX9_least).room s m (([.ref h_t, .int a1, .int a2, .int a3] : List Value).toArray) below meth c H locs 0 0 Q (F0 m 96 ls []) := by
          clear hm hP hD hS hl
          intro n
          induction n with
          | zero => intro _ _ _ _ _ _ _ _ _ _ _ _ _ hm; exact nomatch (show none = some _ from hm)
          | succ n ih =>
            intro v6_2 f_t_cameFrom_1 f_t_goalOfGoer_2 f_t_goalPrices_2 f_t_goerPrices_2 f_t_reached_1 f_t_slack_1 f_t_cameFrom_2 f_t_goalOfGoer_3 f_t_goalPrices_3 f_t_goerPrices_3 f_t_reached_2 f_t_slack_2 hm H locs hP hD hS ls hl KK
            unfold m_Ways_least_L96 at hm
            refine lv_iload hx hb dX9_least_96 (lv_at hl 2 rfl) ?_
            refine lv_aload_n hx hb dX9_least_98 rfl (lv_at hl 0 rfl) ?_
            refine va_get (D := (dC, dI)) (ci := 8) (v := .int f_t_goals_1) (C := RX9) (T := TX9) (N := 13) hx hb hts uX9 hown hK hP 0 rfl rfl 2 (by decide) k4 (fun _ h9 => h9) rfl dX9_least_99 ?_
            refine lv_icmp_gt (tgt := 125) hx hb dX9_least_102 (by decide) (fun c102 => ?_) (fun c102 => ?_)
            · replace hm := if_t c102 hm
              cases hm
              exact KK _ _ hP hD hS _ (lv_sub hl [0, 1] rfl)
            · replace hm := if_f c102 hm
              refine lv_aload_n hx hb dX9_least_105 rfl (lv_at hl 0 rfl) ?_
              refine lv_iload hx hb dX9_least_106 (lv_at hl 2 rfl) ?_
              obtain ⟨r_6, f_t_cameFrom_3, f_t_goalOfGoer_4, f_t_goalPrices_4, f_t_goerPrices_4, f_t_reached_3, f_t_slack_3, hc108, hm⟩ := bd7_go hm
              refine my_cVi (As := [.int v6_2]) (rest := []) (WC := [(h_t, .inr (8, [.int f_t_nearestNumber, .int f_t_nearestLength, .int f_t_goals_1, .int f_t_goers_1, .int f_t_reached_1, .ref h_t_goalTones, .ref h_t_goerTones, .ref h_t_extra, .ref h_t_goalPrices, .ref h_t_goerPrices, .ref h_t_goalOfGoer, .ref h_t_cameFrom, .ref h_t_slack])), (h_t_cameFrom, .inl (cA, 13, .inl f_t_cameFrom_1)), (h_t_extra, .inl (cA, 169, .inl f_t_extra_1)), (h_t_goalOfGoer, .inl (cA, 13, .inl f_t_goalOfGoer_2)), (h_t_goalPrices, .inl (cA, 13, .inl f_t_goalPrices_2)), (h_t_goerPrices, .inl (cA, 13, .inl f_t_goerPrices_2)), (h_t_slack, .inl (cA, 13, .inl f_t_slack_1))]) (WC' := [(h_t, .inr (8, [.int f_t_nearestNumber, .int f_t_nearestLength, .int f_t_goals_1, .int f_t_goers_1, .int f_t_reached_3, .ref h_t_goalTones, .ref h_t_goerTones, .ref h_t_extra, .ref h_t_goalPrices, .ref h_t_goerPrices, .ref h_t_goalOfGoer, .ref h_t_cameFrom, .ref h_t_slack])), (h_t_cameFrom, .inl (cA, 13, .inl f_t_cameFrom_3)), (h_t_extra, .inl (cA, 169, .inl f_t_extra_1)), (h_t_goalOfGoer, .inl (cA, 13, .inl f_t_goalOfGoer_4)), (h_t_goalPrices, .inl (cA, 13, .inl f_t_goalPrices_4)), (h_t_goerPrices, .inl (cA, 13, .inl f_t_goerPrices_4)), (h_t_slack, .inl (cA, 13, .inl f_t_slack_3))]) (WR := [(h_t_goalTones, .inl (cA, 13, .inl f_t_goalTones_1)), (h_t_goerTones, .inl (cA, 13, .inl f_t_goerTones_1))]) (W' := [(h_t, .inr (8, [.int f_t_nearestNumber, .int f_t_nearestLength, .int f_t_goals_1, .int f_t_goers_1, .int f_t_reached_3, .ref h_t_goalTones, .ref h_t_goerTones, .ref h_t_extra, .ref h_t_goalPrices, .ref h_t_goerPrices, .ref h_t_goalOfGoer, .ref h_t_cameFrom, .ref h_t_slack])), (h_t_cameFrom, .inl (cA, 13, .inl f_t_cameFrom_3)), (h_t_extra, .inl (cA, 169, .inl f_t_extra_1)), (h_t_goalOfGoer, .inl (cA, 13, .inl f_t_goalOfGoer_4)), (h_t_goalPrices, .inl (cA, 13, .inl f_t_goalPrices_4)), (h_t_goalTones, .inl (cA, 13, .inl f_t_goalTones_1)), (h_t_goerPrices, .inl (cA, 13, .inl f_t_goerPrices_4)), (h_t_goerTones, .inl (cA, 13, .inl f_t_goerTones_1)), (h_t_slack, .inl (cA, 13, .inl f_t_slack_3))]) ⟨hx, hb, hml, hown, hts⟩ hK hP hD hS hA (c_Ways_findFreeGoer l dC dI cA fu h_t h_t_goalTones h_t_goerTones h_t_extra h_t_goalPrices h_t_goerPrices h_t_goalOfGoer h_t_cameFrom h_t_slack f_t_nearestNumber f_t_nearestLength f_t_goals_1 f_t_goers_1 f_t_reached_1 f_t_cameFrom_1 f_t_extra_1 f_t_goalOfGoer_2 f_t_goalPrices_2 f_t_goerPrices_2 f_t_slack_1 v6_2 r_6 f_t_cameFrom_3 f_t_goalOfGoer_4 f_t_goalPrices_4 f_t_goerPrices_4 f_t_reached_3 f_t_slack_3 hc108) (cwV 1 hts gX9_least_X9_findFreeGoer rfl rfl rfl (by decide +kernel) ⟨Nat.le_of_ble_eq_true rfl, Nat.le_of_ble_eq_true rfl⟩) [0, 1, 2, 3, 4, 6, 8] [5, 7] [2, 3, 4, 5, 6, 0, 7, 1, 8] rfl rfl rfl rfl (ci := 8) (q0 := 0) rfl rfl rfl rfl hl.1 (Nat.le_of_ble_eq_true rfl) dX9_least_108 ⟨Nat.zero_le _, Nat.zero_le _⟩ (fun H locs hP hD hS => ?_)
              refine lv_topi (fun v7_1 ev7_1 => ?_)
              replace hm := lt_go ev7_1 hm
              refine lv_istore (lv' := [(7, .int v7_1), (0, .ref h_t), (5, .int v5_1), (6, .int v6_2)]) hx hb dX9_least_111 hl (by decide) rfl (fun ls hl => ?_)
              refine lv_aload_n hx hb dX9_least_113 rfl (lv_at hl 1 rfl) ?_
              refine lv_iload hx hb dX9_least_114 (lv_at hl 0 rfl) ?_
              obtain ⟨f_t_goalOfGoer_5, hc116, hm⟩ := bd1_go hm
              refine my_cVv (As := [.int v7_1]) (rest := []) (WC := [(h_t, .inr (8, [.int f_t_nearestNumber, .int f_t_nearestLength, .int f_t_goals_1, .int f_t_goers_1, .int f_t_reached_3, .ref h_t_goalTones, .ref h_t_goerTones, .ref h_t_extra, .ref h_t_goalPrices, .ref h_t_goerPrices, .ref h_t_goalOfGoer, .ref h_t_cameFrom, .ref h_t_slack])), (h_t_cameFrom, .inl (cA, 13, .inl f_t_cameFrom_3)), (h_t_goalOfGoer, .inl (cA, 13, .inl f_t_goalOfGoer_4))]) (WC' := [(h_t, .inr (8, [.int f_t_nearestNumber, .int f_t_nearestLength, .int f_t_goals_1, .int f_t_goers_1, .int f_t_reached_3, .ref h_t_goalTones, .ref h_t_goerTones, .ref h_t_extra, .ref h_t_goalPrices, .ref h_t_goerPrices, .ref h_t_goalOfGoer, .ref h_t_cameFrom, .ref h_t_slack])), (h_t_cameFrom, .inl (cA, 13, .inl f_t_cameFrom_3)), (h_t_goalOfGoer, .inl (cA, 13, .inl f_t_goalOfGoer_5))]) (WR := [(h_t_extra, .inl (cA, 169, .inl f_t_extra_1)), (h_t_goalPrices, .inl (cA, 13, .inl f_t_goalPrices_4)), (h_t_goalTones, .inl (cA, 13, .inl f_t_goalTones_1)), (h_t_goerPrices, .inl (cA, 13, .inl f_t_goerPrices_4)), (h_t_goerTones, .inl (cA, 13, .inl f_t_goerTones_1)), (h_t_slack, .inl (cA, 13, .inl f_t_slack_3))]) (W' := [(h_t, .inr (8, [.int f_t_nearestNumber, .int f_t_nearestLength, .int f_t_goals_1, .int f_t_goers_1, .int f_t_reached_3, .ref h_t_goalTones, .ref h_t_goerTones, .ref h_t_extra, .ref h_t_goalPrices, .ref h_t_goerPrices, .ref h_t_goalOfGoer, .ref h_t_cameFrom, .ref h_t_slack])), (h_t_cameFrom, .inl (cA, 13, .inl f_t_cameFrom_3)), (h_t_extra, .inl (cA, 169, .inl f_t_extra_1)), (h_t_goalOfGoer, .inl (cA, 13, .inl f_t_goalOfGoer_5)), (h_t_goalPrices, .inl (cA, 13, .inl f_t_goalPrices_4)), (h_t_goalTones, .inl (cA, 13, .inl f_t_goalTones_1)), (h_t_goerPrices, .inl (cA, 13, .inl f_t_goerPrices_4)), (h_t_goerTones, .inl (cA, 13, .inl f_t_goerTones_1)), (h_t_slack, .inl (cA, 13, .inl f_t_slack_3))]) ⟨hx, hb, hml, hown, hts⟩ hK hP hD hS hA (c_Ways_passOn l dC dI cA fu h_t h_t_goalTones h_t_goerTones h_t_extra h_t_goalPrices h_t_goerPrices h_t_goalOfGoer h_t_cameFrom h_t_slack f_t_nearestNumber f_t_nearestLength f_t_goals_1 f_t_goers_1 f_t_reached_3 f_t_cameFrom_3 f_t_goalOfGoer_4 v7_1 f_t_goalOfGoer_5 hc116) (cwV 1 hts gX9_least_X9_passOn rfl rfl rfl (by decide +kernel) ⟨Nat.le_of_ble_eq_true rfl, Nat.le_of_ble_eq_true rfl⟩) [0, 1, 3] [2, 4, 5, 6, 7, 8] [6, 7, 0, 8, 1, 2, 3, 4, 5] rfl rfl rfl rfl (ci := 8) (q0 := 0) rfl rfl rfl rfl hl.1 (Nat.le_of_ble_eq_true rfl) dX9_least_116 ⟨Nat.zero_le _, Nat.zero_le _⟩ (fun H locs hP hD hS => ?_)
              obtain ⟨v6_3, ev6_3⟩ : ∃ z : Int32, z = v6_2 + 1 := ⟨_, rfl⟩
              replace hm := lt_go ev6_3 hm
              refine lv_iinc (v := v6_3) (lv' := [(6, .int v6_3), (7, .int v7_1), (0, .ref h_t), (5, .int v5_1)]) hx hb dX9_least_119 hl (k := 3) rfl (by rw [ev6_3]; rfl) (by decide) rfl (fun ls hl => ?_)
              refine lv_goto (tgt := 96) hx hb dX9_least_122 (by decide) ?_
              exact ih _ _ _ _ _ _ _ _ _ _ _ _ _ hm _ _ hP hD hS _ (lv_sub hl [2, 3, 0] rfl) KK
        obtain ⟨f_t_cameFrom_4, f_t_goalOfGoer_6, f_t_goalPrices_5, f_t_goerPrices_5, f_t_reached_4, f_t_slack_4, hl96, hm⟩ := bd6_go hm
        refine L96 _ _ _ _ _ _ _ _ _ _ _ _ _ _ hl96 _ _ hP hD hS _ (lv_sub hl [2, 1, 0] rfl) (fun H locs hP hD hS ls hl => ?_)
        refine lv_iload hx hb dX9_least_125 (lv_at hl 1 rfl) ?_
        refine lv_aload_n hx hb dX9_least_127 rfl (lv_at hl 0 rfl) ?_
        refine va_get (D := (dC, dI)) (ci := 8) (v := .ref h_t_goerPrices) (C := RX9) (T := TX9) (N := 13) hx hb hts uX9 hown hK hP 0 rfl rfl 9 (by decide) k6 (fun _ h9 => h9) rfl dX9_least_128 ?_
        refine lv_iconst (v := 0) hx hb dX9_least_131 (by decide) ?_
        obtain ⟨b132, hm⟩ := ck_go hm
        refine va_iald hx hb hK hP 6 0 rfl rfl b132 dX9_least_132 ?_
        refine lv_isub hx hb dX9_least_133 ?_
        cases hm
        exact W_mono hQ (W.iret hx hb hr (fun t ht hW => ⟨⟨_, (), rfl, rfl, by rw [ht]; exact hP, va_K.moved hW.alike hK, hD⟩, hS.F ht⟩) hS.2.2 dX9_least_134)
      clear hm
      refine lv_if_eq (tgt := 51) hx hb dX9_least_44 (by decide) (fun c44 => ?_) (fun c44 => ?_)
      · replace hqJ_3 := if_t c44 hqJ_3
        refine lv_iload_n hx hb dX9_least_51 rfl (lv_at hl 2 rfl) ?_
        cases hqJ_3
        exact J_3 _ _ hP hD hS _ (lv_sub hl [0, 3] rfl)
      · replace hqJ_3 := if_f c44 hqJ_3
        refine lv_iload_n hx hb dX9_least_47 rfl (lv_at hl 1 rfl) ?_
        refine lv_goto (tgt := 52) hx hb dX9_least_48 (by decide) ?_
        cases hqJ_3
        exact J_3 _ _ hP hD hS _ (lv_sub hl [0, 3] rfl)
    clear hm
    refine lv_if_eq (tgt := 29) hx hb dX9_least_22 (by decide) (fun c22 => ?_) (fun c22 => ?_)
    · replace hqJ_2 := if_t c22 hqJ_2
      refine lv_iload_n hx hb dX9_least_29 rfl (lv_at hl 2 rfl) ?_
      cases hqJ_2
      exact J_2 _ _ hP hD hS _ (lv_sub hl [1, 2, 3, 4, 0] rfl)
    · replace hqJ_2 := if_f c22 hqJ_2
      refine lv_iload_n hx hb dX9_least_25 rfl (lv_at hl 3 rfl) ?_
      refine lv_goto (tgt := 30) hx hb dX9_least_26 (by decide) ?_
      cases hqJ_2
      exact J_2 _ _ hP hD hS _ (lv_sub hl [1, 2, 3, 4, 0] rfl)
  clear hm
  refine lv_icmp_ge (tgt := 15) hx hb dX9_least_8 (by decide) (fun c8 => ?_) (fun c8 => ?_)
  · replace hqJ_1 := if_t c8 hqJ_1
    refine lv_iconst (v := 0) hx hb dX9_least_15 (by decide) ?_
    cases hqJ_1
    exact J_1 _ _ hP hD hS _ (lv_sub hl [0, 1, 2, 3] rfl)
  · replace hqJ_1 := if_f c8 hqJ_1
    refine lv_iconst (v := 1) hx hb dX9_least_11 (by decide) ?_
    refine lv_goto (tgt := 16) hx hb dX9_least_12 (by decide) ?_
    cases hqJ_1
    exact J_1 _ _ hP hD hS _ (lv_sub hl [0, 1, 2, 3] rfl)
abbrev rmX0_isSo : Room := { frames := 4, cells := 0, slots := 0, locals := 97 }
theorem uX7_X0_isSo : ∀ w ∈ wsX70, w ∈ wsX0_isSo := fun _ h => List.mem_cons_of_mem _ (List.mem_append_left _ (List.mem_append_right _ (h)))
set_option maxHeartbeats 40000000 in
set_option maxRecDepth 100000 in
theorem c_Book_isSo (l : Launch) (dC : Nat → ClassId) (dI : Nat → Nat → Nat) (cA : ClassId) (fu : Nat) (h_p3 h_p4 h_t h_p3_sets h_p4_goalTones h_p4_goerTones h_p4_extra h_p4_goalPrices h_p4_goerPrices h_p4_goalOfGoer h_p4_cameFrom h_p4_slack h_t_goals h_t_lengths : Nat) (f_p3_size : Int32) (f_p3_places : Int32) (f_p3_drawn : Int32) (f_p4_nearestNumber : Int32) (f_p4_nearestLength : Int32) (f_p4_goals : Int32) (f_p4_goers : Int32) (f_p4_reached : Int32) (f_t_entries : Int32) (f_p3_sets : Nat → Int32) (f_p4_cameFrom : Nat → Int32) (f_p4_extra : Nat → Int32) (f_p4_goalOfGoer : Nat → Int32) (f_p4_goalPrices : Nat → Int32) (f_p4_goalTones : Nat → Int32) (f_p4_goerPrices : Nat → Int32) (f_p4_goerTones : Nat → Int32) (f_p4_slack : Nat → Int32) (a1 : Int32) (a2 : Int32) (r0 : Int32) (f_p4_cameFrom_z : Nat → Int32) (f_p4_extra_z : Nat → Int32) (f_p4_goalOfGoer_z : Nat → Int32) (f_p4_goalPrices_z : Nat → Int32) (f_p4_goalTones_z : Nat → Int32) (f_p4_goals_z : Int32) (f_p4_goerPrices_z : Nat → Int32) (f_p4_goerTones_z : Nat → Int32) (f_p4_goers_z : Int32) (f_p4_reached_z : Int32) (f_p4_slack_z : Nat → Int32) (hm : m_Book_isSo fu f_p3_places f_p3_sets f_p3_size f_p4_cameFrom f_p4_extra f_p4_goalOfGoer f_p4_goalPrices f_p4_goalTones f_p4_goals f_p4_goerPrices f_p4_goerTones f_p4_goers f_p4_reached f_p4_slack a1 a2 = some (r0, f_p4_cameFrom_z, f_p4_extra_z, f_p4_goalOfGoer_z, f_p4_goalPrices_z, f_p4_goalTones_z, f_p4_goals_z, f_p4_goerPrices_z, f_p4_goerTones_z, f_p4_goers_z, f_p4_reached_z, f_p4_slack_z)) (sz : Nat) : Met l yX0_isSo wsX0_isSo rmX0_isSo (mPre (dC, dI) cA [.ref h_t, .int a1, .int a2, .ref h_p3, .ref h_p4] sz [(h_p3, .inr (6, [.int f_p3_size, .int f_p3_places, .int f_p3_drawn, .ref h_p3_sets])), (h_p4, .inr (8, [.int f_p4_nearestNumber, .int f_p4_nearestLength, .int f_p4_goals, .int f_p4_goers, .int f_p4_reached, .ref h_p4_goalTones, .ref h_p4_goerTones, .ref h_p4_extra, .ref h_p4_goalPrices, .ref h_p4_goerPrices, .ref h_p4_goalOfGoer, .ref h_p4_cameFrom, .ref h_p4_slack])), (h_t, .inr (0, [.int f_t_entries, .ref h_t_goals, .ref h_t_lengths])), (h_p3_sets, .inl (cA, 8, .inl f_p3_sets)), (h_p4_cameFrom, .inl (cA, 13, .inl f_p4_cameFrom)), (h_p4_extra, .inl (cA, 169, .inl f_p4_extra)), (h_p4_goalOfGoer, .inl (cA, 13, .inl f_p4_goalOfGoer)), (h_p4_goalPrices, .inl (cA, 13, .inl f_p4_goalPrices)), (h_p4_goalTones, .inl (cA, 13, .inl f_p4_goalTones)), (h_p4_goerPrices, .inl (cA, 13, .inl f_p4_goerPrices)), (h_p4_goerTones, .inl (cA, 13, .inl f_p4_goerTones)), (h_p4_slack, .inl (cA, 13, .inl f_p4_slack))]) (mPosI (dC, dI) cA r0 (va_A [(h_p3, .inr (6, [.int f_p3_size, .int f_p3_places, .int f_p3_drawn, .ref h_p3_sets])), (h_p4, .inr (8, [.int f_p4_nearestNumber, .int f_p4_nearestLength, .int f_p4_goals, .int f_p4_goers, .int f_p4_reached, .ref h_p4_goalTones, .ref h_p4_goerTones, .ref h_p4_extra, .ref h_p4_goalPrices, .ref h_p4_goerPrices, .ref h_p4_goalOfGoer, .ref h_p4_cameFrom, .ref h_p4_slack])), (h_t, .inr (0, [.int f_t_entries, .ref h_t_goals, .ref h_t_lengths])), (h_p3_sets, .inl (cA, 8, .inl f_p3_sets)), (h_p4_cameFrom, .inl (cA, 13, .inl f_p4_cameFrom)), (h_p4_extra, .inl (cA, 169, .inl f_p4_extra)), (h_p4_goalOfGoer, .inl (cA, 13, .inl f_p4_goalOfGoer)), (h_p4_goalPrices, .inl (cA, 13, .inl f_p4_goalPrices)), (h_p4_goalTones, .inl (cA, 13, .inl f_p4_goalTones)), (h_p4_goerPrices, .inl (cA, 13, .inl f_p4_goerPrices)), (h_p4_goerTones, .inl (cA, 13, .inl f_p4_goerTones)), (h_p4_slack, .inl (cA, 13, .inl f_p4_slack))] sz) [(h_p3, .inr (6, [.int f_p3_size, .int f_p3_places, .int f_p3_drawn, .ref h_p3_sets])), (h_p4, .inr (8, [.int f_p4_nearestNumber, .int f_p4_nearestLength, .int f_p4_goals_z, .int f_p4_goers_z, .int f_p4_reached_z, .ref h_p4_goalTones, .ref h_p4_goerTones, .ref h_p4_extra, .ref h_p4_goalPrices, .ref h_p4_goerPrices, .ref h_p4_goalOfGoer, .ref h_p4_cameFrom, .ref h_p4_slack])), (h_t, .inr (0, [.int f_t_entries, .ref h_t_goals, .ref h_t_lengths])), (h_p3_sets, .inl (cA, 8, .inl f_p3_sets)), (h_p4_cameFrom, .inl (cA, 13, .inl f_p4_cameFrom_z)), (h_p4_extra, .inl (cA, 169, .inl f_p4_extra_z)), (h_p4_goalOfGoer, .inl (cA, 13, .inl f_p4_goalOfGoer_z)), (h_p4_goalPrices, .inl (cA, 13, .inl f_p4_goalPrices_z)), (h_p4_goalTones, .inl (cA, 13, .inl f_p4_goalTones_z)), (h_p4_goerPrices, .inl (cA, 13, .inl f_p4_goerPrices_z)), (h_p4_goerTones, .inl (cA, 13, .inl f_p4_goerTones_z)), (h_p4_slack, .inl (cA, 13, .inl f_p4_slack_z))]) 0 0 (va_A [(h_p3, .inr (6, [.int f_p3_size, .int f_p3_places, .int f_p3_drawn, .ref h_p3_sets])), (h_p4, .inr (8, [.int f_p4_nearestNumber, .int f_p4_nearestLength, .int f_p4_goals, .int f_p4_goers, .int f_p4_reached, .ref h_p4_goalTones, .ref h_p4_goerTones, .ref h_p4_extra, .ref h_p4_goalPrices, .ref h_p4_goerPrices, .ref h_p4_goalOfGoer, .ref h_p4_cameFrom, .ref h_p4_slack])), (h_t, .inr (0, [.int f_t_entries, .ref h_t_goals, .ref h_t_lengths])), (h_p3_sets, .inl (cA, 8, .inl f_p3_sets)), (h_p4_cameFrom, .inl (cA, 13, .inl f_p4_cameFrom)), (h_p4_extra, .inl (cA, 169, .inl f_p4_extra)), (h_p4_goalOfGoer, .inl (cA, 13, .inl f_p4_goalOfGoer)), (h_p4_goalPrices, .inl (cA, 13, .inl f_p4_goalPrices)), (h_p4_goalTones, .inl (cA, 13, .inl f_p4_goalTones)), (h_p4_goerPrices, .inl (cA, 13, .inl f_p4_goerPrices)), (h_p4_goerTones, .inl (cA, 13, .inl f_p4_goerTones)), (h_p4_slack, .inl (cA, 13, .inl f_p4_slack))] sz) := by
  refine Met.ofW (cc := cX0_isSo) (maxL := 7) (ret := (some .boolean)) (by decide) rfl ?_
  intro p e s m args below meth c s₁ B hml hv
  obtain ⟨rfl, hsz, hP, hK, hD0⟩ := hv
  refine W_gen (fun Q hQ => ?_)
  have hx := B.exec
  have hb := B.bytes
  have hr := B.returns
  have hts := atoms_spec (ws := wsX0_isSo) B.pre
  have hown : s.vm.findClass RX0 = some m.cls := findClass_of_methodNamed B.named
  have hlocks := B.notSynchronized
  subst hsz
  have hD := hD0.self (sz := s.heap.size)
  clear hD0
  generalize hAe : va_A [(h_p3, .inr (6, [.int f_p3_size, .int f_p3_places, .int f_p3_drawn, .ref h_p3_sets])), (h_p4, .inr (8, [.int f_p4_nearestNumber, .int f_p4_nearestLength, .int f_p4_goals, .int f_p4_goers, .int f_p4_reached, .ref h_p4_goalTones, .ref h_p4_goerTones, .ref h_p4_extra, .ref h_p4_goalPrices, .ref h_p4_goerPrices, .ref h_p4_goalOfGoer, .ref h_p4_cameFrom, .ref h_p4_slack])), (h_t, .inr (0, [.int f_t_entries, .ref h_t_goals, .ref h_t_lengths])), (h_p3_sets, .inl (cA, 8, .inl f_p3_sets)), (h_p4_cameFrom, .inl (cA, 13, .inl f_p4_cameFrom)), (h_p4_extra, .inl (cA, 169, .inl f_p4_extra)), (h_p4_goalOfGoer, .inl (cA, 13, .inl f_p4_goalOfGoer)), (h_p4_goalPrices, .inl (cA, 13, .inl f_p4_goalPrices)), (h_p4_goalTones, .inl (cA, 13, .inl f_p4_goalTones)), (h_p4_goerPrices, .inl (cA, 13, .inl f_p4_goerPrices)), (h_p4_goerTones, .inl (cA, 13, .inl f_p4_goerTones)), (h_p4_slack, .inl (cA, 13, .inl f_p4_slack))] s.heap.size = A at hD hQ
  have hA : ∀ q : Nat, s.heap.size ≤ q → A q := fun q h => by rw [← hAe]; exact Or.inr h
  clear hAe
  have hS : va_S A s.heap s.heap [] := va_S.rf
  have hl := lv_entry ([.ref h_t, .int a1, .int a2, .ref h_p3, .ref h_p4]) (n := 7) (Nat.le_of_ble_eq_true rfl)
  rw [lg_entry_eq]
  generalize (lg_sl ([.ref h_t, .int a1, .int a2, .ref h_p3, .ref h_p4]) ++ List.replicate (7 - (lg_sl ([.ref h_t, .int a1, .int a2, .ref h_p3, .ref h_p4])).length) Slot.unset).toArray = ls at hl ⊢
  have hl : lv_has ls 7 [(0, .ref h_t), (1, .int a1), (2, .int a2), (3, .ref h_p3), (4, .ref h_p4)] := hl
  have k1 := hts (.fieldLink RX0 36 "ToneSets$Shelf" "size" "I") (List.mem_of_getElem? (i := 1) rfl)
  have uX7 := uX7_X0_isSo
  unfold m_Book_isSo at hm
  refine lv_aload_n hx hb dX0_isSo_0 rfl (lv_at hl 3 rfl) ?_
  refine lv_iconst (v := 0) hx hb dX0_isSo_1 (by decide) ?_
  obtain ⟨r_1, hc2, hm⟩ := bd1_go hm
  refine my_cVi (As := [.int 0]) (rest := []) (WC := [(h_p3, .inr (6, [.int f_p3_size, .int f_p3_places, .int f_p3_drawn, .ref h_p3_sets])), (h_p3_sets, .inl (cA, 8, .inl f_p3_sets))]) (WC' := [(h_p3, .inr (6, [.int f_p3_size, .int f_p3_places, .int f_p3_drawn, .ref h_p3_sets])), (h_p3_sets, .inl (cA, 8, .inl f_p3_sets))]) (WR := [(h_p4, .inr (8, [.int f_p4_nearestNumber, .int f_p4_nearestLength, .int f_p4_goals, .int f_p4_goers, .int f_p4_reached, .ref h_p4_goalTones, .ref h_p4_goerTones, .ref h_p4_extra, .ref h_p4_goalPrices, .ref h_p4_goerPrices, .ref h_p4_goalOfGoer, .ref h_p4_cameFrom, .ref h_p4_slack])), (h_t, .inr (0, [.int f_t_entries, .ref h_t_goals, .ref h_t_lengths])), (h_p4_cameFrom, .inl (cA, 13, .inl f_p4_cameFrom)), (h_p4_extra, .inl (cA, 169, .inl f_p4_extra)), (h_p4_goalOfGoer, .inl (cA, 13, .inl f_p4_goalOfGoer)), (h_p4_goalPrices, .inl (cA, 13, .inl f_p4_goalPrices)), (h_p4_goalTones, .inl (cA, 13, .inl f_p4_goalTones)), (h_p4_goerPrices, .inl (cA, 13, .inl f_p4_goerPrices)), (h_p4_goerTones, .inl (cA, 13, .inl f_p4_goerTones)), (h_p4_slack, .inl (cA, 13, .inl f_p4_slack))]) (W' := [(h_p3, .inr (6, [.int f_p3_size, .int f_p3_places, .int f_p3_drawn, .ref h_p3_sets])), (h_p4, .inr (8, [.int f_p4_nearestNumber, .int f_p4_nearestLength, .int f_p4_goals, .int f_p4_goers, .int f_p4_reached, .ref h_p4_goalTones, .ref h_p4_goerTones, .ref h_p4_extra, .ref h_p4_goalPrices, .ref h_p4_goerPrices, .ref h_p4_goalOfGoer, .ref h_p4_cameFrom, .ref h_p4_slack])), (h_t, .inr (0, [.int f_t_entries, .ref h_t_goals, .ref h_t_lengths])), (h_p3_sets, .inl (cA, 8, .inl f_p3_sets)), (h_p4_cameFrom, .inl (cA, 13, .inl f_p4_cameFrom)), (h_p4_extra, .inl (cA, 169, .inl f_p4_extra)), (h_p4_goalOfGoer, .inl (cA, 13, .inl f_p4_goalOfGoer)), (h_p4_goalPrices, .inl (cA, 13, .inl f_p4_goalPrices)), (h_p4_goalTones, .inl (cA, 13, .inl f_p4_goalTones)), (h_p4_goerPrices, .inl (cA, 13, .inl f_p4_goerPrices)), (h_p4_goerTones, .inl (cA, 13, .inl f_p4_goerTones)), (h_p4_slack, .inl (cA, 13, .inl f_p4_slack))]) ⟨hx, hb, hml, hown, hts⟩ hK hP hD hS hA (c_Shelf_setAt l dC dI cA h_p3 h_p3_sets f_p3_size f_p3_places f_p3_drawn f_p3_sets 0 r_1 hc2) (cwV 1 hts gX0_isSo_X7_setAt rfl rfl rfl (by decide +kernel) ⟨Nat.le_of_ble_eq_true rfl, Nat.le_of_ble_eq_true rfl⟩) [0, 3] [1, 2, 4, 5, 6, 7, 8, 9, 10, 11] [10, 0, 1, 11, 2, 3, 4, 5, 6, 7, 8, 9] rfl rfl rfl rfl (ci := 6) (q0 := 0) rfl rfl rfl rfl hl.1 (Nat.le_of_ble_eq_true rfl) dX0_isSo_2 ⟨Nat.zero_le _, Nat.zero_le _⟩ (fun H locs hP hD hS => ?_)
  refine lv_topi (fun v5_1 ev5_1 => ?_)
  replace hm := lt_go ev5_1 hm
  refine lv_istore (lv' := [(5, .int v5_1), (0, .ref h_t), (1, .int a1), (2, .int a2), (3, .ref h_p3), (4, .ref h_p4)]) hx hb dX0_isSo_5 hl (by decide) rfl (fun ls hl => ?_)
  refine lv_aload_n hx hb dX0_isSo_7 rfl (lv_at hl 4 rfl) ?_
  refine lv_iload_n hx hb dX0_isSo_8 rfl (lv_at hl 2 rfl) ?_
  obtain ⟨r_2, hc9, hm⟩ := bd1_go hm
  refine my_cVi (As := [.int a1]) (rest := []) (WC := [(h_p3, .inr (6, [.int f_p3_size, .int f_p3_places, .int f_p3_drawn, .ref h_p3_sets])), (h_p3_sets, .inl (cA, 8, .inl f_p3_sets))]) (WC' := [(h_p3, .inr (6, [.int f_p3_size, .int f_p3_places, .int f_p3_drawn, .ref h_p3_sets])), (h_p3_sets, .inl (cA, 8, .inl f_p3_sets))]) (WR := [(h_p4, .inr (8, [.int f_p4_nearestNumber, .int f_p4_nearestLength, .int f_p4_goals, .int f_p4_goers, .int f_p4_reached, .ref h_p4_goalTones, .ref h_p4_goerTones, .ref h_p4_extra, .ref h_p4_goalPrices, .ref h_p4_goerPrices, .ref h_p4_goalOfGoer, .ref h_p4_cameFrom, .ref h_p4_slack])), (h_t, .inr (0, [.int f_t_entries, .ref h_t_goals, .ref h_t_lengths])), (h_p4_cameFrom, .inl (cA, 13, .inl f_p4_cameFrom)), (h_p4_extra, .inl (cA, 169, .inl f_p4_extra)), (h_p4_goalOfGoer, .inl (cA, 13, .inl f_p4_goalOfGoer)), (h_p4_goalPrices, .inl (cA, 13, .inl f_p4_goalPrices)), (h_p4_goalTones, .inl (cA, 13, .inl f_p4_goalTones)), (h_p4_goerPrices, .inl (cA, 13, .inl f_p4_goerPrices)), (h_p4_goerTones, .inl (cA, 13, .inl f_p4_goerTones)), (h_p4_slack, .inl (cA, 13, .inl f_p4_slack))]) (W' := [(h_p3, .inr (6, [.int f_p3_size, .int f_p3_places, .int f_p3_drawn, .ref h_p3_sets])), (h_p4, .inr (8, [.int f_p4_nearestNumber, .int f_p4_nearestLength, .int f_p4_goals, .int f_p4_goers, .int f_p4_reached, .ref h_p4_goalTones, .ref h_p4_goerTones, .ref h_p4_extra, .ref h_p4_goalPrices, .ref h_p4_goerPrices, .ref h_p4_goalOfGoer, .ref h_p4_cameFrom, .ref h_p4_slack])), (h_t, .inr (0, [.int f_t_entries, .ref h_t_goals, .ref h_t_lengths])), (h_p3_sets, .inl (cA, 8, .inl f_p3_sets)), (h_p4_cameFrom, .inl (cA, 13, .inl f_p4_cameFrom)), (h_p4_extra, .inl (cA, 169, .inl f_p4_extra)), (h_p4_goalOfGoer, .inl (cA, 13, .inl f_p4_goalOfGoer)), (h_p4_goalPrices, .inl (cA, 13, .inl f_p4_goalPrices)), (h_p4_goalTones, .inl (cA, 13, .inl f_p4_goalTones)), (h_p4_goerPrices, .inl (cA, 13, .inl f_p4_goerPrices)), (h_p4_goerTones, .inl (cA, 13, .inl f_p4_goerTones)), (h_p4_slack, .inl (cA, 13, .inl f_p4_slack))]) ⟨hx, hb, hml, hown, hts⟩ hK hP hD hS hA (c_Shelf_setAt l dC dI cA h_p3 h_p3_sets f_p3_size f_p3_places f_p3_drawn f_p3_sets a1 r_2 hc9) (cwV 1 hts gX0_isSo_X7_setAt rfl rfl rfl (by decide +kernel) ⟨Nat.le_of_ble_eq_true rfl, Nat.le_of_ble_eq_true rfl⟩) [0, 3] [1, 2, 4, 5, 6, 7, 8, 9, 10, 11] [10, 0, 1, 11, 2, 3, 4, 5, 6, 7, 8, 9] rfl rfl rfl rfl (ci := 6) (q0 := 0) rfl rfl rfl rfl hl.1 (Nat.le_of_ble_eq_true rfl) dX0_isSo_9 ⟨Nat.zero_le _, Nat.zero_le _⟩ (fun H locs hP hD hS => ?_)
  refine lv_topi (fun v6_1 ev6_1 => ?_)
  replace hm := lt_go ev6_1 hm
  refine lv_istore (lv' := [(6, .int v6_1), (5, .int v5_1), (0, .ref h_t), (1, .int a1), (2, .int a2), (3, .ref h_p3), (4, .ref h_p4)]) hx hb dX0_isSo_12 hl (by decide) rfl (fun ls hl => ?_)
  refine lv_iload hx hb dX0_isSo_14 (lv_at hl 1 rfl) ?_
  refine lv_if_eq (tgt := 45) hx hb dX0_isSo_16 (by decide) (fun c16 => ?_) (fun c16 => ?_)
  · replace hm := if_t c16 hm
    refine lv_iconst (v := 0) hx hb dX0_isSo_45 (by decide) ?_
    cases hm
    exact W_mono hQ (W.zret hx hb hr rfl (fun t ht hW => ⟨⟨_, (), rfl, rfl, by rw [ht]; exact hP, va_K.moved hW.alike hK, hD⟩, hS.F ht⟩) hS.2.2 dX0_isSo_46)
  · replace hm := if_f c16 hm
    refine lv_iload hx hb dX0_isSo_19 (lv_at hl 0 rfl) ?_
    refine lv_if_eq (tgt := 45) hx hb dX0_isSo_21 (by decide) (fun c21 => ?_) (fun c21 => ?_)
    · replace hm := if_t c21 hm
      refine lv_iconst (v := 0) hx hb dX0_isSo_45 (by decide) ?_
      cases hm
      exact W_mono hQ (W.zret hx hb hr rfl (fun t ht hW => ⟨⟨_, (), rfl, rfl, by rw [ht]; exact hP, va_K.moved hW.alike hK, hD⟩, hS.F ht⟩) hS.2.2 dX0_isSo_46)
    · replace hm := if_f c21 hm
      refine lv_aload hx hb dX0_isSo_24 (lv_at hl 6 rfl) ?_
      refine lv_iload hx hb dX0_isSo_26 (lv_at hl 1 rfl) ?_
      refine lv_iload hx hb dX0_isSo_28 (lv_at hl 0 rfl) ?_
      refine lv_aload_n hx hb dX0_isSo_30 rfl (lv_at hl 5 rfl) ?_
      refine va_get (D := (dC, dI)) (ci := 6) (v := .int f_p3_size) (C := RX7) (T := TX7) (N := 4) hx hb hts uX7 hown hK hP 0 rfl rfl 0 (by decide) k1 (fun _ h9 => h9) rfl dX0_isSo_31 ?_
      obtain ⟨r_3, f_p4_cameFrom_1, f_p4_extra_1, f_p4_goalOfGoer_1, f_p4_goalPrices_1, f_p4_goalTones_1, f_p4_goals_1, f_p4_goerPrices_1, f_p4_goerTones_1, f_p4_goers_1, f_p4_reached_1, f_p4_slack_1, hc34, hm⟩ := bd12_go hm
      refine my_cVi (As := [.int v5_1, .int v6_1, .int f_p3_size]) (rest := []) (WC := [(h_p4, .inr (8, [.int f_p4_nearestNumber, .int f_p4_nearestLength, .int f_p4_goals, .int f_p4_goers, .int f_p4_reached, .ref h_p4_goalTones, .ref h_p4_goerTones, .ref h_p4_extra, .ref h_p4_goalPrices, .ref h_p4_goerPrices, .ref h_p4_goalOfGoer, .ref h_p4_cameFrom, .ref h_p4_slack])), (h_p4_cameFrom, .inl (cA, 13, .inl f_p4_cameFrom)), (h_p4_extra, .inl (cA, 169, .inl f_p4_extra)), (h_p4_goalOfGoer, .inl (cA, 13, .inl f_p4_goalOfGoer)), (h_p4_goalPrices, .inl (cA, 13, .inl f_p4_goalPrices)), (h_p4_goalTones, .inl (cA, 13, .inl f_p4_goalTones)), (h_p4_goerPrices, .inl (cA, 13, .inl f_p4_goerPrices)), (h_p4_goerTones, .inl (cA, 13, .inl f_p4_goerTones)), (h_p4_slack, .inl (cA, 13, .inl f_p4_slack))]) (WC' := [(h_p4, .inr (8, [.int f_p4_nearestNumber, .int f_p4_nearestLength, .int f_p4_goals_1, .int f_p4_goers_1, .int f_p4_reached_1, .ref h_p4_goalTones, .ref h_p4_goerTones, .ref h_p4_extra, .ref h_p4_goalPrices, .ref h_p4_goerPrices, .ref h_p4_goalOfGoer, .ref h_p4_cameFrom, .ref h_p4_slack])), (h_p4_cameFrom, .inl (cA, 13, .inl f_p4_cameFrom_1)), (h_p4_extra, .inl (cA, 169, .inl f_p4_extra_1)), (h_p4_goalOfGoer, .inl (cA, 13, .inl f_p4_goalOfGoer_1)), (h_p4_goalPrices, .inl (cA, 13, .inl f_p4_goalPrices_1)), (h_p4_goalTones, .inl (cA, 13, .inl f_p4_goalTones_1)), (h_p4_goerPrices, .inl (cA, 13, .inl f_p4_goerPrices_1)), (h_p4_goerTones, .inl (cA, 13, .inl f_p4_goerTones_1)), (h_p4_slack, .inl (cA, 13, .inl f_p4_slack_1))]) (WR := [(h_p3, .inr (6, [.int f_p3_size, .int f_p3_places, .int f_p3_drawn, .ref h_p3_sets])), (h_t, .inr (0, [.int f_t_entries, .ref h_t_goals, .ref h_t_lengths])), (h_p3_sets, .inl (cA, 8, .inl f_p3_sets))]) (W' := [(h_p3, .inr (6, [.int f_p3_size, .int f_p3_places, .int f_p3_drawn, .ref h_p3_sets])), (h_p4, .inr (8, [.int f_p4_nearestNumber, .int f_p4_nearestLength, .int f_p4_goals_1, .int f_p4_goers_1, .int f_p4_reached_1, .ref h_p4_goalTones, .ref h_p4_goerTones, .ref h_p4_extra, .ref h_p4_goalPrices, .ref h_p4_goerPrices, .ref h_p4_goalOfGoer, .ref h_p4_cameFrom, .ref h_p4_slack])), (h_t, .inr (0, [.int f_t_entries, .ref h_t_goals, .ref h_t_lengths])), (h_p3_sets, .inl (cA, 8, .inl f_p3_sets)), (h_p4_cameFrom, .inl (cA, 13, .inl f_p4_cameFrom_1)), (h_p4_extra, .inl (cA, 169, .inl f_p4_extra_1)), (h_p4_goalOfGoer, .inl (cA, 13, .inl f_p4_goalOfGoer_1)), (h_p4_goalPrices, .inl (cA, 13, .inl f_p4_goalPrices_1)), (h_p4_goalTones, .inl (cA, 13, .inl f_p4_goalTones_1)), (h_p4_goerPrices, .inl (cA, 13, .inl f_p4_goerPrices_1)), (h_p4_goerTones, .inl (cA, 13, .inl f_p4_goerTones_1)), (h_p4_slack, .inl (cA, 13, .inl f_p4_slack_1))]) ⟨hx, hb, hml, hown, hts⟩ hK hP hD hS hA (c_Ways_least l dC dI cA fu h_p4 h_p4_goalTones h_p4_goerTones h_p4_extra h_p4_goalPrices h_p4_goerPrices h_p4_goalOfGoer h_p4_cameFrom h_p4_slack f_p4_nearestNumber f_p4_nearestLength f_p4_goals f_p4_goers f_p4_reached f_p4_cameFrom f_p4_extra f_p4_goalOfGoer f_p4_goalPrices f_p4_goalTones f_p4_goerPrices f_p4_goerTones f_p4_slack v5_1 v6_1 f_p3_size r_3 f_p4_cameFrom_1 f_p4_extra_1 f_p4_goalOfGoer_1 f_p4_goalPrices_1 f_p4_goalTones_1 f_p4_goals_1 f_p4_goerPrices_1 f_p4_goerTones_1 f_p4_goers_1 f_p4_reached_1 f_p4_slack_1 hc34) (cwV 3 hts gX0_isSo_X9_least rfl rfl rfl (by decide +kernel) ⟨Nat.le_of_ble_eq_true rfl, Nat.le_of_ble_eq_true rfl⟩) [1, 4, 5, 6, 7, 8, 9, 10, 11] [0, 2, 3] [0, 3, 1, 2, 4, 5, 6, 7, 8, 9, 10, 11] rfl rfl rfl rfl (ci := 8) (q0 := 0) rfl rfl rfl rfl hl.1 (Nat.le_of_ble_eq_true rfl) dX0_isSo_34 ⟨Nat.zero_le _, Nat.zero_le _⟩ (fun H locs hP hD hS => ?_)
      refine lv_iload_n hx hb dX0_isSo_37 rfl (lv_at hl 4 rfl) ?_
      refine lv_icmp_ne (tgt := 45) hx hb dX0_isSo_38 (by decide) (fun c38 => ?_) (fun c38 => ?_)
      · replace hm := if_f c38 hm
        refine lv_iconst (v := 0) hx hb dX0_isSo_45 (by decide) ?_
        cases hm
        exact W_mono hQ (W.zret hx hb hr rfl (fun t ht hW => ⟨⟨_, (), rfl, rfl, by rw [ht]; exact hP, va_K.moved hW.alike hK, hD⟩, hS.F ht⟩) hS.2.2 dX0_isSo_46)
      · replace hm := if_t c38 hm
        refine lv_iconst (v := 1) hx hb dX0_isSo_41 (by decide) ?_
        refine lv_goto (tgt := 46) hx hb dX0_isSo_42 (by decide) ?_
        cases hm
        exact W_mono hQ (W.zret hx hb hr rfl (fun t ht hW => ⟨⟨_, (), rfl, rfl, by rw [ht]; exact hP, va_K.moved hW.alike hK, hD⟩, hS.F ht⟩) hS.2.2 dX0_isSo_46)
abbrev rmX0_firstWrong : Room := { frames := 5, cells := 0, slots := 0, locals := 123 }
theorem uX0_X0_firstWrong : ∀ w ∈ wsX00, w ∈ wsX0_firstWrong := fun _ h => List.mem_cons_of_mem _ (List.mem_append_left _ (List.mem_append_left _ (List.mem_append_right _ (h))))
set_option maxHeartbeats 40000000 in
set_option maxRecDepth 100000 in
theorem c_Book_firstWrong (l : Launch) (dC : Nat → ClassId) (dI : Nat → Nat → Nat) (cA : ClassId) (fu : Nat) (h_p1 h_p2 h_t h_p1_sets h_p2_goalTones h_p2_goerTones h_p2_extra h_p2_goalPrices h_p2_goerPrices h_p2_goalOfGoer h_p2_cameFrom h_p2_slack h_t_goals h_t_lengths : Nat) (f_p1_size : Int32) (f_p1_places : Int32) (f_p1_drawn : Int32) (f_p2_nearestNumber : Int32) (f_p2_nearestLength : Int32) (f_p2_goals : Int32) (f_p2_goers : Int32) (f_p2_reached : Int32) (f_t_entries : Int32) (f_p1_sets : Nat → Int32) (f_p2_cameFrom : Nat → Int32) (f_p2_extra : Nat → Int32) (f_p2_goalOfGoer : Nat → Int32) (f_p2_goalPrices : Nat → Int32) (f_p2_goalTones : Nat → Int32) (f_p2_goerPrices : Nat → Int32) (f_p2_goerTones : Nat → Int32) (f_p2_slack : Nat → Int32) (f_t_goals : Nat → Int32) (f_t_lengths : Nat → Int32) (r0 : Int32) (f_p2_cameFrom_z : Nat → Int32) (f_p2_extra_z : Nat → Int32) (f_p2_goalOfGoer_z : Nat → Int32) (f_p2_goalPrices_z : Nat → Int32) (f_p2_goalTones_z : Nat → Int32) (f_p2_goals_z : Int32) (f_p2_goerPrices_z : Nat → Int32) (f_p2_goerTones_z : Nat → Int32) (f_p2_goers_z : Int32) (f_p2_reached_z : Int32) (f_p2_slack_z : Nat → Int32) (hm : m_Book_firstWrong fu f_p1_places f_p1_sets f_p1_size f_p2_cameFrom f_p2_extra f_p2_goalOfGoer f_p2_goalPrices f_p2_goalTones f_p2_goals f_p2_goerPrices f_p2_goerTones f_p2_goers f_p2_reached f_p2_slack f_t_entries f_t_goals f_t_lengths = some (r0, f_p2_cameFrom_z, f_p2_extra_z, f_p2_goalOfGoer_z, f_p2_goalPrices_z, f_p2_goalTones_z, f_p2_goals_z, f_p2_goerPrices_z, f_p2_goerTones_z, f_p2_goers_z, f_p2_reached_z, f_p2_slack_z)) (sz : Nat) : Met l yX0_firstWrong wsX0_firstWrong rmX0_firstWrong (mPre (dC, dI) cA [.ref h_t, .ref h_p1, .ref h_p2] sz [(h_p1, .inr (6, [.int f_p1_size, .int f_p1_places, .int f_p1_drawn, .ref h_p1_sets])), (h_p2, .inr (8, [.int f_p2_nearestNumber, .int f_p2_nearestLength, .int f_p2_goals, .int f_p2_goers, .int f_p2_reached, .ref h_p2_goalTones, .ref h_p2_goerTones, .ref h_p2_extra, .ref h_p2_goalPrices, .ref h_p2_goerPrices, .ref h_p2_goalOfGoer, .ref h_p2_cameFrom, .ref h_p2_slack])), (h_t, .inr (0, [.int f_t_entries, .ref h_t_goals, .ref h_t_lengths])), (h_p1_sets, .inl (cA, 8, .inl f_p1_sets)), (h_p2_cameFrom, .inl (cA, 13, .inl f_p2_cameFrom)), (h_p2_extra, .inl (cA, 169, .inl f_p2_extra)), (h_p2_goalOfGoer, .inl (cA, 13, .inl f_p2_goalOfGoer)), (h_p2_goalPrices, .inl (cA, 13, .inl f_p2_goalPrices)), (h_p2_goalTones, .inl (cA, 13, .inl f_p2_goalTones)), (h_p2_goerPrices, .inl (cA, 13, .inl f_p2_goerPrices)), (h_p2_goerTones, .inl (cA, 13, .inl f_p2_goerTones)), (h_p2_slack, .inl (cA, 13, .inl f_p2_slack)), (h_t_goals, .inl (cA, 20, .inl f_t_goals)), (h_t_lengths, .inl (cA, 20, .inl f_t_lengths))]) (mPosI (dC, dI) cA r0 (va_A [(h_p1, .inr (6, [.int f_p1_size, .int f_p1_places, .int f_p1_drawn, .ref h_p1_sets])), (h_p2, .inr (8, [.int f_p2_nearestNumber, .int f_p2_nearestLength, .int f_p2_goals, .int f_p2_goers, .int f_p2_reached, .ref h_p2_goalTones, .ref h_p2_goerTones, .ref h_p2_extra, .ref h_p2_goalPrices, .ref h_p2_goerPrices, .ref h_p2_goalOfGoer, .ref h_p2_cameFrom, .ref h_p2_slack])), (h_t, .inr (0, [.int f_t_entries, .ref h_t_goals, .ref h_t_lengths])), (h_p1_sets, .inl (cA, 8, .inl f_p1_sets)), (h_p2_cameFrom, .inl (cA, 13, .inl f_p2_cameFrom)), (h_p2_extra, .inl (cA, 169, .inl f_p2_extra)), (h_p2_goalOfGoer, .inl (cA, 13, .inl f_p2_goalOfGoer)), (h_p2_goalPrices, .inl (cA, 13, .inl f_p2_goalPrices)), (h_p2_goalTones, .inl (cA, 13, .inl f_p2_goalTones)), (h_p2_goerPrices, .inl (cA, 13, .inl f_p2_goerPrices)), (h_p2_goerTones, .inl (cA, 13, .inl f_p2_goerTones)), (h_p2_slack, .inl (cA, 13, .inl f_p2_slack)), (h_t_goals, .inl (cA, 20, .inl f_t_goals)), (h_t_lengths, .inl (cA, 20, .inl f_t_lengths))] sz) [(h_p1, .inr (6, [.int f_p1_size, .int f_p1_places, .int f_p1_drawn, .ref h_p1_sets])), (h_p2, .inr (8, [.int f_p2_nearestNumber, .int f_p2_nearestLength, .int f_p2_goals_z, .int f_p2_goers_z, .int f_p2_reached_z, .ref h_p2_goalTones, .ref h_p2_goerTones, .ref h_p2_extra, .ref h_p2_goalPrices, .ref h_p2_goerPrices, .ref h_p2_goalOfGoer, .ref h_p2_cameFrom, .ref h_p2_slack])), (h_t, .inr (0, [.int f_t_entries, .ref h_t_goals, .ref h_t_lengths])), (h_p1_sets, .inl (cA, 8, .inl f_p1_sets)), (h_p2_cameFrom, .inl (cA, 13, .inl f_p2_cameFrom_z)), (h_p2_extra, .inl (cA, 169, .inl f_p2_extra_z)), (h_p2_goalOfGoer, .inl (cA, 13, .inl f_p2_goalOfGoer_z)), (h_p2_goalPrices, .inl (cA, 13, .inl f_p2_goalPrices_z)), (h_p2_goalTones, .inl (cA, 13, .inl f_p2_goalTones_z)), (h_p2_goerPrices, .inl (cA, 13, .inl f_p2_goerPrices_z)), (h_p2_goerTones, .inl (cA, 13, .inl f_p2_goerTones_z)), (h_p2_slack, .inl (cA, 13, .inl f_p2_slack_z)), (h_t_goals, .inl (cA, 20, .inl f_t_goals)), (h_t_lengths, .inl (cA, 20, .inl f_t_lengths))]) 0 0 (va_A [(h_p1, .inr (6, [.int f_p1_size, .int f_p1_places, .int f_p1_drawn, .ref h_p1_sets])), (h_p2, .inr (8, [.int f_p2_nearestNumber, .int f_p2_nearestLength, .int f_p2_goals, .int f_p2_goers, .int f_p2_reached, .ref h_p2_goalTones, .ref h_p2_goerTones, .ref h_p2_extra, .ref h_p2_goalPrices, .ref h_p2_goerPrices, .ref h_p2_goalOfGoer, .ref h_p2_cameFrom, .ref h_p2_slack])), (h_t, .inr (0, [.int f_t_entries, .ref h_t_goals, .ref h_t_lengths])), (h_p1_sets, .inl (cA, 8, .inl f_p1_sets)), (h_p2_cameFrom, .inl (cA, 13, .inl f_p2_cameFrom)), (h_p2_extra, .inl (cA, 169, .inl f_p2_extra)), (h_p2_goalOfGoer, .inl (cA, 13, .inl f_p2_goalOfGoer)), (h_p2_goalPrices, .inl (cA, 13, .inl f_p2_goalPrices)), (h_p2_goalTones, .inl (cA, 13, .inl f_p2_goalTones)), (h_p2_goerPrices, .inl (cA, 13, .inl f_p2_goerPrices)), (h_p2_goerTones, .inl (cA, 13, .inl f_p2_goerTones)), (h_p2_slack, .inl (cA, 13, .inl f_p2_slack)), (h_t_goals, .inl (cA, 20, .inl f_t_goals)), (h_t_lengths, .inl (cA, 20, .inl f_t_lengths))] sz) := by
  refine Met.ofW (cc := cX0_firstWrong) (maxL := 4) (ret := (some .int)) (by decide) rfl ?_
  intro p e s m args below meth c s₁ B hml hv
  obtain ⟨rfl, hsz, hP, hK, hD0⟩ := hv
  refine W_gen (fun Q hQ => ?_)
  have hx := B.exec
  have hb := B.bytes
  have hr := B.returns
  have hts := atoms_spec (ws := wsX0_firstWrong) B.pre
  have hown : s.vm.findClass RX0 = some m.cls := findClass_of_methodNamed B.named
  have hlocks := B.notSynchronized
  subst hsz
  have hD := hD0.self (sz := s.heap.size)
  clear hD0
  generalize hAe : va_A [(h_p1, .inr (6, [.int f_p1_size, .int f_p1_places, .int f_p1_drawn, .ref h_p1_sets])), (h_p2, .inr (8, [.int f_p2_nearestNumber, .int f_p2_nearestLength, .int f_p2_goals, .int f_p2_goers, .int f_p2_reached, .ref h_p2_goalTones, .ref h_p2_goerTones, .ref h_p2_extra, .ref h_p2_goalPrices, .ref h_p2_goerPrices, .ref h_p2_goalOfGoer, .ref h_p2_cameFrom, .ref h_p2_slack])), (h_t, .inr (0, [.int f_t_entries, .ref h_t_goals, .ref h_t_lengths])), (h_p1_sets, .inl (cA, 8, .inl f_p1_sets)), (h_p2_cameFrom, .inl (cA, 13, .inl f_p2_cameFrom)), (h_p2_extra, .inl (cA, 169, .inl f_p2_extra)), (h_p2_goalOfGoer, .inl (cA, 13, .inl f_p2_goalOfGoer)), (h_p2_goalPrices, .inl (cA, 13, .inl f_p2_goalPrices)), (h_p2_goalTones, .inl (cA, 13, .inl f_p2_goalTones)), (h_p2_goerPrices, .inl (cA, 13, .inl f_p2_goerPrices)), (h_p2_goerTones, .inl (cA, 13, .inl f_p2_goerTones)), (h_p2_slack, .inl (cA, 13, .inl f_p2_slack)), (h_t_goals, .inl (cA, 20, .inl f_t_goals)), (h_t_lengths, .inl (cA, 20, .inl f_t_lengths))] s.heap.size = A at hD hQ
  have hA : ∀ q : Nat, s.heap.size ≤ q → A q := fun q h => by rw [← hAe]; exact Or.inr h
  clear hAe
  have hS : va_S A s.heap s.heap [] := va_S.rf
  have hl := lv_entry ([.ref h_t, .ref h_p1, .ref h_p2]) (n := 4) (Nat.le_of_ble_eq_true rfl)
  rw [lg_entry_eq]
  generalize (lg_sl ([.ref h_t, .ref h_p1, .ref h_p2]) ++ List.replicate (4 - (lg_sl ([.ref h_t, .ref h_p1, .ref h_p2])).length) Slot.unset).toArray = ls at hl ⊢
  have hl : lv_has ls 4 [(0, .ref h_t), (1, .ref h_p1), (2, .ref h_p2)] := hl
  have k1 := hts (.fieldLink RX0 9 "ToneSets$Book" "entries" "I") (List.mem_of_getElem? (i := 1) rfl)
  have k2 := hts (.fieldLink RX0 15 "ToneSets$Book" "goals" "[I") (List.mem_of_getElem? (i := 2) rfl)
  have k3 := hts (.fieldLink RX0 19 "ToneSets$Book" "lengths" "[I") (List.mem_of_getElem? (i := 3) rfl)
  have uX0 := uX0_X0_firstWrong
  unfold m_Book_firstWrong at hm
  refine lv_iconst (v := 0) hx hb dX0_firstWrong_0 (by decide) ?_
  refine lv_topi (fun v3_1 ev3_1 => ?_)
  replace hm := lt_go ev3_1 hm
  refine lv_istore_n (lv' := [(3, .int v3_1), (0, .ref h_t), (1, .ref h_p1), (2, .ref h_p2)]) hx hb dX0_firstWrong_1 rfl hl (by decide) rfl (fun ls hl => ?_)
  have L2 : ∀ (n : Nat) (v3_2 : Int32) (f_p2_cameFrom_1 : Nat → Int32) (f_p2_extra_1 : Nat → Int32) (f_p2_goalOfGoer_1 : Nat → Int32) (f_p2_goalPrices_1 : Nat → Int32) (f_p2_goalTones_1 : Nat → Int32) (f_p2_goals_1 : Int32) (f_p2_goerPrices_1 : Nat → Int32) (f_p2_goerTones_1 : Nat → Int32) (f_p2_goers_1 : Int32) (f_p2_reached_1 : Int32) (f_p2_slack_1 : Nat → Int32), m_Book_firstWrong_L2 fu f_t_entries f_p1_places f_p1_sets f_p1_size f_t_goals f_t_lengths n v3_2 f_p2_cameFrom_1 f_p2_extra_1 f_p2_goalOfGoer_1 f_p2_goalPrices_1 f_p2_goalTones_1 f_p2_goals_1 f_p2_goerPrices_1 f_p2_goerTones_1 f_p2_goers_1 f_p2_reached_1 f_p2_slack_1 = some (r0, f_p2_cameFrom_z, f_p2_extra_z, f_p2_goalOfGoer_z, f_p2_goalPrices_z, f_p2_goalTones_z, f_p2_goals_z, f_p2_goerPrices_z, f_p2_goerTones_z, f_p2_goers_z, f_p2_reached_z, f_p2_slack_z) → ∀ (H : Heap) (locs : List Loc), va_P (dC, dI) vwCl [(h_p1, .inr (6, [.int f_p1_size, .int f_p1_places, .int f_p1_drawn, .ref h_p1_sets])), (h_p2, .inr (8, [.int f_p2_nearestNumber, .int f_p2_nearestLength, .int f_p2_goals_1, .int f_p2_goers_1, .int f_p2_reached_1, .ref h_p2_goalTones, .ref h_p2_goerTones, .ref h_p2_extra, .ref h_p2_goalPrices, .ref h_p2_goerPrices, .ref h_p2_goalOfGoer, .ref h_p2_cameFrom, .ref h_p2_slack])), (h_t, .inr (0, [.int f_t_entries, .ref h_t_goals, .ref h_t_lengths])), (h_p1_sets, .inl (cA, 8, .inl f_p1_sets)), (h_p2_cameFrom, .inl (cA, 13, .inl f_p2_cameFrom_1)), (h_p2_extra, .inl (cA, 169, .inl f_p2_extra_1)), (h_p2_goalOfGoer, .inl (cA, 13, .inl f_p2_goalOfGoer_1)), (h_p2_goalPrices, .inl (cA, 13, .inl f_p2_goalPrices_1)), (h_p2_goalTones, .inl (cA, 13, .inl f_p2_goalTones_1)), (h_p2_goerPrices, .inl (cA, 13, .inl f_p2_goerPrices_1)), (h_p2_goerTones, .inl (cA, 13, .inl f_p2_goerTones_1)), (h_p2_slack, .inl (cA, 13, .inl f_p2_slack_1)), (h_t_goals, .inl (cA, 20, .inl f_t_goals)), (h_t_lengths, .inl (cA, 20, .inl f_t_lengths))] H → va_D A [(h_p1, .inr (6, [.int f_p1_size, .int f_p1_places, .int f_p1_drawn, .ref h_p1_sets])), (h_p2, .inr (8, [.int f_p2_nearestNumber, .int f_p2_nearestLength, .int f_p2_goals_1, .int f_p2_goers_1, .int f_p2_reached_1, .ref h_p2_goalTones, .ref h_p2_goerTones, .ref h_p2_extra, .ref h_p2_goalPrices, .ref h_p2_goerPrices, .ref h_p2_goalOfGoer, .ref h_p2_cameFrom, .ref h_p2_slack])), (h_t, .inr (0, [.int f_t_entries, .ref h_t_goals, .ref h_t_lengths])), (h_p1_sets, .inl (cA, 8, .inl f_p1_sets)), (h_p2_cameFrom, .inl (cA, 13, .inl f_p2_cameFrom_1)), (h_p2_extra, .inl (cA, 169, .inl f_p2_extra_1)), (h_p2_goalOfGoer, .inl (cA, 13, .inl f_p2_goalOfGoer_1)), (h_p2_goalPrices, .inl (cA, 13, .inl f_p2_goalPrices_1)), (h_p2_goalTones, .inl (cA, 13, .inl f_p2_goalTones_1)), (h_p2_goerPrices, .inl (cA, 13, .inl f_p2_goerPrices_1)), (h_p2_goerTones, .inl (cA, 13, .inl f_p2_goerTones_1)), (h_p2_slack, .inl (cA, 13, .inl f_p2_slack_1)), (h_t_goals, .inl (cA, 20, .inl f_t_goals)), (h_t_lengths, .inl (cA, 20, .inl f_t_lengths))] → va_S A s.heap H locs → ∀ ls : Array Slot, lv_has ls 4 [(0, .ref h_t), (1, .ref h_p1), (2, .ref h_p2), (3, .int v3_2)] → W p l e (headSpec wsX0_firstWrong rmX0_firstWrong).room s m (([.ref h_t, .ref h_p1, .ref h_p2] : List Value).toArray) below meth c H locs 0 0 Q (F0 m 2 ls []) := by
    clear hm hP hD hS hl
    intro n
    induction n with
    | zero => intro _ _ _ _ _ _ _ _ _ _ _ _ hm; exact nomatch (show none = some _ from hm)
    | succ n ih =>
      intro v3_2 f_p2_cameFrom_1 f_p2_extra_1 f_p2_goalOfGoer_1 f_p2_goalPrices_1 f_p2_goalTones_1 f_p2_goals_1 f_p2_goerPrices_1 f_p2_goerTones_1 f_p2_goers_1 f_p2_reached_1 f_p2_slack_1 hm H locs hP hD hS ls hl
      unfold m_Book_firstWrong_L2 at hm
      refine lv_iload_n hx hb dX0_firstWrong_2 rfl (lv_at hl 3 rfl) ?_
      refine lv_aload_n hx hb dX0_firstWrong_3 rfl (lv_at hl 0 rfl) ?_
      refine va_get (D := (dC, dI)) (ci := 0) (v := .int f_t_entries) (C := RX0) (T := TX0) (N := 3) hx hb hts uX0 hown hK hP 2 rfl rfl 0 (by decide) k1 (fun _ h9 => h9) rfl dX0_firstWrong_4 ?_
      refine lv_icmp_ge (tgt := 39) hx hb dX0_firstWrong_7 (by decide) (fun c7 => ?_) (fun c7 => ?_)
      · replace hm := if_t c7 hm
        refine lv_iconst (v := (-1)) hx hb dX0_firstWrong_39 (by decide) ?_
        cases hm
        exact W_mono hQ (W.iret hx hb hr (fun t ht hW => ⟨⟨_, (), rfl, rfl, by rw [ht]; exact hP, va_K.moved hW.alike hK, hD⟩, hS.F ht⟩) hS.2.2 dX0_firstWrong_40)
      · replace hm := if_f c7 hm
        refine lv_aload_n hx hb dX0_firstWrong_10 rfl (lv_at hl 0 rfl) ?_
        refine lv_aload_n hx hb dX0_firstWrong_11 rfl (lv_at hl 0 rfl) ?_
        refine va_get (D := (dC, dI)) (ci := 0) (v := .ref h_t_goals) (C := RX0) (T := TX0) (N := 3) hx hb hts uX0 hown hK hP 2 rfl rfl 1 (by decide) k2 (fun _ h9 => h9) rfl dX0_firstWrong_12 ?_
        refine lv_iload_n hx hb dX0_firstWrong_15 rfl (lv_at hl 3 rfl) ?_
        obtain ⟨b16, hm⟩ := ck_go hm
        refine va_iald hx hb hK hP 12 0 rfl rfl b16 dX0_firstWrong_16 ?_
        refine lv_aload_n hx hb dX0_firstWrong_17 rfl (lv_at hl 0 rfl) ?_
        refine va_get (D := (dC, dI)) (ci := 0) (v := .ref h_t_lengths) (C := RX0) (T := TX0) (N := 3) hx hb hts uX0 hown hK hP 2 rfl rfl 2 (by decide) k3 (fun _ h9 => h9) rfl dX0_firstWrong_18 ?_
        refine lv_iload_n hx hb dX0_firstWrong_21 rfl (lv_at hl 3 rfl) ?_
        obtain ⟨b22, hm⟩ := ck_go hm
        refine va_iald hx hb hK hP 13 0 rfl rfl b22 dX0_firstWrong_22 ?_
        refine lv_aload_n hx hb dX0_firstWrong_23 rfl (lv_at hl 1 rfl) ?_
        refine lv_aload_n hx hb dX0_firstWrong_24 rfl (lv_at hl 2 rfl) ?_
        obtain ⟨r_1, f_p2_cameFrom_2, f_p2_extra_2, f_p2_goalOfGoer_2, f_p2_goalPrices_2, f_p2_goalTones_2, f_p2_goals_2, f_p2_goerPrices_2, f_p2_goerTones_2, f_p2_goers_2, f_p2_reached_2, f_p2_slack_2, hc25, hm⟩ := bd12_go hm
        refine my_cVi (As := [.int (f_t_goals v3_2.toNatClampNeg), .int (f_t_lengths v3_2.toNatClampNeg), .ref h_p1, .ref h_p2]) (rest := []) (WC := [(h_p1, .inr (6, [.int f_p1_size, .int f_p1_places, .int f_p1_drawn, .ref h_p1_sets])), (h_p2, .inr (8, [.int f_p2_nearestNumber, .int f_p2_nearestLength, .int f_p2_goals_1, .int f_p2_goers_1, .int f_p2_reached_1, .ref h_p2_goalTones, .ref h_p2_goerTones, .ref h_p2_extra, .ref h_p2_goalPrices, .ref h_p2_goerPrices, .ref h_p2_goalOfGoer, .ref h_p2_cameFrom, .ref h_p2_slack])), (h_t, .inr (0, [.int f_t_entries, .ref h_t_goals, .ref h_t_lengths])), (h_p1_sets, .inl (cA, 8, .inl f_p1_sets)), (h_p2_cameFrom, .inl (cA, 13, .inl f_p2_cameFrom_1)), (h_p2_extra, .inl (cA, 169, .inl f_p2_extra_1)), (h_p2_goalOfGoer, .inl (cA, 13, .inl f_p2_goalOfGoer_1)), (h_p2_goalPrices, .inl (cA, 13, .inl f_p2_goalPrices_1)), (h_p2_goalTones, .inl (cA, 13, .inl f_p2_goalTones_1)), (h_p2_goerPrices, .inl (cA, 13, .inl f_p2_goerPrices_1)), (h_p2_goerTones, .inl (cA, 13, .inl f_p2_goerTones_1)), (h_p2_slack, .inl (cA, 13, .inl f_p2_slack_1))]) (WC' := [(h_p1, .inr (6, [.int f_p1_size, .int f_p1_places, .int f_p1_drawn, .ref h_p1_sets])), (h_p2, .inr (8, [.int f_p2_nearestNumber, .int f_p2_nearestLength, .int f_p2_goals_2, .int f_p2_goers_2, .int f_p2_reached_2, .ref h_p2_goalTones, .ref h_p2_goerTones, .ref h_p2_extra, .ref h_p2_goalPrices, .ref h_p2_goerPrices, .ref h_p2_goalOfGoer, .ref h_p2_cameFrom, .ref h_p2_slack])), (h_t, .inr (0, [.int f_t_entries, .ref h_t_goals, .ref h_t_lengths])), (h_p1_sets, .inl (cA, 8, .inl f_p1_sets)), (h_p2_cameFrom, .inl (cA, 13, .inl f_p2_cameFrom_2)), (h_p2_extra, .inl (cA, 169, .inl f_p2_extra_2)), (h_p2_goalOfGoer, .inl (cA, 13, .inl f_p2_goalOfGoer_2)), (h_p2_goalPrices, .inl (cA, 13, .inl f_p2_goalPrices_2)), (h_p2_goalTones, .inl (cA, 13, .inl f_p2_goalTones_2)), (h_p2_goerPrices, .inl (cA, 13, .inl f_p2_goerPrices_2)), (h_p2_goerTones, .inl (cA, 13, .inl f_p2_goerTones_2)), (h_p2_slack, .inl (cA, 13, .inl f_p2_slack_2))]) (WR := [(h_t_goals, .inl (cA, 20, .inl f_t_goals)), (h_t_lengths, .inl (cA, 20, .inl f_t_lengths))]) (W' := [(h_p1, .inr (6, [.int f_p1_size, .int f_p1_places, .int f_p1_drawn, .ref h_p1_sets])), (h_p2, .inr (8, [.int f_p2_nearestNumber, .int f_p2_nearestLength, .int f_p2_goals_2, .int f_p2_goers_2, .int f_p2_reached_2, .ref h_p2_goalTones, .ref h_p2_goerTones, .ref h_p2_extra, .ref h_p2_goalPrices, .ref h_p2_goerPrices, .ref h_p2_goalOfGoer, .ref h_p2_cameFrom, .ref h_p2_slack])), (h_t, .inr (0, [.int f_t_entries, .ref h_t_goals, .ref h_t_lengths])), (h_p1_sets, .inl (cA, 8, .inl f_p1_sets)), (h_p2_cameFrom, .inl (cA, 13, .inl f_p2_cameFrom_2)), (h_p2_extra, .inl (cA, 169, .inl f_p2_extra_2)), (h_p2_goalOfGoer, .inl (cA, 13, .inl f_p2_goalOfGoer_2)), (h_p2_goalPrices, .inl (cA, 13, .inl f_p2_goalPrices_2)), (h_p2_goalTones, .inl (cA, 13, .inl f_p2_goalTones_2)), (h_p2_goerPrices, .inl (cA, 13, .inl f_p2_goerPrices_2)), (h_p2_goerTones, .inl (cA, 13, .inl f_p2_goerTones_2)), (h_p2_slack, .inl (cA, 13, .inl f_p2_slack_2)), (h_t_goals, .inl (cA, 20, .inl f_t_goals)), (h_t_lengths, .inl (cA, 20, .inl f_t_lengths))]) ⟨hx, hb, hml, hown, hts⟩ hK hP hD hS hA (c_Book_isSo l dC dI cA fu h_p1 h_p2 h_t h_p1_sets h_p2_goalTones h_p2_goerTones h_p2_extra h_p2_goalPrices h_p2_goerPrices h_p2_goalOfGoer h_p2_cameFrom h_p2_slack h_t_goals h_t_lengths f_p1_size f_p1_places f_p1_drawn f_p2_nearestNumber f_p2_nearestLength f_p2_goals_1 f_p2_goers_1 f_p2_reached_1 f_t_entries f_p1_sets f_p2_cameFrom_1 f_p2_extra_1 f_p2_goalOfGoer_1 f_p2_goalPrices_1 f_p2_goalTones_1 f_p2_goerPrices_1 f_p2_goerTones_1 f_p2_slack_1 (f_t_goals v3_2.toNatClampNeg) (f_t_lengths v3_2.toNatClampNeg) r_1 f_p2_cameFrom_2 f_p2_extra_2 f_p2_goalOfGoer_2 f_p2_goalPrices_2 f_p2_goalTones_2 f_p2_goals_2 f_p2_goerPrices_2 f_p2_goerTones_2 f_p2_goers_2 f_p2_reached_2 f_p2_slack_2 hc25) (cwV 4 hts gX0_firstWrong_X0_isSo rfl rfl rfl (by decide +kernel) ⟨Nat.le_of_ble_eq_true rfl, Nat.le_of_ble_eq_true rfl⟩) [0, 1, 2, 3, 4, 5, 6, 7, 8, 9, 10, 11] [12, 13] [2, 3, 4, 5, 6, 7, 8, 9, 10, 11, 12, 13, 0, 1] rfl rfl rfl rfl (ci := 0) (q0 := 2) rfl rfl rfl rfl hl.1 (Nat.le_of_ble_eq_true rfl) dX0_firstWrong_25 ⟨Nat.zero_le _, Nat.zero_le _⟩ (fun H locs hP hD hS => ?_)
        refine lv_if_ne (tgt := 33) hx hb dX0_firstWrong_28 (by decide) (fun c28 => ?_) (fun c28 => ?_)
        · replace hm := if_f c28 hm
          obtain ⟨v3_3, ev3_3⟩ : ∃ z : Int32, z = v3_2 + 1 := ⟨_, rfl⟩
          replace hm := lt_go ev3_3 hm
          refine lv_iinc (v := v3_3) (lv' := [(3, .int v3_3), (0, .ref h_t), (1, .ref h_p1), (2, .ref h_p2)]) hx hb dX0_firstWrong_33 hl (k := 3) rfl (by rw [ev3_3]; rfl) (by decide) rfl (fun ls hl => ?_)
          refine lv_goto (tgt := 2) hx hb dX0_firstWrong_36 (by decide) ?_
          exact ih _ _ _ _ _ _ _ _ _ _ _ _ hm _ _ hP hD hS _ (lv_sub hl [1, 2, 3, 0] rfl)
        · replace hm := if_t c28 hm
          refine lv_iload_n hx hb dX0_firstWrong_31 rfl (lv_at hl 3 rfl) ?_
          cases hm
          exact W_mono hQ (W.iret hx hb hr (fun t ht hW => ⟨⟨_, (), rfl, rfl, by rw [ht]; exact hP, va_K.moved hW.alike hK, hD⟩, hS.F ht⟩) hS.2.2 dX0_firstWrong_32)
  exact L2 _ _ _ _ _ _ _ _ _ _ _ _ _ hm _ _ hP hD hS _ (lv_sub hl [1, 2, 3, 0] rfl)
abbrev rmX3_mirrored : Room := { frames := 0, cells := 0, slots := 0, locals := 0 }
set_option maxHeartbeats 40000000 in
set_option maxRecDepth 100000 in
theorem c_Ring_mirrored (l : Launch) (dC : Nat → ClassId) (dI : Nat → Nat → Nat) (cA : ClassId) (fu : Nat) (a0 : Int32) (a1 : Int32) (r0 : Int32) (hm : m_Ring_mirrored fu a0 a1 = some r0) (sz : Nat) : Met l yX3_mirrored wsX3_mirrored rmX3_mirrored (mPre (dC, dI) cA [.int a0, .int a1] sz []) (mPosI (dC, dI) cA r0 (va_A [] sz) []) 0 0 (va_A [] sz) := by
  refine Met.ofW (cc := cX3_mirrored) (maxL := 4) (ret := (some .int)) (by decide) rfl ?_
  intro p e s m args below meth c s₁ B hml hv
  obtain ⟨rfl, hsz, hP, hK, hD0⟩ := hv
  refine W_gen (fun Q hQ => ?_)
  have hx := B.exec
  have hb := B.bytes
  have hr := B.returns
  have hts := atoms_spec (ws := wsX3_mirrored) B.pre
  have hown : s.vm.findClass RX3 = some m.cls := findClass_of_methodNamed B.named
  have hlocks := B.notSynchronized
  subst hsz
  have hD := hD0.self (sz := s.heap.size)
  clear hD0
  generalize hAe : va_A [] s.heap.size = A at hD hQ
  have hA : ∀ q : Nat, s.heap.size ≤ q → A q := fun q h => by rw [← hAe]; exact Or.inr h
  clear hAe
  have hS : va_S A s.heap s.heap [] := va_S.rf
  have hl := lv_entry ([.int a0, .int a1]) (n := 4) (Nat.le_of_ble_eq_true rfl)
  rw [lg_entry_eq]
  generalize (lg_sl ([.int a0, .int a1]) ++ List.replicate (4 - (lg_sl ([.int a0, .int a1])).length) Slot.unset).toArray = ls at hl ⊢
  have hl : lv_has ls 4 [(0, .int a0), (1, .int a1)] := hl
  unfold m_Ring_mirrored at hm
  refine lv_iload_n hx hb dX3_mirrored_0 rfl (lv_at hl 0 rfl) ?_
  refine lv_iconst (v := 1) hx hb dX3_mirrored_1 (by decide) ?_
  refine lv_iand hx hb dX3_mirrored_2 ?_
  refine lv_topi (fun v2_1 ev2_1 => ?_)
  replace hm := lt_go ev2_1 hm
  refine lv_istore_n (lv' := [(2, .int v2_1), (0, .int a0), (1, .int a1)]) hx hb dX3_mirrored_3 rfl hl (by decide) rfl (fun ls hl => ?_)
  refine lv_iconst (v := 1) hx hb dX3_mirrored_4 (by decide) ?_
  refine lv_topi (fun v3_1 ev3_1 => ?_)
  replace hm := lt_go ev3_1 hm
  refine lv_istore_n (lv' := [(3, .int v3_1), (2, .int v2_1), (0, .int a0), (1, .int a1)]) hx hb dX3_mirrored_5 rfl hl (by decide) rfl (fun ls hl => ?_)
  have L6 : ∀ (n : Nat) (v2_2 : Int32) (v3_2 : Int32) (v2_3 : Int32), m_Ring_mirrored_L6 a1 a0 n v2_2 v3_2 = some v2_3 → ∀ (H : Heap) (locs : List Loc), va_P (dC, dI) vwCl [] H → va_D A [] → va_S A s.heap H locs → ∀ ls : Array Slot, lv_has ls 4 [(0, .int a0), (1, .int a1), (2, .int v2_2), (3, .int v3_2)] → (∀ (H : Heap) (locs : List Loc), va_P (dC, dI) vwCl [] H → va_D A [] → va_S A s.heap H locs → ∀ ls : Array Slot, lv_has ls 4 [(2, .int v2_3)] → W p l e (headSpec wsX3_mirrored rmX3_mirrored).room s m (([.int a0, .int a1] : List Value).toArray) below meth c H locs 0 0 Q (F0 m 29 ls [])) → W p l e (headSpec wsX3_mirrored rmX3_mirrored).room s m (([.int a0, .int a1] : List Value).toArray) below meth c H locs 0 0 Q (F0 m 6 ls []) := by
    clear hm hP hD hS hl
    intro n
    induction n with
    | zero => intro _ _ _ hm; exact nomatch (show none = some _ from hm)
    | succ n ih =>
      intro v2_2 v3_2 v2_3 hm H locs hP hD hS ls hl KK
      unfold m_Ring_mirrored_L6 at hm
      refine lv_iload_n hx hb dX3_mirrored_6 rfl (lv_at hl 3 rfl) ?_
      refine lv_iload_n hx hb dX3_mirrored_7 rfl (lv_at hl 1 rfl) ?_
      refine lv_icmp_ge (tgt := 29) hx hb dX3_mirrored_8 (by decide) (fun c8 => ?_) (fun c8 => ?_)
      · replace hm := if_t c8 hm
        cases hm
        exact KK _ _ hP hD hS _ (lv_sub hl [2] rfl)
      · replace hm := if_f c8 hm
        refine lv_iload_n hx hb dX3_mirrored_11 rfl (lv_at hl 2 rfl) ?_
        refine lv_iload_n hx hb dX3_mirrored_12 rfl (lv_at hl 0 rfl) ?_
        refine lv_iload_n hx hb dX3_mirrored_13 rfl (lv_at hl 3 rfl) ?_
        refine lv_ishr hx hb dX3_mirrored_14 ?_
        refine lv_iconst (v := 1) hx hb dX3_mirrored_15 (by decide) ?_
        refine lv_iand hx hb dX3_mirrored_16 ?_
        refine lv_iload_n hx hb dX3_mirrored_17 rfl (lv_at hl 1 rfl) ?_
        refine lv_iload_n hx hb dX3_mirrored_18 rfl (lv_at hl 3 rfl) ?_
        refine lv_isub hx hb dX3_mirrored_19 ?_
        refine lv_ishl hx hb dX3_mirrored_20 ?_
        refine lv_ior hx hb dX3_mirrored_21 ?_
        refine lv_topi (fun v2_4 ev2_4 => ?_)
        replace hm := lt_go ev2_4 hm
        refine lv_istore_n (lv' := [(2, .int v2_4), (0, .int a0), (1, .int a1), (3, .int v3_2)]) hx hb dX3_mirrored_22 rfl hl (by decide) rfl (fun ls hl => ?_)
        obtain ⟨v3_3, ev3_3⟩ : ∃ z : Int32, z = v3_2 + 1 := ⟨_, rfl⟩
        replace hm := lt_go ev3_3 hm
        refine lv_iinc (v := v3_3) (lv' := [(3, .int v3_3), (2, .int v2_4), (0, .int a0), (1, .int a1)]) hx hb dX3_mirrored_23 hl (k := 3) rfl (by rw [ev3_3]; rfl) (by decide) rfl (fun ls hl => ?_)
        refine lv_goto (tgt := 6) hx hb dX3_mirrored_26 (by decide) ?_
        exact ih _ _ _ hm _ _ hP hD hS _ (lv_sub hl [2, 3, 1, 0] rfl) KK
  obtain ⟨v2_5, hl6, hm⟩ := bd1_go hm
  refine L6 _ _ _ _ hl6 _ _ hP hD hS _ (lv_sub hl [2, 3, 1, 0] rfl) (fun H locs hP hD hS ls hl => ?_)
  refine lv_iload_n hx hb dX3_mirrored_29 rfl (lv_at hl 0 rfl) ?_
  cases hm
  exact W_mono hQ (W.iret hx hb hr (fun t ht hW => ⟨⟨_, (), rfl, rfl, by rw [ht]; exact hP, va_K.moved hW.alike hK, hD⟩, hS.F ht⟩) hS.2.2 dX3_mirrored_30)
abbrev rmX3_allTones : Room := { frames := 0, cells := 0, slots := 0, locals := 0 }
set_option maxHeartbeats 40000000 in
set_option maxRecDepth 100000 in
theorem c_Ring_allTones (l : Launch) (dC : Nat → ClassId) (dI : Nat → Nat → Nat) (cA : ClassId) (a0 : Int32) (r0 : Int32) (hm : m_Ring_allTones a0 = some r0) (sz : Nat) : Met l yX3_allTones wsX3_allTones rmX3_allTones (mPre (dC, dI) cA [.int a0] sz []) (mPosI (dC, dI) cA r0 (va_A [] sz) []) 0 0 (va_A [] sz) := by
  refine Met.ofW (cc := cX3_allTones) (maxL := 1) (ret := (some .int)) (by decide) rfl ?_
  intro p e s m args below meth c s₁ B hml hv
  obtain ⟨rfl, hsz, hP, hK, hD0⟩ := hv
  refine W_gen (fun Q hQ => ?_)
  have hx := B.exec
  have hb := B.bytes
  have hr := B.returns
  have hts := atoms_spec (ws := wsX3_allTones) B.pre
  have hown : s.vm.findClass RX3 = some m.cls := findClass_of_methodNamed B.named
  have hlocks := B.notSynchronized
  subst hsz
  have hD := hD0.self (sz := s.heap.size)
  clear hD0
  generalize hAe : va_A [] s.heap.size = A at hD hQ
  have hA : ∀ q : Nat, s.heap.size ≤ q → A q := fun q h => by rw [← hAe]; exact Or.inr h
  clear hAe
  have hS : va_S A s.heap s.heap [] := va_S.rf
  have hl := lv_entry ([.int a0]) (n := 1) (Nat.le_of_ble_eq_true rfl)
  rw [lg_entry_eq]
  generalize (lg_sl ([.int a0]) ++ List.replicate (1 - (lg_sl ([.int a0])).length) Slot.unset).toArray = ls at hl ⊢
  have hl : lv_has ls 1 [(0, .int a0)] := hl
  unfold m_Ring_allTones at hm
  refine lv_iconst (v := 1) hx hb dX3_allTones_0 (by decide) ?_
  refine lv_iload_n hx hb dX3_allTones_1 rfl (lv_at hl 0 rfl) ?_
  refine lv_ishl hx hb dX3_allTones_2 ?_
  refine lv_iconst (v := 1) hx hb dX3_allTones_3 (by decide) ?_
  refine lv_isub hx hb dX3_allTones_4 ?_
  cases hm
  exact W_mono hQ (W.iret hx hb hr (fun t ht hW => ⟨⟨_, (), rfl, rfl, by rw [ht]; exact hP, va_K.moved hW.alike hK, hD⟩, hS.F ht⟩) hS.2.2 dX3_allTones_5)
abbrev rmX3_turned : Room := { frames := 1, cells := 0, slots := 0, locals := 20 }
set_option maxHeartbeats 40000000 in
set_option maxRecDepth 100000 in
theorem c_Ring_turned (l : Launch) (dC : Nat → ClassId) (dI : Nat → Nat → Nat) (cA : ClassId) (a0 : Int32) (a1 : Int32) (a2 : Int32) (r0 : Int32) (hm : m_Ring_turned a0 a1 a2 = some r0) (sz : Nat) : Met l yX3_turned wsX3_turned rmX3_turned (mPre (dC, dI) cA [.int a0, .int a1, .int a2] sz []) (mPosI (dC, dI) cA r0 (va_A [] sz) []) 0 0 (va_A [] sz) := by
  refine Met.ofW (cc := cX3_turned) (maxL := 3) (ret := (some .int)) (by decide) rfl ?_
  intro p e s m args below meth c s₁ B hml hv
  obtain ⟨rfl, hsz, hP, hK, hD0⟩ := hv
  refine W_gen (fun Q hQ => ?_)
  have hx := B.exec
  have hb := B.bytes
  have hr := B.returns
  have hts := atoms_spec (ws := wsX3_turned) B.pre
  have hown : s.vm.findClass RX3 = some m.cls := findClass_of_methodNamed B.named
  have hlocks := B.notSynchronized
  subst hsz
  have hD := hD0.self (sz := s.heap.size)
  clear hD0
  generalize hAe : va_A [] s.heap.size = A at hD hQ
  have hA : ∀ q : Nat, s.heap.size ≤ q → A q := fun q h => by rw [← hAe]; exact Or.inr h
  clear hAe
  have hS : va_S A s.heap s.heap [] := va_S.rf
  have hl := lv_entry ([.int a0, .int a1, .int a2]) (n := 3) (Nat.le_of_ble_eq_true rfl)
  rw [lg_entry_eq]
  generalize (lg_sl ([.int a0, .int a1, .int a2]) ++ List.replicate (3 - (lg_sl ([.int a0, .int a1, .int a2])).length) Slot.unset).toArray = ls at hl ⊢
  have hl : lv_has ls 3 [(0, .int a0), (1, .int a1), (2, .int a2)] := hl
  unfold m_Ring_turned at hm
  refine lv_iload_n hx hb dX3_turned_0 rfl (lv_at hl 0 rfl) ?_
  refine lv_iload_n hx hb dX3_turned_1 rfl (lv_at hl 1 rfl) ?_
  refine lv_ishl hx hb dX3_turned_2 ?_
  refine lv_iload_n hx hb dX3_turned_3 rfl (lv_at hl 0 rfl) ?_
  refine lv_iload_n hx hb dX3_turned_4 rfl (lv_at hl 2 rfl) ?_
  refine lv_iload_n hx hb dX3_turned_5 rfl (lv_at hl 1 rfl) ?_
  refine lv_isub hx hb dX3_turned_6 ?_
  refine lv_ishr hx hb dX3_turned_7 ?_
  refine lv_ior hx hb dX3_turned_8 ?_
  refine lv_iload_n hx hb dX3_turned_9 rfl (lv_at hl 2 rfl) ?_
  obtain ⟨r_1, hc10, hm⟩ := bd1_go hm
  refine my_cSi (As := [.int a2]) (rest := [.int ((a0 <<< (a1 &&& 31)) ||| (a0 >>> ((a2 - a1) &&& 31)))]) (WC := []) (WC' := []) (WR := []) (W' := []) ⟨hx, hb, hml, hown, hts⟩ hK hP hD hS hA (c_Ring_allTones l dC dI cA a2 r_1 hc10) (va_cwS 1 hts gX3_turned_X3_allTones rfl rfl rfl (by decide +kernel) ⟨Nat.le_of_ble_eq_true rfl, Nat.le_of_ble_eq_true rfl⟩) [] [] [] rfl rfl rfl rfl rfl rfl hl.1 (Nat.le_of_ble_eq_true rfl) dX3_turned_10 ⟨Nat.zero_le _, Nat.zero_le _⟩ (fun H locs hP hD hS => ?_)
  refine lv_iand hx hb dX3_turned_13 ?_
  cases hm
  exact W_mono hQ (W.iret hx hb hr (fun t ht hW => ⟨⟨_, (), rfl, rfl, by rw [ht]; exact hP, va_K.moved hW.alike hK, hD⟩, hS.F ht⟩) hS.2.2 dX3_turned_14)
abbrev rmX6_add : Room := { frames := 0, cells := 0, slots := 0, locals := 0 }
theorem uX6_X6_add : ∀ w ∈ wsX60, w ∈ wsX6_add := fun _ h => List.mem_cons_of_mem _ (List.mem_append_right _ (h))
set_option maxHeartbeats 40000000 in
set_option maxRecDepth 100000 in
theorem c_Seen_add (l : Launch) (dC : Nat → ClassId) (dI : Nat → Nat → Nat) (cA : ClassId) (h_t h_t_bits : Nat) (f_t_bits : Nat → Int32) (a1 : Int32) (f_t_bits_z : Nat → Int32) (hm : m_Seen_add f_t_bits a1 = some f_t_bits_z) (sz : Nat) : Met l yX6_add wsX6_add rmX6_add (mPre (dC, dI) cA [.ref h_t, .int a1] sz [(h_t, .inr (5, [.ref h_t_bits])), (h_t_bits, .inl (cA, 128, .inl f_t_bits))]) (mPosV (dC, dI) cA (va_A [(h_t, .inr (5, [.ref h_t_bits])), (h_t_bits, .inl (cA, 128, .inl f_t_bits))] sz) [(h_t, .inr (5, [.ref h_t_bits])), (h_t_bits, .inl (cA, 128, .inl f_t_bits_z))]) 0 0 (va_A [(h_t, .inr (5, [.ref h_t_bits])), (h_t_bits, .inl (cA, 128, .inl f_t_bits))] sz) := by
  refine Met.ofW (cc := cX6_add) (maxL := 3) (ret := none) (by decide) rfl ?_
  intro p e s m args below meth c s₁ B hml hv
  obtain ⟨rfl, hsz, hP, hK, hD0⟩ := hv
  refine W_gen (fun Q hQ => ?_)
  have hx := B.exec
  have hb := B.bytes
  have hr := B.returns
  have hts := atoms_spec (ws := wsX6_add) B.pre
  have hown : s.vm.findClass RX6 = some m.cls := findClass_of_methodNamed B.named
  have hlocks := B.notSynchronized
  subst hsz
  have hD := hD0.self (sz := s.heap.size)
  clear hD0
  generalize hAe : va_A [(h_t, .inr (5, [.ref h_t_bits])), (h_t_bits, .inl (cA, 128, .inl f_t_bits))] s.heap.size = A at hD hQ
  have hA : ∀ q : Nat, s.heap.size ≤ q → A q := fun q h => by rw [← hAe]; exact Or.inr h
  clear hAe
  have hS : va_S A s.heap s.heap [] := va_S.rf
  have hl := lv_entry ([.ref h_t, .int a1]) (n := 3) (Nat.le_of_ble_eq_true rfl)
  rw [lg_entry_eq]
  generalize (lg_sl ([.ref h_t, .int a1]) ++ List.replicate (3 - (lg_sl ([.ref h_t, .int a1])).length) Slot.unset).toArray = ls at hl ⊢
  have hl : lv_has ls 3 [(0, .ref h_t), (1, .int a1)] := hl
  have k1 := hts (.fieldLink RX6 9 "ToneSets$Seen" "bits" "[I") (List.mem_of_getElem? (i := 1) rfl)
  have uX6 := uX6_X6_add
  unfold m_Seen_add at hm
  refine lv_iload_n hx hb dX6_add_0 rfl (lv_at hl 1 rfl) ?_
  refine lv_iconst (v := 5) hx hb dX6_add_1 (by decide) ?_
  refine lv_ishr hx hb dX6_add_2 ?_
  refine lv_topi (fun v2_1 ev2_1 => ?_)
  replace hm := lt_go ev2_1 hm
  refine lv_istore_n (lv' := [(2, .int v2_1), (0, .ref h_t), (1, .int a1)]) hx hb dX6_add_3 rfl hl (by decide) rfl (fun ls hl => ?_)
  refine lv_iload_n hx hb dX6_add_4 rfl (lv_at hl 0 rfl) ?_
  refine lv_if_lt (tgt := 32) hx hb dX6_add_5 (by decide) (fun c5 => ?_) (fun c5 => ?_)
  · replace hm := if_t c5 hm
    cases hm
    exact W_mono hQ (W.vret hx hb hr (fun t ht hW => ⟨⟨(), rfl, trivial, by rw [ht]; exact hP, va_K.moved hW.alike hK, hD⟩, hS.F ht⟩) hS.2.2 dX6_add_32)
  · replace hm := if_f c5 hm
    refine lv_iload_n hx hb dX6_add_8 rfl (lv_at hl 0 rfl) ?_
    refine lv_aload_n hx hb dX6_add_9 rfl (lv_at hl 1 rfl) ?_
    refine va_get (D := (dC, dI)) (ci := 5) (v := .ref h_t_bits) (C := RX6) (T := TX6) (N := 1) hx hb hts uX6 hown hK hP 0 rfl rfl 0 (by decide) k1 (fun _ h9 => h9) rfl dX6_add_10 ?_
    refine va_alen (v := nI 128) hx hb hK hP 1 0 rfl rfl rfl dX6_add_13 ?_
    refine lv_icmp_ge (tgt := 32) hx hb dX6_add_14 (by decide) (fun c14 => ?_) (fun c14 => ?_)
    · replace hm := if_t c14 hm
      cases hm
      exact W_mono hQ (W.vret hx hb hr (fun t ht hW => ⟨⟨(), rfl, trivial, by rw [ht]; exact hP, va_K.moved hW.alike hK, hD⟩, hS.F ht⟩) hS.2.2 dX6_add_32)
    · replace hm := if_f c14 hm
      refine lv_aload_n hx hb dX6_add_17 rfl (lv_at hl 1 rfl) ?_
      refine va_get (D := (dC, dI)) (ci := 5) (v := .ref h_t_bits) (C := RX6) (T := TX6) (N := 1) hx hb hts uX6 hown hK hP 0 rfl rfl 0 (by decide) k1 (fun _ h9 => h9) rfl dX6_add_18 ?_
      refine lv_iload_n hx hb dX6_add_21 rfl (lv_at hl 0 rfl) ?_
      refine lv_dup2_11 hx hb dX6_add_22 rfl rfl ?_
      obtain ⟨b23, hm⟩ := ck_go hm
      refine va_iald hx hb hK hP 1 0 rfl rfl b23 dX6_add_23 ?_
      refine lv_iconst (v := 1) hx hb dX6_add_24 (by decide) ?_
      refine lv_iload_n hx hb dX6_add_25 rfl (lv_at hl 2 rfl) ?_
      refine lv_bipush (v := 31) hx hb dX6_add_26 (by decide) ?_
      refine lv_iand hx hb dX6_add_28 ?_
      refine lv_ishl hx hb dX6_add_29 ?_
      refine lv_ior hx hb dX6_add_30 ?_
      obtain ⟨b31, hm⟩ := ck_go hm
      refine my_iast (W' := fun z' => [(h_t, .inr (5, [.ref h_t_bits])), (h_t_bits, .inl (cA, 128, .inl z'))]) hx hb hK hP hD hS 1 0 rfl rfl b31 dX6_add_31 (fun _ => rfl) (fun f_t_bits_1 ef_t_bits_1 H locs hP hD hS => ?_)
      replace hm := lt_go ef_t_bits_1 hm
      cases hm
      exact W_mono hQ (W.vret hx hb hr (fun t ht hW => ⟨⟨(), rfl, trivial, by rw [ht]; exact hP, va_K.moved hW.alike hK, hD⟩, hS.F ht⟩) hS.2.2 dX6_add_32)
abbrev rmX1_addImages : Room := { frames := 2, cells := 0, slots := 0, locals := 42 }
theorem uX1_X1_addImages : ∀ w ∈ wsX10, w ∈ wsX1_addImages := fun _ h => List.mem_cons_of_mem _ (List.mem_append_left _ (List.mem_append_right _ (h)))
set_option maxHeartbeats 40000000 in
set_option maxRecDepth 100000 in
theorem c_Forms_addImages (l : Launch) (dC : Nat → ClassId) (dI : Nat → Nat → Nat) (cA : ClassId) (fu : Nat) (h_t h_t_seen h_t_rising h_t_sorted h_t_rows h_t_starts h_t_seen_bits : Nat) (f_t_builtSize : Int32) (f_t_all : Int32) (f_t_seen_bits : Nat → Int32) (a1 : Int32) (a2 : Int32) (f_t_seen_bits_z : Nat → Int32) (hm : m_Forms_addImages fu f_t_seen_bits a1 a2 = some f_t_seen_bits_z) (sz : Nat) : Met l yX1_addImages wsX1_addImages rmX1_addImages (mPre (dC, dI) cA [.ref h_t, .int a1, .int a2] sz [(h_t, .inr (1, [.int f_t_builtSize, .int f_t_all, .ref h_t_rising, .ref h_t_sorted, .ref h_t_rows, .ref h_t_starts, .ref h_t_seen])), (h_t_seen, .inr (5, [.ref h_t_seen_bits])), (h_t_seen_bits, .inl (cA, 128, .inl f_t_seen_bits))]) (mPosV (dC, dI) cA (va_A [(h_t, .inr (1, [.int f_t_builtSize, .int f_t_all, .ref h_t_rising, .ref h_t_sorted, .ref h_t_rows, .ref h_t_starts, .ref h_t_seen])), (h_t_seen, .inr (5, [.ref h_t_seen_bits])), (h_t_seen_bits, .inl (cA, 128, .inl f_t_seen_bits))] sz) [(h_t, .inr (1, [.int f_t_builtSize, .int f_t_all, .ref h_t_rising, .ref h_t_sorted, .ref h_t_rows, .ref h_t_starts, .ref h_t_seen])), (h_t_seen, .inr (5, [.ref h_t_seen_bits])), (h_t_seen_bits, .inl (cA, 128, .inl f_t_seen_bits_z))]) 0 0 (va_A [(h_t, .inr (1, [.int f_t_builtSize, .int f_t_all, .ref h_t_rising, .ref h_t_sorted, .ref h_t_rows, .ref h_t_starts, .ref h_t_seen])), (h_t_seen, .inr (5, [.ref h_t_seen_bits])), (h_t_seen_bits, .inl (cA, 128, .inl f_t_seen_bits))] sz) := by
  refine Met.ofW (cc := cX1_addImages) (maxL := 5) (ret := none) (by decide) rfl ?_
  intro p e s m args below meth c s₁ B hml hv
  obtain ⟨rfl, hsz, hP, hK, hD0⟩ := hv
  refine W_gen (fun Q hQ => ?_)
  have hx := B.exec
  have hb := B.bytes
  have hr := B.returns
  have hts := atoms_spec (ws := wsX1_addImages) B.pre
  have hown : s.vm.findClass RX1 = some m.cls := findClass_of_methodNamed B.named
  have hlocks := B.notSynchronized
  subst hsz
  have hD := hD0.self (sz := s.heap.size)
  clear hD0
  generalize hAe : va_A [(h_t, .inr (1, [.int f_t_builtSize, .int f_t_all, .ref h_t_rising, .ref h_t_sorted, .ref h_t_rows, .ref h_t_starts, .ref h_t_seen])), (h_t_seen, .inr (5, [.ref h_t_seen_bits])), (h_t_seen_bits, .inl (cA, 128, .inl f_t_seen_bits))] s.heap.size = A at hD hQ
  have hA : ∀ q : Nat, s.heap.size ≤ q → A q := fun q h => by rw [← hAe]; exact Or.inr h
  clear hAe
  have hS : va_S A s.heap s.heap [] := va_S.rf
  have hl := lv_entry ([.ref h_t, .int a1, .int a2]) (n := 5) (Nat.le_of_ble_eq_true rfl)
  rw [lg_entry_eq]
  generalize (lg_sl ([.ref h_t, .int a1, .int a2]) ++ List.replicate (5 - (lg_sl ([.ref h_t, .int a1, .int a2])).length) Slot.unset).toArray = ls at hl ⊢
  have hl : lv_has ls 5 [(0, .ref h_t), (1, .int a1), (2, .int a2)] := hl
  have k1 := hts (.fieldLink RX1 34 "ToneSets$Forms" "seen" "LToneSets$Seen;") (List.mem_of_getElem? (i := 1) rfl)
  have uX1 := uX1_X1_addImages
  unfold m_Forms_addImages at hm
  refine lv_iload_n hx hb dX1_addImages_0 rfl (lv_at hl 1 rfl) ?_
  refine lv_iload_n hx hb dX1_addImages_1 rfl (lv_at hl 2 rfl) ?_
  obtain ⟨r_1, hc2, hm⟩ := bd1_go hm
  refine my_cSi (As := [.int a1, .int a2]) (rest := []) (WC := []) (WC' := []) (WR := [(h_t, .inr (1, [.int f_t_builtSize, .int f_t_all, .ref h_t_rising, .ref h_t_sorted, .ref h_t_rows, .ref h_t_starts, .ref h_t_seen])), (h_t_seen, .inr (5, [.ref h_t_seen_bits])), (h_t_seen_bits, .inl (cA, 128, .inl f_t_seen_bits))]) (W' := [(h_t, .inr (1, [.int f_t_builtSize, .int f_t_all, .ref h_t_rising, .ref h_t_sorted, .ref h_t_rows, .ref h_t_starts, .ref h_t_seen])), (h_t_seen, .inr (5, [.ref h_t_seen_bits])), (h_t_seen_bits, .inl (cA, 128, .inl f_t_seen_bits))]) ⟨hx, hb, hml, hown, hts⟩ hK hP hD hS hA (c_Ring_mirrored l dC dI cA fu a1 a2 r_1 hc2) (va_cwS 2 hts gX1_addImages_X3_mirrored rfl rfl rfl (by decide +kernel) ⟨Nat.le_of_ble_eq_true rfl, Nat.le_of_ble_eq_true rfl⟩) [] [0, 1, 2] [0, 1, 2] rfl rfl rfl rfl rfl rfl hl.1 (Nat.le_of_ble_eq_true rfl) dX1_addImages_2 ⟨Nat.zero_le _, Nat.zero_le _⟩ (fun H locs hP hD hS => ?_)
  refine lv_topi (fun v3_1 ev3_1 => ?_)
  replace hm := lt_go ev3_1 hm
  refine lv_istore_n (lv' := [(3, .int v3_1), (0, .ref h_t), (1, .int a1), (2, .int a2)]) hx hb dX1_addImages_5 rfl hl (by decide) rfl (fun ls hl => ?_)
  refine lv_iconst (v := 0) hx hb dX1_addImages_6 (by decide) ?_
  refine lv_topi (fun v4_1 ev4_1 => ?_)
  replace hm := lt_go ev4_1 hm
  refine lv_istore (lv' := [(4, .int v4_1), (3, .int v3_1), (0, .ref h_t), (1, .int a1), (2, .int a2)]) hx hb dX1_addImages_7 hl (by decide) rfl (fun ls hl => ?_)
  have L9 : ∀ (n : Nat) (v4_2 : Int32) (f_t_seen_bits_1 : Nat → Int32) (f_t_seen_bits_2 : Nat → Int32), m_Forms_addImages_L9 a2 a1 v3_1 n v4_2 f_t_seen_bits_1 = some f_t_seen_bits_2 → ∀ (H : Heap) (locs : List Loc), va_P (dC, dI) vwCl [(h_t, .inr (1, [.int f_t_builtSize, .int f_t_all, .ref h_t_rising, .ref h_t_sorted, .ref h_t_rows, .ref h_t_starts, .ref h_t_seen])), (h_t_seen, .inr (5, [.ref h_t_seen_bits])), (h_t_seen_bits, .inl (cA, 128, .inl f_t_seen_bits_1))] H → va_D A [(h_t, .inr (1, [.int f_t_builtSize, .int f_t_all, .ref h_t_rising, .ref h_t_sorted, .ref h_t_rows, .ref h_t_starts, .ref h_t_seen])), (h_t_seen, .inr (5, [.ref h_t_seen_bits])), (h_t_seen_bits, .inl (cA, 128, .inl f_t_seen_bits_1))] → va_S A s.heap H locs → ∀ ls : Array Slot, lv_has ls 5 [(0, .ref h_t), (1, .int a1), (2, .int a2), (3, .int v3_1), (4, .int v4_2)] → (∀ (H : Heap) (locs : List Loc), va_P (dC, dI) vwCl [(h_t, .inr (1, [.int f_t_builtSize, .int f_t_all, .ref h_t_rising, .ref h_t_sorted, .ref h_t_rows, .ref h_t_starts, .ref h_t_seen])), (h_t_seen, .inr (5, [.ref h_t_seen_bits])), (h_t_seen_bits, .inl (cA, 128, .inl f_t_seen_bits_2))] H → va_D A [(h_t, .inr (1, [.int f_t_builtSize, .int f_t_all, .ref h_t_rising, .ref h_t_sorted, .ref h_t_rows, .ref h_t_starts, .ref h_t_seen])), (h_t_seen, .inr (5, [.ref h_t_seen_bits])), (h_t_seen_bits, .inl (cA, 128, .inl f_t_seen_bits_2))] → va_S A s.heap H locs → ∀ ls : Array Slot, lv_has ls 5 [] → W p l e (headSpec wsX1_addImages rmX1_addImages).room s m (([.ref h_t, .int a1, .int a2] : List Value).toArray) below meth c H locs 0 0 Q (F0 m 49 ls [])) → W p l e (headSpec wsX1_addImages rmX1_addImages).room s m (([.ref h_t, .int a1, .int a2] : List Value).toArray) below meth c H locs 0 0 Q (F0 m 9 ls []) := by
    clear hm hP hD hS hl
    intro n
    induction n with
    | zero => intro _ _ _ hm; exact nomatch (show none = some _ from hm)
    | succ n ih =>
      intro v4_2 f_t_seen_bits_1 f_t_seen_bits_2 hm H locs hP hD hS ls hl KK
      unfold m_Forms_addImages_L9 at hm
      refine lv_iload hx hb dX1_addImages_9 (lv_at hl 4 rfl) ?_
      refine lv_iload_n hx hb dX1_addImages_11 rfl (lv_at hl 2 rfl) ?_
      refine lv_icmp_ge (tgt := 49) hx hb dX1_addImages_12 (by decide) (fun c12 => ?_) (fun c12 => ?_)
      · replace hm := if_t c12 hm
        cases hm
        exact KK _ _ hP hD hS _ (lv_sub hl [] rfl)
      · replace hm := if_f c12 hm
        refine lv_aload_n hx hb dX1_addImages_15 rfl (lv_at hl 0 rfl) ?_
        refine va_get (D := (dC, dI)) (ci := 1) (v := .ref h_t_seen) (C := RX1) (T := TX1) (N := 7) hx hb hts uX1 hown hK hP 0 rfl rfl 6 (by decide) k1 (fun _ h9 => h9) rfl dX1_addImages_16 ?_
        refine lv_iload_n hx hb dX1_addImages_19 rfl (lv_at hl 1 rfl) ?_
        refine lv_iload hx hb dX1_addImages_20 (lv_at hl 4 rfl) ?_
        refine lv_iload_n hx hb dX1_addImages_22 rfl (lv_at hl 2 rfl) ?_
        obtain ⟨r_2, hc23, hm⟩ := bd1_go hm
        refine my_cSi (As := [.int a1, .int v4_2, .int a2]) (rest := [.ref h_t_seen]) (WC := []) (WC' := []) (WR := [(h_t, .inr (1, [.int f_t_builtSize, .int f_t_all, .ref h_t_rising, .ref h_t_sorted, .ref h_t_rows, .ref h_t_starts, .ref h_t_seen])), (h_t_seen, .inr (5, [.ref h_t_seen_bits])), (h_t_seen_bits, .inl (cA, 128, .inl f_t_seen_bits_1))]) (W' := [(h_t, .inr (1, [.int f_t_builtSize, .int f_t_all, .ref h_t_rising, .ref h_t_sorted, .ref h_t_rows, .ref h_t_starts, .ref h_t_seen])), (h_t_seen, .inr (5, [.ref h_t_seen_bits])), (h_t_seen_bits, .inl (cA, 128, .inl f_t_seen_bits_1))]) ⟨hx, hb, hml, hown, hts⟩ hK hP hD hS hA (c_Ring_turned l dC dI cA a1 v4_2 a2 r_2 hc23) (va_cwS 3 hts gX1_addImages_X3_turned rfl rfl rfl (by decide +kernel) ⟨Nat.le_of_ble_eq_true rfl, Nat.le_of_ble_eq_true rfl⟩) [] [0, 1, 2] [0, 1, 2] rfl rfl rfl rfl rfl rfl hl.1 (Nat.le_of_ble_eq_true rfl) dX1_addImages_23 ⟨Nat.zero_le _, Nat.zero_le _⟩ (fun H locs hP hD hS => ?_)
        obtain ⟨f_t_seen_bits_3, hc26, hm⟩ := bd1_go hm
        refine my_cVv (As := [.int r_2]) (rest := []) (WC := [(h_t_seen, .inr (5, [.ref h_t_seen_bits])), (h_t_seen_bits, .inl (cA, 128, .inl f_t_seen_bits_1))]) (WC' := [(h_t_seen, .inr (5, [.ref h_t_seen_bits])), (h_t_seen_bits, .inl (cA, 128, .inl f_t_seen_bits_3))]) (WR := [(h_t, .inr (1, [.int f_t_builtSize, .int f_t_all, .ref h_t_rising, .ref h_t_sorted, .ref h_t_rows, .ref h_t_starts, .ref h_t_seen]))]) (W' := [(h_t, .inr (1, [.int f_t_builtSize, .int f_t_all, .ref h_t_rising, .ref h_t_sorted, .ref h_t_rows, .ref h_t_starts, .ref h_t_seen])), (h_t_seen, .inr (5, [.ref h_t_seen_bits])), (h_t_seen_bits, .inl (cA, 128, .inl f_t_seen_bits_3))]) ⟨hx, hb, hml, hown, hts⟩ hK hP hD hS hA (c_Seen_add l dC dI cA h_t_seen h_t_seen_bits f_t_seen_bits_1 r_2 f_t_seen_bits_3 hc26) (cwV 1 hts gX1_addImages_X6_add rfl rfl rfl (by decide +kernel) ⟨Nat.le_of_ble_eq_true rfl, Nat.le_of_ble_eq_true rfl⟩) [1, 2] [0] [0, 1, 2] rfl rfl rfl rfl (ci := 5) (q0 := 0) rfl rfl rfl rfl hl.1 (Nat.le_of_ble_eq_true rfl) dX1_addImages_26 ⟨Nat.zero_le _, Nat.zero_le _⟩ (fun H locs hP hD hS => ?_)
        refine lv_aload_n hx hb dX1_addImages_29 rfl (lv_at hl 0 rfl) ?_
        refine va_get (D := (dC, dI)) (ci := 1) (v := .ref h_t_seen) (C := RX1) (T := TX1) (N := 7) hx hb hts uX1 hown hK hP 0 rfl rfl 6 (by decide) k1 (fun _ h9 => h9) rfl dX1_addImages_30 ?_
        refine lv_iload_n hx hb dX1_addImages_33 rfl (lv_at hl 3 rfl) ?_
        refine lv_iload hx hb dX1_addImages_34 (lv_at hl 4 rfl) ?_
        refine lv_iload_n hx hb dX1_addImages_36 rfl (lv_at hl 2 rfl) ?_
        obtain ⟨r_3, hc37, hm⟩ := bd1_go hm
        refine my_cSi (As := [.int v3_1, .int v4_2, .int a2]) (rest := [.ref h_t_seen]) (WC := []) (WC' := []) (WR := [(h_t, .inr (1, [.int f_t_builtSize, .int f_t_all, .ref h_t_rising, .ref h_t_sorted, .ref h_t_rows, .ref h_t_starts, .ref h_t_seen])), (h_t_seen, .inr (5, [.ref h_t_seen_bits])), (h_t_seen_bits, .inl (cA, 128, .inl f_t_seen_bits_3))]) (W' := [(h_t, .inr (1, [.int f_t_builtSize, .int f_t_all, .ref h_t_rising, .ref h_t_sorted, .ref h_t_rows, .ref h_t_starts, .ref h_t_seen])), (h_t_seen, .inr (5, [.ref h_t_seen_bits])), (h_t_seen_bits, .inl (cA, 128, .inl f_t_seen_bits_3))]) ⟨hx, hb, hml, hown, hts⟩ hK hP hD hS hA (c_Ring_turned l dC dI cA v3_1 v4_2 a2 r_3 hc37) (va_cwS 3 hts gX1_addImages_X3_turned rfl rfl rfl (by decide +kernel) ⟨Nat.le_of_ble_eq_true rfl, Nat.le_of_ble_eq_true rfl⟩) [] [0, 1, 2] [0, 1, 2] rfl rfl rfl rfl rfl rfl hl.1 (Nat.le_of_ble_eq_true rfl) dX1_addImages_37 ⟨Nat.zero_le _, Nat.zero_le _⟩ (fun H locs hP hD hS => ?_)
        obtain ⟨f_t_seen_bits_4, hc40, hm⟩ := bd1_go hm
        refine my_cVv (As := [.int r_3]) (rest := []) (WC := [(h_t_seen, .inr (5, [.ref h_t_seen_bits])), (h_t_seen_bits, .inl (cA, 128, .inl f_t_seen_bits_3))]) (WC' := [(h_t_seen, .inr (5, [.ref h_t_seen_bits])), (h_t_seen_bits, .inl (cA, 128, .inl f_t_seen_bits_4))]) (WR := [(h_t, .inr (1, [.int f_t_builtSize, .int f_t_all, .ref h_t_rising, .ref h_t_sorted, .ref h_t_rows, .ref h_t_starts, .ref h_t_seen]))]) (W' := [(h_t, .inr (1, [.int f_t_builtSize, .int f_t_all, .ref h_t_rising, .ref h_t_sorted, .ref h_t_rows, .ref h_t_starts, .ref h_t_seen])), (h_t_seen, .inr (5, [.ref h_t_seen_bits])), (h_t_seen_bits, .inl (cA, 128, .inl f_t_seen_bits_4))]) ⟨hx, hb, hml, hown, hts⟩ hK hP hD hS hA (c_Seen_add l dC dI cA h_t_seen h_t_seen_bits f_t_seen_bits_3 r_3 f_t_seen_bits_4 hc40) (cwV 1 hts gX1_addImages_X6_add rfl rfl rfl (by decide +kernel) ⟨Nat.le_of_ble_eq_true rfl, Nat.le_of_ble_eq_true rfl⟩) [1, 2] [0] [0, 1, 2] rfl rfl rfl rfl (ci := 5) (q0 := 0) rfl rfl rfl rfl hl.1 (Nat.le_of_ble_eq_true rfl) dX1_addImages_40 ⟨Nat.zero_le _, Nat.zero_le _⟩ (fun H locs hP hD hS => ?_)
        obtain ⟨v4_3, ev4_3⟩ : ∃ z : Int32, z = v4_2 + 1 := ⟨_, rfl⟩
        replace hm := lt_go ev4_3 hm
        refine lv_iinc (v := v4_3) (lv' := [(4, .int v4_3), (0, .ref h_t), (1, .int a1), (2, .int a2), (3, .int v3_1)]) hx hb dX1_addImages_43 hl (k := 4) rfl (by rw [ev4_3]; rfl) (by decide) rfl (fun ls hl => ?_)
        refine lv_goto (tgt := 9) hx hb dX1_addImages_46 (by decide) ?_
        exact ih _ _ _ hm _ _ hP hD hS _ (lv_sub hl [1, 2, 3, 4, 0] rfl) KK
  obtain ⟨f_t_seen_bits_5, hl9, hm⟩ := bd1_go hm
  refine L9 _ _ _ _ hl9 _ _ hP hD hS _ (lv_sub hl [2, 3, 4, 1, 0] rfl) (fun H locs hP hD hS ls hl => ?_)
  cases hm
  exact W_mono hQ (W.vret hx hb hr (fun t ht hW => ⟨⟨(), rfl, trivial, by rw [ht]; exact hP, va_K.moved hW.alike hK, hD⟩, hS.F ht⟩) hS.2.2 dX1_addImages_49)
abbrev rmX6_clear : Room := { frames := 1, cells := 0, slots := 0, locals := 23 }
theorem uX6_X6_clear : ∀ w ∈ wsX60, w ∈ wsX6_clear := fun _ h => List.mem_cons_of_mem _ (List.mem_append_right _ (h))
set_option maxHeartbeats 40000000 in
set_option maxRecDepth 100000 in
theorem c_Seen_clear (l : Launch) (dC : Nat → ClassId) (dI : Nat → Nat → Nat) (cA : ClassId) (fu : Nat) (h_t h_t_bits : Nat) (f_t_bits : Nat → Int32) (f_t_bits_z : Nat → Int32) (hm : m_Seen_clear fu f_t_bits = some f_t_bits_z) (sz : Nat) : Met l yX6_clear wsX6_clear rmX6_clear (mPre (dC, dI) cA [.ref h_t] sz [(h_t, .inr (5, [.ref h_t_bits])), (h_t_bits, .inl (cA, 128, .inl f_t_bits))]) (mPosV (dC, dI) cA (va_A [(h_t, .inr (5, [.ref h_t_bits])), (h_t_bits, .inl (cA, 128, .inl f_t_bits))] sz) [(h_t, .inr (5, [.ref h_t_bits])), (h_t_bits, .inl (cA, 128, .inl f_t_bits_z))]) 0 0 (va_A [(h_t, .inr (5, [.ref h_t_bits])), (h_t_bits, .inl (cA, 128, .inl f_t_bits))] sz) := by
  refine Met.ofW (cc := cX6_clear) (maxL := 1) (ret := none) (by decide) rfl ?_
  intro p e s m args below meth c s₁ B hml hv
  obtain ⟨rfl, hsz, hP, hK, hD0⟩ := hv
  refine W_gen (fun Q hQ => ?_)
  have hx := B.exec
  have hb := B.bytes
  have hr := B.returns
  have hts := atoms_spec (ws := wsX6_clear) B.pre
  have hown : s.vm.findClass RX6 = some m.cls := findClass_of_methodNamed B.named
  have hlocks := B.notSynchronized
  subst hsz
  have hD := hD0.self (sz := s.heap.size)
  clear hD0
  generalize hAe : va_A [(h_t, .inr (5, [.ref h_t_bits])), (h_t_bits, .inl (cA, 128, .inl f_t_bits))] s.heap.size = A at hD hQ
  have hA : ∀ q : Nat, s.heap.size ≤ q → A q := fun q h => by rw [← hAe]; exact Or.inr h
  clear hAe
  have hS : va_S A s.heap s.heap [] := va_S.rf
  have hl := lv_entry ([.ref h_t]) (n := 1) (Nat.le_of_ble_eq_true rfl)
  rw [lg_entry_eq]
  generalize (lg_sl ([.ref h_t]) ++ List.replicate (1 - (lg_sl ([.ref h_t])).length) Slot.unset).toArray = ls at hl ⊢
  have hl : lv_has ls 1 [(0, .ref h_t)] := hl
  have k1 := hts (.fieldLink RX6 9 "ToneSets$Seen" "bits" "[I") (List.mem_of_getElem? (i := 1) rfl)
  have uX6 := uX6_X6_clear
  unfold m_Seen_clear at hm
  refine lv_aload_n hx hb dX6_clear_0 rfl (lv_at hl 0 rfl) ?_
  refine va_get (D := (dC, dI)) (ci := 5) (v := .ref h_t_bits) (C := RX6) (T := TX6) (N := 1) hx hb hts uX6 hown hK hP 0 rfl rfl 0 (by decide) k1 (fun _ h9 => h9) rfl dX6_clear_1 ?_
  refine lv_iconst (v := 0) hx hb dX6_clear_4 (by decide) ?_
  obtain ⟨f_t_bits_1, hc5, hm⟩ := bd1_go hm
  refine my_cSv (As := [.ref h_t_bits, .int 0]) (rest := []) (WC := [(h_t_bits, .inl (cA, 128, .inl f_t_bits))]) (WC' := [(h_t_bits, .inl (cA, 128, .inl f_t_bits_1))]) (WR := [(h_t, .inr (5, [.ref h_t_bits]))]) (W' := [(h_t, .inr (5, [.ref h_t_bits])), (h_t_bits, .inl (cA, 128, .inl f_t_bits_1))]) ⟨hx, hb, hml, hown, hts⟩ hK hP hD hS hA (c_Ja_fill l dC dI cA fu h_t_bits 128 f_t_bits 0 f_t_bits_1 hc5) (va_cwS 2 hts gX6_clear_J7_fill_53178 rfl rfl rfl (by decide +kernel) ⟨Nat.le_of_ble_eq_true rfl, Nat.le_of_ble_eq_true rfl⟩) [1] [0] [0, 1] rfl rfl rfl rfl rfl rfl hl.1 (Nat.le_of_ble_eq_true rfl) dX6_clear_5 ⟨Nat.zero_le _, Nat.zero_le _⟩ (fun H locs hP hD hS => ?_)
  cases hm
  exact W_mono hQ (W.vret hx hb hr (fun t ht hW => ⟨⟨(), rfl, trivial, by rw [ht]; exact hP, va_K.moved hW.alike hK, hD⟩, hS.F ht⟩) hS.2.2 dX6_clear_8)
abbrev rmX6_has : Room := { frames := 0, cells := 0, slots := 0, locals := 0 }
theorem uX6_X6_has : ∀ w ∈ wsX60, w ∈ wsX6_has := fun _ h => List.mem_cons_of_mem _ (List.mem_append_right _ (h))
set_option maxHeartbeats 40000000 in
set_option maxRecDepth 100000 in
theorem c_Seen_has (l : Launch) (dC : Nat → ClassId) (dI : Nat → Nat → Nat) (cA : ClassId) (h_t h_t_bits : Nat) (f_t_bits : Nat → Int32) (a1 : Int32) (r0 : Int32) (hm : m_Seen_has f_t_bits a1 = some r0) (sz : Nat) : Met l yX6_has wsX6_has rmX6_has (mPre (dC, dI) cA [.ref h_t, .int a1] sz [(h_t, .inr (5, [.ref h_t_bits])), (h_t_bits, .inl (cA, 128, .inl f_t_bits))]) (mPosI (dC, dI) cA r0 (va_A [(h_t, .inr (5, [.ref h_t_bits])), (h_t_bits, .inl (cA, 128, .inl f_t_bits))] sz) [(h_t, .inr (5, [.ref h_t_bits])), (h_t_bits, .inl (cA, 128, .inl f_t_bits))]) 0 0 (va_A [(h_t, .inr (5, [.ref h_t_bits])), (h_t_bits, .inl (cA, 128, .inl f_t_bits))] sz) := by
  refine Met.ofW (cc := cX6_has) (maxL := 3) (ret := (some .boolean)) (by decide) rfl ?_
  intro p e s m args below meth c s₁ B hml hv
  obtain ⟨rfl, hsz, hP, hK, hD0⟩ := hv
  refine W_gen (fun Q hQ => ?_)
  have hx := B.exec
  have hb := B.bytes
  have hr := B.returns
  have hts := atoms_spec (ws := wsX6_has) B.pre
  have hown : s.vm.findClass RX6 = some m.cls := findClass_of_methodNamed B.named
  have hlocks := B.notSynchronized
  subst hsz
  have hD := hD0.self (sz := s.heap.size)
  clear hD0
  generalize hAe : va_A [(h_t, .inr (5, [.ref h_t_bits])), (h_t_bits, .inl (cA, 128, .inl f_t_bits))] s.heap.size = A at hD hQ
  have hA : ∀ q : Nat, s.heap.size ≤ q → A q := fun q h => by rw [← hAe]; exact Or.inr h
  clear hAe
  have hS : va_S A s.heap s.heap [] := va_S.rf
  have hl := lv_entry ([.ref h_t, .int a1]) (n := 3) (Nat.le_of_ble_eq_true rfl)
  rw [lg_entry_eq]
  generalize (lg_sl ([.ref h_t, .int a1]) ++ List.replicate (3 - (lg_sl ([.ref h_t, .int a1])).length) Slot.unset).toArray = ls at hl ⊢
  have hl : lv_has ls 3 [(0, .ref h_t), (1, .int a1)] := hl
  have k1 := hts (.fieldLink RX6 9 "ToneSets$Seen" "bits" "[I") (List.mem_of_getElem? (i := 1) rfl)
  have uX6 := uX6_X6_has
  unfold m_Seen_has at hm
  refine lv_iload_n hx hb dX6_has_0 rfl (lv_at hl 1 rfl) ?_
  refine lv_iconst (v := 5) hx hb dX6_has_1 (by decide) ?_
  refine lv_ishr hx hb dX6_has_2 ?_
  refine lv_topi (fun v2_1 ev2_1 => ?_)
  replace hm := lt_go ev2_1 hm
  refine lv_istore_n (lv' := [(2, .int v2_1), (0, .ref h_t), (1, .int a1)]) hx hb dX6_has_3 rfl hl (by decide) rfl (fun ls hl => ?_)
  refine lv_iload_n hx hb dX6_has_4 rfl (lv_at hl 0 rfl) ?_
  refine lv_if_lt (tgt := 37) hx hb dX6_has_5 (by decide) (fun c5 => ?_) (fun c5 => ?_)
  · replace hm := if_t c5 hm
    refine lv_iconst (v := 0) hx hb dX6_has_37 (by decide) ?_
    cases hm
    exact W_mono hQ (W.zret hx hb hr rfl (fun t ht hW => ⟨⟨_, (), rfl, rfl, by rw [ht]; exact hP, va_K.moved hW.alike hK, hD⟩, hS.F ht⟩) hS.2.2 dX6_has_38)
  · replace hm := if_f c5 hm
    refine lv_iload_n hx hb dX6_has_8 rfl (lv_at hl 0 rfl) ?_
    refine lv_aload_n hx hb dX6_has_9 rfl (lv_at hl 1 rfl) ?_
    refine va_get (D := (dC, dI)) (ci := 5) (v := .ref h_t_bits) (C := RX6) (T := TX6) (N := 1) hx hb hts uX6 hown hK hP 0 rfl rfl 0 (by decide) k1 (fun _ h9 => h9) rfl dX6_has_10 ?_
    refine va_alen (v := nI 128) hx hb hK hP 1 0 rfl rfl rfl dX6_has_13 ?_
    refine lv_icmp_ge (tgt := 37) hx hb dX6_has_14 (by decide) (fun c14 => ?_) (fun c14 => ?_)
    · replace hm := if_t c14 hm
      refine lv_iconst (v := 0) hx hb dX6_has_37 (by decide) ?_
      cases hm
      exact W_mono hQ (W.zret hx hb hr rfl (fun t ht hW => ⟨⟨_, (), rfl, rfl, by rw [ht]; exact hP, va_K.moved hW.alike hK, hD⟩, hS.F ht⟩) hS.2.2 dX6_has_38)
    · replace hm := if_f c14 hm
      refine lv_aload_n hx hb dX6_has_17 rfl (lv_at hl 1 rfl) ?_
      refine va_get (D := (dC, dI)) (ci := 5) (v := .ref h_t_bits) (C := RX6) (T := TX6) (N := 1) hx hb hts uX6 hown hK hP 0 rfl rfl 0 (by decide) k1 (fun _ h9 => h9) rfl dX6_has_18 ?_
      refine lv_iload_n hx hb dX6_has_21 rfl (lv_at hl 0 rfl) ?_
      obtain ⟨b22, hm⟩ := ck_go hm
      refine va_iald hx hb hK hP 1 0 rfl rfl b22 dX6_has_22 ?_
      refine lv_iconst (v := 1) hx hb dX6_has_23 (by decide) ?_
      refine lv_iload_n hx hb dX6_has_24 rfl (lv_at hl 2 rfl) ?_
      refine lv_bipush (v := 31) hx hb dX6_has_25 (by decide) ?_
      refine lv_iand hx hb dX6_has_27 ?_
      refine lv_ishl hx hb dX6_has_28 ?_
      refine lv_iand hx hb dX6_has_29 ?_
      refine lv_if_eq (tgt := 37) hx hb dX6_has_30 (by decide) (fun c30 => ?_) (fun c30 => ?_)
      · replace hm := if_t c30 hm
        refine lv_iconst (v := 0) hx hb dX6_has_37 (by decide) ?_
        cases hm
        exact W_mono hQ (W.zret hx hb hr rfl (fun t ht hW => ⟨⟨_, (), rfl, rfl, by rw [ht]; exact hP, va_K.moved hW.alike hK, hD⟩, hS.F ht⟩) hS.2.2 dX6_has_38)
      · replace hm := if_f c30 hm
        refine lv_iconst (v := 1) hx hb dX6_has_33 (by decide) ?_
        refine lv_goto (tgt := 38) hx hb dX6_has_34 (by decide) ?_
        cases hm
        exact W_mono hQ (W.zret hx hb hr rfl (fun t ht hW => ⟨⟨_, (), rfl, rfl, by rw [ht]; exact hP, va_K.moved hW.alike hK, hD⟩, hS.F ht⟩) hS.2.2 dX6_has_38)
abbrev rmX1_findRising : Room := { frames := 3, cells := 0, slots := 0, locals := 66 }
theorem uX1_X1_findRising : ∀ w ∈ wsX10, w ∈ wsX1_findRising := fun _ h => List.mem_cons_of_mem _ (List.mem_append_left _ (List.mem_append_right _ (h)))
set_option maxHeartbeats 40000000 in
set_option maxRecDepth 100000 in
theorem c_Forms_findRising (l : Launch) (dC : Nat → ClassId) (dI : Nat → Nat → Nat) (cA : ClassId) (fu : Nat) (h_t h_t_seen h_t_rising h_t_sorted h_t_rows h_t_starts h_t_seen_bits : Nat) (f_t_builtSize : Int32) (f_t_all : Int32) (f_t_rising : Nat → Int32) (f_t_seen_bits : Nat → Int32) (a1 : Int32) (f_t_all_z : Int32) (f_t_rising_z : Nat → Int32) (f_t_seen_bits_z : Nat → Int32) (hm : m_Forms_findRising fu f_t_all f_t_rising f_t_seen_bits a1 = some (f_t_all_z, f_t_rising_z, f_t_seen_bits_z)) (sz : Nat) : Met l yX1_findRising wsX1_findRising rmX1_findRising (mPre (dC, dI) cA [.ref h_t, .int a1] sz [(h_t, .inr (1, [.int f_t_builtSize, .int f_t_all, .ref h_t_rising, .ref h_t_sorted, .ref h_t_rows, .ref h_t_starts, .ref h_t_seen])), (h_t_seen, .inr (5, [.ref h_t_seen_bits])), (h_t_rising, .inl (cA, 224, .inl f_t_rising)), (h_t_seen_bits, .inl (cA, 128, .inl f_t_seen_bits))]) (mPosV (dC, dI) cA (va_A [(h_t, .inr (1, [.int f_t_builtSize, .int f_t_all, .ref h_t_rising, .ref h_t_sorted, .ref h_t_rows, .ref h_t_starts, .ref h_t_seen])), (h_t_seen, .inr (5, [.ref h_t_seen_bits])), (h_t_rising, .inl (cA, 224, .inl f_t_rising)), (h_t_seen_bits, .inl (cA, 128, .inl f_t_seen_bits))] sz) [(h_t, .inr (1, [.int f_t_builtSize, .int f_t_all_z, .ref h_t_rising, .ref h_t_sorted, .ref h_t_rows, .ref h_t_starts, .ref h_t_seen])), (h_t_seen, .inr (5, [.ref h_t_seen_bits])), (h_t_rising, .inl (cA, 224, .inl f_t_rising_z)), (h_t_seen_bits, .inl (cA, 128, .inl f_t_seen_bits_z))]) 0 0 (va_A [(h_t, .inr (1, [.int f_t_builtSize, .int f_t_all, .ref h_t_rising, .ref h_t_sorted, .ref h_t_rows, .ref h_t_starts, .ref h_t_seen])), (h_t_seen, .inr (5, [.ref h_t_seen_bits])), (h_t_rising, .inl (cA, 224, .inl f_t_rising)), (h_t_seen_bits, .inl (cA, 128, .inl f_t_seen_bits))] sz) := by
  refine Met.ofW (cc := cX1_findRising) (maxL := 3) (ret := none) (by decide) rfl ?_
  intro p e s m args below meth c s₁ B hml hv
  obtain ⟨rfl, hsz, hP, hK, hD0⟩ := hv
  refine W_gen (fun Q hQ => ?_)
  have hx := B.exec
  have hb := B.bytes
  have hr := B.returns
  have hts := atoms_spec (ws := wsX1_findRising) B.pre
  have hown : s.vm.findClass RX1 = some m.cls := findClass_of_methodNamed B.named
  have hlocks := B.notSynchronized
  subst hsz
  have hD := hD0.self (sz := s.heap.size)
  clear hD0
  generalize hAe : va_A [(h_t, .inr (1, [.int f_t_builtSize, .int f_t_all, .ref h_t_rising, .ref h_t_sorted, .ref h_t_rows, .ref h_t_starts, .ref h_t_seen])), (h_t_seen, .inr (5, [.ref h_t_seen_bits])), (h_t_rising, .inl (cA, 224, .inl f_t_rising)), (h_t_seen_bits, .inl (cA, 128, .inl f_t_seen_bits))] s.heap.size = A at hD hQ
  have hA : ∀ q : Nat, s.heap.size ≤ q → A q := fun q h => by rw [← hAe]; exact Or.inr h
  clear hAe
  have hS : va_S A s.heap s.heap [] := va_S.rf
  have hl := lv_entry ([.ref h_t, .int a1]) (n := 3) (Nat.le_of_ble_eq_true rfl)
  rw [lg_entry_eq]
  generalize (lg_sl ([.ref h_t, .int a1]) ++ List.replicate (3 - (lg_sl ([.ref h_t, .int a1])).length) Slot.unset).toArray = ls at hl ⊢
  have hl : lv_has ls 3 [(0, .ref h_t), (1, .int a1)] := hl
  have k1 := hts (.fieldLink RX1 34 "ToneSets$Forms" "seen" "LToneSets$Seen;") (List.mem_of_getElem? (i := 1) rfl)
  have k2 := hts (.fieldLink RX1 15 "ToneSets$Forms" "all" "I") (List.mem_of_getElem? (i := 2) rfl)
  have k3 := hts (.fieldLink RX1 18 "ToneSets$Forms" "rising" "[I") (List.mem_of_getElem? (i := 3) rfl)
  have uX1 := uX1_X1_findRising
  unfold m_Forms_findRising at hm
  refine lv_aload_n hx hb dX1_findRising_0 rfl (lv_at hl 0 rfl) ?_
  refine va_get (D := (dC, dI)) (ci := 1) (v := .ref h_t_seen) (C := RX1) (T := TX1) (N := 7) hx hb hts uX1 hown hK hP 0 rfl rfl 6 (by decide) k1 (fun _ h9 => h9) rfl dX1_findRising_1 ?_
  obtain ⟨f_t_seen_bits_1, hc4, hm⟩ := bd1_go hm
  refine my_cVv (As := []) (rest := []) (WC := [(h_t_seen, .inr (5, [.ref h_t_seen_bits])), (h_t_seen_bits, .inl (cA, 128, .inl f_t_seen_bits))]) (WC' := [(h_t_seen, .inr (5, [.ref h_t_seen_bits])), (h_t_seen_bits, .inl (cA, 128, .inl f_t_seen_bits_1))]) (WR := [(h_t, .inr (1, [.int f_t_builtSize, .int f_t_all, .ref h_t_rising, .ref h_t_sorted, .ref h_t_rows, .ref h_t_starts, .ref h_t_seen])), (h_t_rising, .inl (cA, 224, .inl f_t_rising))]) (W' := [(h_t, .inr (1, [.int f_t_builtSize, .int f_t_all, .ref h_t_rising, .ref h_t_sorted, .ref h_t_rows, .ref h_t_starts, .ref h_t_seen])), (h_t_seen, .inr (5, [.ref h_t_seen_bits])), (h_t_rising, .inl (cA, 224, .inl f_t_rising)), (h_t_seen_bits, .inl (cA, 128, .inl f_t_seen_bits_1))]) ⟨hx, hb, hml, hown, hts⟩ hK hP hD hS hA (c_Seen_clear l dC dI cA fu h_t_seen h_t_seen_bits f_t_seen_bits f_t_seen_bits_1 hc4) (cwV 0 hts gX1_findRising_X6_clear rfl rfl rfl (by decide +kernel) ⟨Nat.le_of_ble_eq_true rfl, Nat.le_of_ble_eq_true rfl⟩) [1, 3] [0, 2] [0, 2, 1, 3] rfl rfl rfl rfl (ci := 5) (q0 := 0) rfl rfl rfl rfl hl.1 (Nat.le_of_ble_eq_true rfl) dX1_findRising_4 ⟨Nat.zero_le _, Nat.zero_le _⟩ (fun H locs hP hD hS => ?_)
  refine lv_aload_n hx hb dX1_findRising_7 rfl (lv_at hl 0 rfl) ?_
  refine lv_iconst (v := 0) hx hb dX1_findRising_8 (by decide) ?_
  refine lv_topi (fun f_t_all_1 ef_t_all_1 => ?_)
  replace hm := lt_go ef_t_all_1 hm
  refine my_put (W' := [(h_t, .inr (1, [.int f_t_builtSize, .int f_t_all_1, .ref h_t_rising, .ref h_t_sorted, .ref h_t_rows, .ref h_t_starts, .ref h_t_seen])), (h_t_seen, .inr (5, [.ref h_t_seen_bits])), (h_t_rising, .inl (cA, 224, .inl f_t_rising)), (h_t_seen_bits, .inl (cA, 128, .inl f_t_seen_bits_1))]) (ci := 1) (v := .int f_t_all_1) (ty := .int) (C := RX1) (T := TX1) (N := 7) hx hb hts uX1 tyX1 tyX1_ok nmX1 hown hK hP hD hS 0 rfl rfl 1 (by decide) k2 (fun _ h9 => h9) rfl (by decide +kernel) rfl rfl (Nat.le_of_ble_eq_true rfl) dX1_findRising_9 rfl (fun H locs hP hD hS => ?_)
  refine lv_iconst (v := 0) hx hb dX1_findRising_12 (by decide) ?_
  refine lv_topi (fun v2_1 ev2_1 => ?_)
  replace hm := lt_go ev2_1 hm
  refine lv_istore_n (lv' := [(2, .int v2_1), (0, .ref h_t), (1, .int a1)]) hx hb dX1_findRising_13 rfl hl (by decide) rfl (fun ls hl => ?_)
  have L14 : ∀ (n : Nat) (v2_2 : Int32) (f_t_all_2 : Int32) (f_t_rising_1 : Nat → Int32) (f_t_seen_bits_2 : Nat → Int32) (f_t_all_3 : Int32) (f_t_rising_2 : Nat → Int32) (f_t_seen_bits_3 : Nat → Int32), m_Forms_findRising_L14 fu a1 n v2_2 f_t_all_2 f_t_rising_1 f_t_seen_bits_2 = some (f_t_all_3, f_t_rising_2, f_t_seen_bits_3) → ∀ (H : Heap) (locs : List Loc), va_P (dC, dI) vwCl [(h_t, .inr (1, [.int f_t_builtSize, .int f_t_all_2, .ref h_t_rising, .ref h_t_sorted, .ref h_t_rows, .ref h_t_starts, .ref h_t_seen])), (h_t_seen, .inr (5, [.ref h_t_seen_bits])), (h_t_rising, .inl (cA, 224, .inl f_t_rising_1)), (h_t_seen_bits, .inl (cA, 128, .inl f_t_seen_bits_2))] H → va_D A [(h_t, .inr (1, [.int f_t_builtSize, .int f_t_all_2, .ref h_t_rising, .ref h_t_sorted, .ref h_t_rows, .ref h_t_starts, .ref h_t_seen])), (h_t_seen, .inr (5, [.ref h_t_seen_bits])), (h_t_rising, .inl (cA, 224, .inl f_t_rising_1)), (h_t_seen_bits, .inl (cA, 128, .inl f_t_seen_bits_2))] → va_S A s.heap H locs → ∀ ls : Array Slot, lv_has ls 3 [(0, .ref h_t), (1, .int a1), (2, .int v2_2)] → (∀ (H : Heap) (locs : List Loc), va_P (dC, dI) vwCl [(h_t, .inr (1, [.int f_t_builtSize, .int f_t_all_3, .ref h_t_rising, .ref h_t_sorted, .ref h_t_rows, .ref h_t_starts, .ref h_t_seen])), (h_t_seen, .inr (5, [.ref h_t_seen_bits])), (h_t_rising, .inl (cA, 224, .inl f_t_rising_2)), (h_t_seen_bits, .inl (cA, 128, .inl f_t_seen_bits_3))] H → va_D A [(h_t, .inr (1, [.int f_t_builtSize, .int f_t_all_3, .ref h_t_rising, .ref h_t_sorted, .ref h_t_rows, .ref h_t_starts, .ref h_t_seen])), (h_t_seen, .inr (5, [.ref h_t_seen_bits])), (h_t_rising, .inl (cA, 224, .inl f_t_rising_2)), (h_t_seen_bits, .inl (cA, 128, .inl f_t_seen_bits_3))] → va_S A s.heap H locs → ∀ ls : Array Slot, lv_has ls 3 [] → W p l e (headSpec wsX1_findRising rmX1_findRising).room s m (([.ref h_t, .int a1] : List Value).toArray) below meth c H locs 0 0 Q (F0 m 75 ls [])) → W p l e (headSpec wsX1_findRising rmX1_findRising).room s m (([.ref h_t, .int a1] : List Value).toArray) below meth c H locs 0 0 Q (F0 m 14 ls []) := by
    clear hm hP hD hS hl
    intro n
    induction n with
    | zero => intro _ _ _ _ _ _ _ hm; exact nomatch (show none = some _ from hm)
    | succ n ih =>
      intro v2_2 f_t_all_2 f_t_rising_1 f_t_seen_bits_2 f_t_all_3 f_t_rising_2 f_t_seen_bits_3 hm H locs hP hD hS ls hl KK
      unfold m_Forms_findRising_L14 at hm
      refine lv_iload_n hx hb dX1_findRising_14 rfl (lv_at hl 2 rfl) ?_
      refine lv_iload_n hx hb dX1_findRising_15 rfl (lv_at hl 1 rfl) ?_
      obtain ⟨r_1, hc16, hm⟩ := bd1_go hm
      refine my_cSi (As := [.int a1]) (rest := [.int v2_2]) (WC := []) (WC' := []) (WR := [(h_t, .inr (1, [.int f_t_builtSize, .int f_t_all_2, .ref h_t_rising, .ref h_t_sorted, .ref h_t_rows, .ref h_t_starts, .ref h_t_seen])), (h_t_seen, .inr (5, [.ref h_t_seen_bits])), (h_t_rising, .inl (cA, 224, .inl f_t_rising_1)), (h_t_seen_bits, .inl (cA, 128, .inl f_t_seen_bits_2))]) (W' := [(h_t, .inr (1, [.int f_t_builtSize, .int f_t_all_2, .ref h_t_rising, .ref h_t_sorted, .ref h_t_rows, .ref h_t_starts, .ref h_t_seen])), (h_t_seen, .inr (5, [.ref h_t_seen_bits])), (h_t_rising, .inl (cA, 224, .inl f_t_rising_1)), (h_t_seen_bits, .inl (cA, 128, .inl f_t_seen_bits_2))]) ⟨hx, hb, hml, hown, hts⟩ hK hP hD hS hA (c_Ring_allTones l dC dI cA a1 r_1 hc16) (va_cwS 1 hts gX1_findRising_X3_allTones rfl rfl rfl (by decide +kernel) ⟨Nat.le_of_ble_eq_true rfl, Nat.le_of_ble_eq_true rfl⟩) [] [0, 1, 2, 3] [0, 1, 2, 3] rfl rfl rfl rfl rfl rfl hl.1 (Nat.le_of_ble_eq_true rfl) dX1_findRising_16 ⟨Nat.zero_le _, Nat.zero_le _⟩ (fun H locs hP hD hS => ?_)
      refine lv_icmp_gt (tgt := 75) hx hb dX1_findRising_19 (by decide) (fun c19 => ?_) (fun c19 => ?_)
      · replace hm := if_t c19 hm
        cases hm
        exact KK _ _ hP hD hS _ (lv_sub hl [] rfl)
      · replace hm := if_f c19 hm
        refine lv_aload_n hx hb dX1_findRising_22 rfl (lv_at hl 0 rfl) ?_
        refine va_get (D := (dC, dI)) (ci := 1) (v := .ref h_t_seen) (C := RX1) (T := TX1) (N := 7) hx hb hts uX1 hown hK hP 0 rfl rfl 6 (by decide) k1 (fun _ h9 => h9) rfl dX1_findRising_23 ?_
        refine lv_iload_n hx hb dX1_findRising_26 rfl (lv_at hl 2 rfl) ?_
        obtain ⟨r_2, hc27, hm⟩ := bd1_go hm
        refine my_cVi (As := [.int v2_2]) (rest := []) (WC := [(h_t_seen, .inr (5, [.ref h_t_seen_bits])), (h_t_seen_bits, .inl (cA, 128, .inl f_t_seen_bits_2))]) (WC' := [(h_t_seen, .inr (5, [.ref h_t_seen_bits])), (h_t_seen_bits, .inl (cA, 128, .inl f_t_seen_bits_2))]) (WR := [(h_t, .inr (1, [.int f_t_builtSize, .int f_t_all_2, .ref h_t_rising, .ref h_t_sorted, .ref h_t_rows, .ref h_t_starts, .ref h_t_seen])), (h_t_rising, .inl (cA, 224, .inl f_t_rising_1))]) (W' := [(h_t, .inr (1, [.int f_t_builtSize, .int f_t_all_2, .ref h_t_rising, .ref h_t_sorted, .ref h_t_rows, .ref h_t_starts, .ref h_t_seen])), (h_t_seen, .inr (5, [.ref h_t_seen_bits])), (h_t_rising, .inl (cA, 224, .inl f_t_rising_1)), (h_t_seen_bits, .inl (cA, 128, .inl f_t_seen_bits_2))]) ⟨hx, hb, hml, hown, hts⟩ hK hP hD hS hA (c_Seen_has l dC dI cA h_t_seen h_t_seen_bits f_t_seen_bits_2 v2_2 r_2 hc27) (cwV 1 hts gX1_findRising_X6_has rfl rfl rfl (by decide +kernel) ⟨Nat.le_of_ble_eq_true rfl, Nat.le_of_ble_eq_true rfl⟩) [1, 3] [0, 2] [0, 2, 1, 3] rfl rfl rfl rfl (ci := 5) (q0 := 0) rfl rfl rfl rfl hl.1 (Nat.le_of_ble_eq_true rfl) dX1_findRising_27 ⟨Nat.zero_le _, Nat.zero_le _⟩ (fun H locs hP hD hS => ?_)
        obtain ⟨f_t_all_4, f_t_rising_3, f_t_seen_bits_4, hqJ_1, hm⟩ := bd3_go hm
        have J_1 : ∀ (H : Heap) (locs : List Loc), va_P (dC, dI) vwCl [(h_t, .inr (1, [.int f_t_builtSize, .int f_t_all_4, .ref h_t_rising, .ref h_t_sorted, .ref h_t_rows, .ref h_t_starts, .ref h_t_seen])), (h_t_seen, .inr (5, [.ref h_t_seen_bits])), (h_t_rising, .inl (cA, 224, .inl f_t_rising_3)), (h_t_seen_bits, .inl (cA, 128, .inl f_t_seen_bits_4))] H → va_D A [(h_t, .inr (1, [.int f_t_builtSize, .int f_t_all_4, .ref h_t_rising, .ref h_t_sorted, .ref h_t_rows, .ref h_t_starts, .ref h_t_seen])), (h_t_seen, .inr (5, [.ref h_t_seen_bits])), (h_t_rising, .inl (cA, 224, .inl f_t_rising_3)), (h_t_seen_bits, .inl (cA, 128, .inl f_t_seen_bits_4))] → va_S A s.heap H locs → ∀ ls : Array Slot, lv_has ls 3 [(0, .ref h_t), (1, .int a1), (2, .int v2_2)] → W p l e (headSpec wsX1_findRising rmX1_findRising).room s m (([.ref h_t, .int a1] : List Value).toArray) below meth c H locs 0 0 Q (F0 m 69 ls []) := by
          intro H locs hP hD hS ls hl
          clear hqJ_1
          obtain ⟨v2_3, ev2_3⟩ : ∃ z : Int32, z = v2_2 + 1 := ⟨_, rfl⟩
          replace hm := lt_go ev2_3 hm
          refine lv_iinc (v := v2_3) (lv' := [(2, .int v2_3), (0, .ref h_t), (1, .int a1)]) hx hb dX1_findRising_69 hl (k := 2) rfl (by rw [ev2_3]; rfl) (by decide) rfl (fun ls hl => ?_)
          refine lv_goto (tgt := 14) hx hb dX1_findRising_72 (by decide) ?_
          exact ih _ _ _ _ _ _ _ hm _ _ hP hD hS _ (lv_sub hl [1, 2, 0] rfl) KK
        clear hm
        refine lv_if_ne (tgt := 69) hx hb dX1_findRising_30 (by decide) (fun c30 => ?_) (fun c30 => ?_)
        · replace hqJ_1 := if_f c30 hqJ_1
          cases hqJ_1
          exact J_1 _ _ hP hD hS _ (lv_sub hl [0, 1, 2] rfl)
        · replace hqJ_1 := if_t c30 hqJ_1
          refine lv_aload_n hx hb dX1_findRising_33 rfl (lv_at hl 0 rfl) ?_
          refine va_get (D := (dC, dI)) (ci := 1) (v := .int f_t_all_2) (C := RX1) (T := TX1) (N := 7) hx hb hts uX1 hown hK hP 0 rfl rfl 1 (by decide) k2 (fun _ h9 => h9) rfl dX1_findRising_34 ?_
          refine lv_sipush (v := 224) hx hb dX1_findRising_37 (by decide) ?_
          refine lv_icmp_ge (tgt := 69) hx hb dX1_findRising_40 (by decide) (fun c40 => ?_) (fun c40 => ?_)
          · replace hqJ_1 := if_t c40 hqJ_1
            cases hqJ_1
            exact J_1 _ _ hP hD hS _ (lv_sub hl [0, 1, 2] rfl)
          · replace hqJ_1 := if_f c40 hqJ_1
            refine lv_aload_n hx hb dX1_findRising_43 rfl (lv_at hl 0 rfl) ?_
            refine va_get (D := (dC, dI)) (ci := 1) (v := .ref h_t_rising) (C := RX1) (T := TX1) (N := 7) hx hb hts uX1 hown hK hP 0 rfl rfl 2 (by decide) k3 (fun _ h9 => h9) rfl dX1_findRising_44 ?_
            refine lv_aload_n hx hb dX1_findRising_47 rfl (lv_at hl 0 rfl) ?_
            refine va_get (D := (dC, dI)) (ci := 1) (v := .int f_t_all_2) (C := RX1) (T := TX1) (N := 7) hx hb hts uX1 hown hK hP 0 rfl rfl 1 (by decide) k2 (fun _ h9 => h9) rfl dX1_findRising_48 ?_
            refine lv_iload_n hx hb dX1_findRising_51 rfl (lv_at hl 2 rfl) ?_
            obtain ⟨b52, hqJ_1⟩ := ck_go hqJ_1
            refine my_iast (W' := fun z' => [(h_t, .inr (1, [.int f_t_builtSize, .int f_t_all_2, .ref h_t_rising, .ref h_t_sorted, .ref h_t_rows, .ref h_t_starts, .ref h_t_seen])), (h_t_seen, .inr (5, [.ref h_t_seen_bits])), (h_t_rising, .inl (cA, 224, .inl z')), (h_t_seen_bits, .inl (cA, 128, .inl f_t_seen_bits_2))]) hx hb hK hP hD hS 2 0 rfl rfl b52 dX1_findRising_52 (fun _ => rfl) (fun f_t_rising_4 ef_t_rising_4 H locs hP hD hS => ?_)
            replace hqJ_1 := lt_go ef_t_rising_4 hqJ_1
            refine lv_aload_n hx hb dX1_findRising_53 rfl (lv_at hl 0 rfl) ?_
            refine lv_dup hx hb dX1_findRising_54 rfl ?_
            refine va_get (D := (dC, dI)) (ci := 1) (v := .int f_t_all_2) (C := RX1) (T := TX1) (N := 7) hx hb hts uX1 hown hK hP 0 rfl rfl 1 (by decide) k2 (fun _ h9 => h9) rfl dX1_findRising_55 ?_
            refine lv_iconst (v := 1) hx hb dX1_findRising_58 (by decide) ?_
            refine lv_iadd hx hb dX1_findRising_59 ?_
            refine lv_topi (fun f_t_all_5 ef_t_all_5 => ?_)
            replace hqJ_1 := lt_go ef_t_all_5 hqJ_1
            refine my_put (W' := [(h_t, .inr (1, [.int f_t_builtSize, .int f_t_all_5, .ref h_t_rising, .ref h_t_sorted, .ref h_t_rows, .ref h_t_starts, .ref h_t_seen])), (h_t_seen, .inr (5, [.ref h_t_seen_bits])), (h_t_rising, .inl (cA, 224, .inl f_t_rising_4)), (h_t_seen_bits, .inl (cA, 128, .inl f_t_seen_bits_2))]) (ci := 1) (v := .int f_t_all_5) (ty := .int) (C := RX1) (T := TX1) (N := 7) hx hb hts uX1 tyX1 tyX1_ok nmX1 hown hK hP hD hS 0 rfl rfl 1 (by decide) k2 (fun _ h9 => h9) rfl (by decide +kernel) rfl rfl (Nat.le_of_ble_eq_true rfl) dX1_findRising_60 rfl (fun H locs hP hD hS => ?_)
            refine lv_aload_n hx hb dX1_findRising_63 rfl (lv_at hl 0 rfl) ?_
            refine lv_iload_n hx hb dX1_findRising_64 rfl (lv_at hl 2 rfl) ?_
            refine lv_iload_n hx hb dX1_findRising_65 rfl (lv_at hl 1 rfl) ?_
            obtain ⟨f_t_seen_bits_5, hc66, hqJ_1⟩ := bd1_go hqJ_1
            refine my_cVv (As := [.int v2_2, .int a1]) (rest := []) (WC := [(h_t, .inr (1, [.int f_t_builtSize, .int f_t_all_5, .ref h_t_rising, .ref h_t_sorted, .ref h_t_rows, .ref h_t_starts, .ref h_t_seen])), (h_t_seen, .inr (5, [.ref h_t_seen_bits])), (h_t_seen_bits, .inl (cA, 128, .inl f_t_seen_bits_2))]) (WC' := [(h_t, .inr (1, [.int f_t_builtSize, .int f_t_all_5, .ref h_t_rising, .ref h_t_sorted, .ref h_t_rows, .ref h_t_starts, .ref h_t_seen])), (h_t_seen, .inr (5, [.ref h_t_seen_bits])), (h_t_seen_bits, .inl (cA, 128, .inl f_t_seen_bits_5))]) (WR := [(h_t_rising, .inl (cA, 224, .inl f_t_rising_4))]) (W' := [(h_t, .inr (1, [.int f_t_builtSize, .int f_t_all_5, .ref h_t_rising, .ref h_t_sorted, .ref h_t_rows, .ref h_t_starts, .ref h_t_seen])), (h_t_seen, .inr (5, [.ref h_t_seen_bits])), (h_t_rising, .inl (cA, 224, .inl f_t_rising_4)), (h_t_seen_bits, .inl (cA, 128, .inl f_t_seen_bits_5))]) ⟨hx, hb, hml, hown, hts⟩ hK hP hD hS hA (c_Forms_addImages l dC dI cA fu h_t h_t_seen h_t_rising h_t_sorted h_t_rows h_t_starts h_t_seen_bits f_t_builtSize f_t_all_5 f_t_seen_bits_2 v2_2 a1 f_t_seen_bits_5 hc66) (cwV 2 hts gX1_findRising_X1_addImages rfl rfl rfl (by decide +kernel) ⟨Nat.le_of_ble_eq_true rfl, Nat.le_of_ble_eq_true rfl⟩) [0, 1, 3] [2] [1, 2, 0, 3] rfl rfl rfl rfl (ci := 1) (q0 := 0) rfl rfl rfl rfl hl.1 (Nat.le_of_ble_eq_true rfl) dX1_findRising_66 ⟨Nat.zero_le _, Nat.zero_le _⟩ (fun H locs hP hD hS => ?_)
            cases hqJ_1
            exact J_1 _ _ hP hD hS _ (lv_sub hl [0, 1, 2] rfl)
  obtain ⟨f_t_all_6, f_t_rising_5, f_t_seen_bits_6, hl14, hm⟩ := bd3_go hm
  refine L14 _ _ _ _ _ _ _ _ hl14 _ _ hP hD hS _ (lv_sub hl [1, 2, 0] rfl) (fun H locs hP hD hS ls hl => ?_)
  cases hm
  exact W_mono hQ (W.vret hx hb hr (fun t ht hW => ⟨⟨(), rfl, trivial, by rw [ht]; exact hP, va_K.moved hW.alike hK, hD⟩, hS.F ht⟩) hS.2.2 dX1_findRising_75)
abbrev rmX3_pairsApart : Room := { frames := 2, cells := 0, slots := 0, locals := 42 }
set_option maxHeartbeats 40000000 in
set_option maxRecDepth 100000 in
theorem c_Ring_pairsApart (l : Launch) (dC : Nat → ClassId) (dI : Nat → Nat → Nat) (cA : ClassId) (a0 : Int32) (a1 : Int32) (a2 : Int32) (r0 : Int32) (hm : m_Ring_pairsApart a0 a1 a2 = some r0) (sz : Nat) : Met l yX3_pairsApart wsX3_pairsApart rmX3_pairsApart (mPre (dC, dI) cA [.int a0, .int a1, .int a2] sz []) (mPosI (dC, dI) cA r0 (va_A [] sz) []) 0 0 (va_A [] sz) := by
  refine Met.ofW (cc := cX3_pairsApart) (maxL := 4) (ret := (some .int)) (by decide) rfl ?_
  intro p e s m args below meth c s₁ B hml hv
  obtain ⟨rfl, hsz, hP, hK, hD0⟩ := hv
  refine W_gen (fun Q hQ => ?_)
  have hx := B.exec
  have hb := B.bytes
  have hr := B.returns
  have hts := atoms_spec (ws := wsX3_pairsApart) B.pre
  have hown : s.vm.findClass RX3 = some m.cls := findClass_of_methodNamed B.named
  have hlocks := B.notSynchronized
  subst hsz
  have hD := hD0.self (sz := s.heap.size)
  clear hD0
  generalize hAe : va_A [] s.heap.size = A at hD hQ
  have hA : ∀ q : Nat, s.heap.size ≤ q → A q := fun q h => by rw [← hAe]; exact Or.inr h
  clear hAe
  have hS : va_S A s.heap s.heap [] := va_S.rf
  have hl := lv_entry ([.int a0, .int a1, .int a2]) (n := 4) (Nat.le_of_ble_eq_true rfl)
  rw [lg_entry_eq]
  generalize (lg_sl ([.int a0, .int a1, .int a2]) ++ List.replicate (4 - (lg_sl ([.int a0, .int a1, .int a2])).length) Slot.unset).toArray = ls at hl ⊢
  have hl : lv_has ls 4 [(0, .int a0), (1, .int a1), (2, .int a2)] := hl
  unfold m_Ring_pairsApart at hm
  refine lv_iload_n hx hb dX3_pairsApart_0 rfl (lv_at hl 0 rfl) ?_
  refine lv_iload_n hx hb dX3_pairsApart_1 rfl (lv_at hl 0 rfl) ?_
  refine lv_iload_n hx hb dX3_pairsApart_2 rfl (lv_at hl 1 rfl) ?_
  refine lv_iload_n hx hb dX3_pairsApart_3 rfl (lv_at hl 2 rfl) ?_
  obtain ⟨r_1, hc4, hm⟩ := bd1_go hm
  refine my_cSi (As := [.int a0, .int a1, .int a2]) (rest := [.int a0]) (WC := []) (WC' := []) (WR := []) (W' := []) ⟨hx, hb, hml, hown, hts⟩ hK hP hD hS hA (c_Ring_turned l dC dI cA a0 a1 a2 r_1 hc4) (va_cwS 3 hts gX3_pairsApart_X3_turned rfl rfl rfl (by decide +kernel) ⟨Nat.le_of_ble_eq_true rfl, Nat.le_of_ble_eq_true rfl⟩) [] [] [] rfl rfl rfl rfl rfl rfl hl.1 (Nat.le_of_ble_eq_true rfl) dX3_pairsApart_4 ⟨Nat.zero_le _, Nat.zero_le _⟩ (fun H locs hP hD hS => ?_)
  refine lv_iand hx hb dX3_pairsApart_7 ?_
  obtain ⟨r_2, hc8, hm⟩ := bd1_go hm
  refine my_cSi (As := [.int (a0 &&& r_1)]) (rest := []) (WC := []) (WC' := []) (WR := []) (W' := []) ⟨hx, hb, hml, hown, hts⟩ hK hP hD hS hA (c_Ji_bitCount l dC dI cA (a0 &&& r_1) r_2 hc8) (va_cwS 1 hts gX3_pairsApart_J6_bitCount_0f7a4 rfl rfl rfl (by decide +kernel) ⟨Nat.le_of_ble_eq_true rfl, Nat.le_of_ble_eq_true rfl⟩) [] [] [] rfl rfl rfl rfl rfl rfl hl.1 (Nat.le_of_ble_eq_true rfl) dX3_pairsApart_8 ⟨Nat.zero_le _, Nat.zero_le _⟩ (fun H locs hP hD hS => ?_)
  refine lv_topi (fun v3_1 ev3_1 => ?_)
  replace hm := lt_go ev3_1 hm
  refine lv_istore_n (lv' := [(3, .int v3_1), (0, .int a0), (1, .int a1), (2, .int a2)]) hx hb dX3_pairsApart_11 rfl hl (by decide) rfl (fun ls hl => ?_)
  refine lv_iconst (v := 2) hx hb dX3_pairsApart_12 (by decide) ?_
  refine lv_iload_n hx hb dX3_pairsApart_13 rfl (lv_at hl 2 rfl) ?_
  refine lv_imul hx hb dX3_pairsApart_14 ?_
  refine lv_iload_n hx hb dX3_pairsApart_15 rfl (lv_at hl 3 rfl) ?_
  refine lv_icmp_ne (tgt := 25) hx hb dX3_pairsApart_16 (by decide) (fun c16 => ?_) (fun c16 => ?_)
  · replace hm := if_f c16 hm
    refine lv_iload_n hx hb dX3_pairsApart_25 rfl (lv_at hl 0 rfl) ?_
    cases hm
    exact W_mono hQ (W.iret hx hb hr (fun t ht hW => ⟨⟨_, (), rfl, rfl, by rw [ht]; exact hP, va_K.moved hW.alike hK, hD⟩, hS.F ht⟩) hS.2.2 dX3_pairsApart_26)
  · replace hm := if_t c16 hm
    refine lv_iload_n hx hb dX3_pairsApart_19 rfl (lv_at hl 0 rfl) ?_
    refine lv_iconst (v := 2) hx hb dX3_pairsApart_20 (by decide) ?_
    refine lv_idiv hx hb dX3_pairsApart_21 (by decide) ?_
    refine lv_goto (tgt := 26) hx hb dX3_pairsApart_22 (by decide) ?_
    cases hm
    exact W_mono hQ (W.iret hx hb hr (fun t ht hW => ⟨⟨_, (), rfl, rfl, by rw [ht]; exact hP, va_K.moved hW.alike hK, hD⟩, hS.F ht⟩) hS.2.2 dX3_pairsApart_26)
abbrev rmX3_intervalRow : Room := { frames := 3, cells := 0, slots := 0, locals := 65 }
set_option maxHeartbeats 40000000 in
set_option maxRecDepth 100000 in
theorem c_Ring_intervalRow (l : Launch) (dC : Nat → ClassId) (dI : Nat → Nat → Nat) (cA : ClassId) (fu : Nat) (a0 : Int32) (a1 : Int32) (r0 : Int32) (hm : m_Ring_intervalRow fu a0 a1 = some r0) (sz : Nat) : Met l yX3_intervalRow wsX3_intervalRow rmX3_intervalRow (mPre (dC, dI) cA [.int a0, .int a1] sz []) (mPosI (dC, dI) cA r0 (va_A [] sz) []) 0 0 (va_A [] sz) := by
  refine Met.ofW (cc := cX3_intervalRow) (maxL := 4) (ret := (some .int)) (by decide) rfl ?_
  intro p e s m args below meth c s₁ B hml hv
  obtain ⟨rfl, hsz, hP, hK, hD0⟩ := hv
  refine W_gen (fun Q hQ => ?_)
  have hx := B.exec
  have hb := B.bytes
  have hr := B.returns
  have hts := atoms_spec (ws := wsX3_intervalRow) B.pre
  have hown : s.vm.findClass RX3 = some m.cls := findClass_of_methodNamed B.named
  have hlocks := B.notSynchronized
  subst hsz
  have hD := hD0.self (sz := s.heap.size)
  clear hD0
  generalize hAe : va_A [] s.heap.size = A at hD hQ
  have hA : ∀ q : Nat, s.heap.size ≤ q → A q := fun q h => by rw [← hAe]; exact Or.inr h
  clear hAe
  have hS : va_S A s.heap s.heap [] := va_S.rf
  have hl := lv_entry ([.int a0, .int a1]) (n := 4) (Nat.le_of_ble_eq_true rfl)
  rw [lg_entry_eq]
  generalize (lg_sl ([.int a0, .int a1]) ++ List.replicate (4 - (lg_sl ([.int a0, .int a1])).length) Slot.unset).toArray = ls at hl ⊢
  have hl : lv_has ls 4 [(0, .int a0), (1, .int a1)] := hl
  unfold m_Ring_intervalRow at hm
  refine lv_iconst (v := 0) hx hb dX3_intervalRow_0 (by decide) ?_
  refine lv_topi (fun v2_1 ev2_1 => ?_)
  replace hm := lt_go ev2_1 hm
  refine lv_istore_n (lv' := [(2, .int v2_1), (0, .int a0), (1, .int a1)]) hx hb dX3_intervalRow_1 rfl hl (by decide) rfl (fun ls hl => ?_)
  refine lv_iconst (v := 1) hx hb dX3_intervalRow_2 (by decide) ?_
  refine lv_topi (fun v3_1 ev3_1 => ?_)
  replace hm := lt_go ev3_1 hm
  refine lv_istore_n (lv' := [(3, .int v3_1), (2, .int v2_1), (0, .int a0), (1, .int a1)]) hx hb dX3_intervalRow_3 rfl hl (by decide) rfl (fun ls hl => ?_)
  have L4 : ∀ (n : Nat) (v2_2 : Int32) (v3_2 : Int32) (v2_3 : Int32), m_Ring_intervalRow_L4 a1 a0 n v2_2 v3_2 = some v2_3 → ∀ (H : Heap) (locs : List Loc), va_P (dC, dI) vwCl [] H → va_D A [] → va_S A s.heap H locs → ∀ ls : Array Slot, lv_has ls 4 [(0, .int a0), (1, .int a1), (2, .int v2_2), (3, .int v3_2)] → (∀ (H : Heap) (locs : List Loc), va_P (dC, dI) vwCl [] H → va_D A [] → va_S A s.heap H locs → ∀ ls : Array Slot, lv_has ls 4 [(2, .int v2_3)] → W p l e (headSpec wsX3_intervalRow rmX3_intervalRow).room s m (([.int a0, .int a1] : List Value).toArray) below meth c H locs 0 0 Q (F0 m 29 ls [])) → W p l e (headSpec wsX3_intervalRow rmX3_intervalRow).room s m (([.int a0, .int a1] : List Value).toArray) below meth c H locs 0 0 Q (F0 m 4 ls []) := by
    clear hm hP hD hS hl
    intro n
    induction n with
    | zero => intro _ _ _ hm; exact nomatch (show none = some _ from hm)
    | succ n ih =>
      intro v2_2 v3_2 v2_3 hm H locs hP hD hS ls hl KK
      unfold m_Ring_intervalRow_L4 at hm
      refine lv_iload_n hx hb dX3_intervalRow_4 rfl (lv_at hl 3 rfl) ?_
      refine lv_iload_n hx hb dX3_intervalRow_5 rfl (lv_at hl 1 rfl) ?_
      refine lv_iconst (v := 2) hx hb dX3_intervalRow_6 (by decide) ?_
      refine lv_idiv hx hb dX3_intervalRow_7 (by decide) ?_
      refine lv_icmp_gt (tgt := 29) hx hb dX3_intervalRow_8 (by decide) (fun c8 => ?_) (fun c8 => ?_)
      · replace hm := if_t c8 hm
        cases hm
        exact KK _ _ hP hD hS _ (lv_sub hl [2] rfl)
      · replace hm := if_f c8 hm
        refine lv_iload_n hx hb dX3_intervalRow_11 rfl (lv_at hl 2 rfl) ?_
        refine lv_bipush (v := 16) hx hb dX3_intervalRow_12 (by decide) ?_
        refine lv_imul hx hb dX3_intervalRow_14 ?_
        refine lv_iload_n hx hb dX3_intervalRow_15 rfl (lv_at hl 0 rfl) ?_
        refine lv_iload_n hx hb dX3_intervalRow_16 rfl (lv_at hl 3 rfl) ?_
        refine lv_iload_n hx hb dX3_intervalRow_17 rfl (lv_at hl 1 rfl) ?_
        obtain ⟨r_1, hc18, hm⟩ := bd1_go hm
        refine my_cSi (As := [.int a0, .int v3_2, .int a1]) (rest := [.int (v2_2 * 16)]) (WC := []) (WC' := []) (WR := []) (W' := []) ⟨hx, hb, hml, hown, hts⟩ hK hP hD hS hA (c_Ring_pairsApart l dC dI cA a0 v3_2 a1 r_1 hc18) (va_cwS 3 hts gX3_intervalRow_X3_pairsApart rfl rfl rfl (by decide +kernel) ⟨Nat.le_of_ble_eq_true rfl, Nat.le_of_ble_eq_true rfl⟩) [] [] [] rfl rfl rfl rfl rfl rfl hl.1 (Nat.le_of_ble_eq_true rfl) dX3_intervalRow_18 ⟨Nat.zero_le _, Nat.zero_le _⟩ (fun H locs hP hD hS => ?_)
        refine lv_iadd hx hb dX3_intervalRow_21 ?_
        refine lv_topi (fun v2_4 ev2_4 => ?_)
        replace hm := lt_go ev2_4 hm
        refine lv_istore_n (lv' := [(2, .int v2_4), (0, .int a0), (1, .int a1), (3, .int v3_2)]) hx hb dX3_intervalRow_22 rfl hl (by decide) rfl (fun ls hl => ?_)
        obtain ⟨v3_3, ev3_3⟩ : ∃ z : Int32, z = v3_2 + 1 := ⟨_, rfl⟩
        replace hm := lt_go ev3_3 hm
        refine lv_iinc (v := v3_3) (lv' := [(3, .int v3_3), (2, .int v2_4), (0, .int a0), (1, .int a1)]) hx hb dX3_intervalRow_23 hl (k := 3) rfl (by rw [ev3_3]; rfl) (by decide) rfl (fun ls hl => ?_)
        refine lv_goto (tgt := 4) hx hb dX3_intervalRow_26 (by decide) ?_
        exact ih _ _ _ hm _ _ hP hD hS _ (lv_sub hl [2, 3, 1, 0] rfl) KK
  obtain ⟨v2_5, hl4, hm⟩ := bd1_go hm
  refine L4 _ _ _ _ hl4 _ _ hP hD hS _ (lv_sub hl [2, 3, 1, 0] rfl) (fun H locs hP hD hS ls hl => ?_)
  refine lv_iload_n hx hb dX3_intervalRow_29 rfl (lv_at hl 0 rfl) ?_
  cases hm
  exact W_mono hQ (W.iret hx hb hr (fun t ht hW => ⟨⟨_, (), rfl, rfl, by rw [ht]; exact hP, va_K.moved hW.alike hK, hD⟩, hS.F ht⟩) hS.2.2 dX3_intervalRow_30)
