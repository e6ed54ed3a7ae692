/-! the maps of the ring are a group; counts go along with them -/
def cmpR (M a b : Nat) : Nat := if a < M then (if b < M then (a + b) % M else M + (a + (b - M)) % M) else (if b < M then M + (a - M + M - b) % M else (a - M + M - (b - M)) % M)
def invR (M a : Nat) : Nat := if a < M then (M - a) % M else a
set_option maxRecDepth 100000 in
theorem rot_cmp0 : ringB (fun M => allB (fun a => allB (fun b => allB (fun j => decide (rot M a (rot M b j) = rot M (cmpR M a b) j)) M) (2 * M)) (2 * M)) = true := by decide +kernel
set_option maxRecDepth 100000 in
theorem cmp_lt0 : ringB (fun M => allB (fun a => allB (fun b => decide (cmpR M a b < 2 * M ∧ cmpR M (invR M a) (cmpR M a b) = b ∧ cmpR M a (cmpR M (invR M a) b) = b ∧ invR M a < 2 * M ∧ cmpR M (invR M a) a = 0)) (2 * M)) (2 * M)) = true := by decide +kernel
theorem rot_cmp {M a b j : Nat} (hM : inM M) (ha : a < 2 * M) (hb : b < 2 * M) (hj : j < M) : rot M a (rot M b j) = rot M (cmpR M a b) j :=
  of_decide_eq_true (allB_spec (allB_spec (allB_spec (ringB_spec rot_cmp0 hM) a ha) b hb) j hj)
theorem cmp_all {M a b : Nat} (hM : inM M) (ha : a < 2 * M) (hb : b < 2 * M) : cmpR M a b < 2 * M ∧ cmpR M (invR M a) (cmpR M a b) = b ∧ cmpR M a (cmpR M (invR M a) b) = b ∧ invR M a < 2 * M ∧ cmpR M (invR M a) a = 0 :=
  of_decide_eq_true (allB_spec (allB_spec (ringB_spec cmp_lt0 hM) a ha) b hb)
theorem img_comp {M s a b : Nat} (hM : inM M) (ha : a < 2 * M) (hb : b < 2 * M) : img M (img M s b) a = img M s (cmpR M a b) := by
  have h5 := hM.1
  unfold img
  rw [acc_comp _ _ _ _ _ (fun k _ => rot_lt (by omega))]
  exact acc_congr (fun k hk => rot_cmp hM ha hb hk)
theorem img_0 {M s : Nat} (hM : inM M) (hs : s < 2 ^ M) : img M s 0 = s := by
  have h5 := hM.1
  unfold img
  rw [acc_congr (g' := fun k => k) (fun k hk => by rw [rot, if_pos (by omega), Nat.add_zero, Nat.mod_eq_of_lt hk]), acc_id hs]
theorem img_back {M s a : Nat} (hM : inM M) (hs : s < 2 ^ M) (ha : a < 2 * M) : img M (img M s a) (invR M a) = s := by
  have h := cmp_all hM ha ha
  rw [img_comp hM h.2.2.2.1 ha, h.2.2.2.2, img_0 hM hs]
/-- mirrored, then turned -/
theorem img_mir {M s t : Nat} (hM : inM M) (ht : t < M) : img M (img M s M) t = img M s (M + t) := by
  have h5 := hM.1
  rw [img_comp hM (by omega) (by omega)]
  congr 1
  rw [cmpR, if_pos ht, if_neg (by omega), Nat.sub_self, Nat.add_zero, Nat.mod_eq_of_lt ht]
/-! sums and counts -/
theorem sm_swap (f : Nat → Nat → Nat) (n : Nat) : ∀ m, fb_sm (fun j => fb_sm (fun k => f j k) n) m = fb_sm (fun k => fb_sm (fun j => f j k) m) n
  | 0 => by
    show 0 = fb_sm (fun k => 0) n
    rw [fb_sm_const, Nat.mul_zero]
  | m + 1 => by
    rw [fb_sm_succ, sm_swap f n m, ← fb_sm_add]
    exact fb_sm_cong (fun k _ => rfl)
theorem sm_one {g : Nat → Nat} {c : Nat} : ∀ {n : Nat}, c < n → fb_sm (fun j => if c = j then g j else 0) n = g c
  | 0, h => absurd h (Nat.not_lt_zero c)
  | n + 1, h => by
    rw [fb_sm_succ]
    by_cases e : c = n
    · subst e
      rw [if_pos rfl]
      have : fb_sm (fun j => if c = j then g j else 0) c = fb_sm (fun _ => 0) c := fb_sm_cong (fun k hk => if_neg (by omega))
      rw [this, fb_sm_const, Nat.mul_zero, Nat.zero_add]
    · rw [if_neg e, Nat.add_zero, sm_one (by omega)]
theorem ct_sm (p : Nat → Bool) : ∀ n, fb_ct p n = fb_sm (fun k => if p k then 1 else 0) n
  | 0 => rfl
  | n + 1 => by rw [fb_ct_succ, fb_sm_succ, ct_sm p n]
/-- a sum goes along with a map of its places that has an inverse -/
theorem sm_perm {f : Nat → Nat} {n : Nat} {σ τ : Nat → Nat} (h1 : ∀ k, k < n → σ k < n ∧ τ (σ k) = k) (h2 : ∀ k, k < n → τ k < n ∧ σ (τ k) = k) : fb_sm (fun k => f (σ k)) n = fb_sm f n := by
  have e1 : fb_sm (fun k => f (σ k)) n = fb_sm (fun k => fb_sm (fun j => if σ k = j then f j else 0) n) n :=
    fb_sm_cong (fun k hk => (sm_one (h1 k hk).1).symm)
  rw [e1, sm_swap]
  refine fb_sm_cong (fun j hj => ?_)
  have e2 : fb_sm (fun k => if σ k = j then f j else 0) n = fb_sm (fun k => if τ j = k then (fun _ => f j) k else 0) n := by
    refine fb_sm_cong (fun k hk => ?_)
    by_cases c : σ k = j
    · rw [if_pos c, if_pos (by rw [← c]; exact (h1 k hk).2)]
    · rw [if_neg c, if_neg (fun e => c (by rw [← e]; exact (h2 j hj).2))]
  rw [e2, sm_one (h2 j hj).1]
theorem ct_perm {p : Nat → Bool} {n : Nat} {σ τ : Nat → Nat} (h1 : ∀ k, k < n → σ k < n ∧ τ (σ k) = k) (h2 : ∀ k, k < n → τ k < n ∧ σ (τ k) = k) : fb_ct (fun k => p (σ k)) n = fb_ct p n := by
  rw [ct_sm, ct_sm]
  exact sm_perm (f := fun k => if p k then 1 else 0) h1 h2
/-- how many tones -/
def pop (n s : Nat) : Nat := fb_ct (fun k => s.testBit k) n
theorem img_bit {M s a j : Nat} (hM : inM M) (ha : a < 2 * M) (hj : j < M) : (img M s a).testBit (rot M a j) = s.testBit j := by
  rw [Bool.eq_iff_iff, img, acc_bit]
  constructor
  · rintro ⟨k, h1, h2, h3⟩
    have e : rot M (invR M a) (rot M a k) = rot M (invR M a) (rot M a j) := by rw [h3]
    have h := cmp_all hM ha ha
    have h5 := hM.1
    rw [rot_cmp hM h.2.2.2.1 ha h1, rot_cmp hM h.2.2.2.1 ha hj, h.2.2.2.2, rot, rot, if_pos (by omega), if_pos (by omega), Nat.add_zero, Nat.add_zero, Nat.mod_eq_of_lt h1, Nat.mod_eq_of_lt hj] at e
    rw [← e]; exact h2
  · intro h
    exact ⟨j, hj, h, rfl⟩
theorem rot_inv {M a j : Nat} (hM : inM M) (ha : a < 2 * M) (hj : j < M) : rot M (invR M a) (rot M a j) = j := by
  have h := cmp_all hM ha ha
  have h5 := hM.1
  rw [rot_cmp hM h.2.2.2.1 ha hj, h.2.2.2.2, rot, if_pos (by omega), Nat.add_zero, Nat.mod_eq_of_lt hj]
theorem inv_inv {M a : Nat} (hM : inM M) (ha : a < 2 * M) : invR M (invR M a) = a := by
  have h5 := hM.1
  unfold invR
  by_cases c : a < M
  · rw [if_pos c]
    by_cases z : a = 0
    · subst z; rw [Nat.sub_zero, Nat.mod_self, if_pos (by omega), Nat.sub_zero, Nat.mod_self]
    · rw [Nat.mod_eq_of_lt (a := M - a) (by omega), if_pos (by omega), show M - (M - a) = a by omega, Nat.mod_eq_of_lt c]
  · rw [if_neg c, if_neg c]
theorem pop_img {M s a : Nat} (hM : inM M) (ha : a < 2 * M) : pop M (img M s a) = pop M s := by
  have h5 := hM.1
  have h := cmp_all hM ha ha
  unfold pop
  rw [← ct_perm (σ := rot M a) (τ := rot M (invR M a)) (fun k hk => ⟨rot_lt (by omega), rot_inv hM ha hk⟩) (fun k hk => ⟨rot_lt (by omega), by
    have := rot_inv hM h.2.2.2.1 hk
    rw [inv_inv hM ha] at this
    exact this⟩)]
  exact fb_ct_cong (fun k hk => img_bit hM ha hk)
/-- each set of an orbit comes as often as the first -/
theorem orbit_ct {M s x : Nat} (hM : inM M) (hs : s < 2 ^ M) {j : Nat} (hj : j < 2 * M) (hx : img M s j = x) : fb_ct (fun k => decide (img M s k = x)) (2 * M) = fb_ct (fun k => decide (img M s k = s)) (2 * M) := by
  have hq := cmp_all hM hj hj
  have hi := hq.2.2.2.1
  rw [← ct_perm (p := fun k => decide (img M s k = x)) (σ := cmpR M j) (τ := cmpR M (invR M j)) (fun k hk => ⟨(cmp_all hM hj hk).1, (cmp_all hM hj hk).2.1⟩) (fun k hk => ⟨(cmp_all hM hi hk).1, (cmp_all hM hj hk).2.2.1⟩)]
  refine fb_ct_cong (fun k hk => ?_)
  rw [decide_eq_decide, ← img_comp hM hj hk, ← hx]
  constructor
  · intro e
    have := congrArg (fun z => img M z (invR M j)) e
    rw [img_back hM (img_lt (by have := hM.1; omega)) hj, img_back hM hs hj] at this
    exact this
  · intro e
    rw [e]
