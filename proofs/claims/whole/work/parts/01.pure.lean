theorem pk_us {f : Nat → Int32} {k : Nat} {x : Int32} : upd f k x k = x := if_pos rfl
theorem pk_un {f : Nat → Int32} {k j : Nat} {x : Int32} (h : j ≠ k) : upd f k x j = f j := if_neg h
theorem pk_tn {n : Nat} (h : n < 2 ^ 32) : (nI n).toBitVec.toNat = n := Nat.mod_eq_of_lt h
theorem pk_and (x : Int32) {m : Int32} (k : Nat) (hm : m.toBitVec.toNat = 2 ^ k - 1) : x &&& m = nI (x.toBitVec.toNat % 2 ^ k) := by
  apply Int32.toBitVec_inj.mp
  apply BitVec.eq_of_toNat_eq
  rw [Int32.toBitVec_and, BitVec.toNat_and, hm, Nat.and_two_pow_sub_one_eq_mod]
  show _ = (BitVec.ofNat 32 _).toNat
  rw [BitVec.toNat_ofNat]
  exact (Nat.mod_eq_of_lt (Nat.lt_of_le_of_lt (Nat.mod_le _ _) x.toBitVec.isLt)).symm
theorem pk_andN {n : Nat} (h : n < 2 ^ 32) {m : Int32} (k : Nat) (hm : m.toBitVec.toNat = 2 ^ k - 1) : nI n &&& m = nI (n % 2 ^ k) := by
  rw [pk_and _ k hm, pk_tn h]
theorem pk_andE (x : Int32) {m : Int32} (k : Nat) (hm : m.toBitVec.toNat = 2 ^ k - 1) : ∃ j : Nat, j < 2 ^ k ∧ x &&& m = nI j := ⟨_, Nat.mod_lt _ (Nat.two_pow_pos k), pk_and x k hm⟩
theorem pk_andIn (x : Int32) {m : Int32} (k : Nat) (hm : m.toBitVec.toNat = 2 ^ k - 1) (hk : k ≤ 30) : vp_in (x &&& m) (2 ^ k) := by
  obtain ⟨j, hj, e⟩ := pk_andE x k hm
  rw [e]
  exact vp_in_nI hj (Nat.lt_of_le_of_lt (Nat.pow_le_pow_right (by decide) hk) (by decide))
/-- every cell holds a short -/
def ap_R (a : Nat → Int32) : Prop := ∀ j, -32768 ≤ (a j).toInt ∧ (a j).toInt < 32768
theorem ap_z : -32768 ≤ (0 : Int32).toInt ∧ (0 : Int32).toInt < 32768 := by decide
theorem ap_R0 : ap_R (fun _ => 0) := fun _ => ap_z
theorem ap_nar (x : Int32) : -32768 ≤ (vp_nar .short x).toInt ∧ (vp_nar .short x).toInt < 32768 := by
  rw [vp_nar_short]; exact lw_i16_r x
theorem ap_Ru {a : Nat → Int32} (h : ap_R a) (k : Nat) (x : Int32) : ap_R (upd a k (vp_nar .short x)) := by
  intro j
  by_cases e : j = k
  · rw [e, pk_us]; exact ap_nar x
  · rw [pk_un e]; exact h j
/-- the mask of 31 lies within the ring -/
theorem ap_in (x : Int32) : vp_in (x &&& 31) 32 := pk_andIn x 5 (by decide) (by decide)
/-- the head stays below 32 -/
theorem ap_hd (x : Int32) : ∃ h : Nat, h < 32 ∧ x &&& 31 = nI h := pk_andE x 5 (by decide)
theorem ap_hm {h : Nat} (hh : h < 32) : nI h &&& 31 = nI h := by
  rw [pk_andN (by omega) 5 (by decide), Nat.mod_eq_of_lt hh]
/-- the sign of the difference of two shorts -/
theorem ap_le {a b : Int32} (ha : -32768 ≤ a.toInt ∧ a.toInt < 32768) (hb : -32768 ≤ b.toInt ∧ b.toInt < 32768) : 0 ≤ a - b ↔ b ≤ a := by
  have e : (a - b).toInt = a.toInt - b.toInt := by
    rw [Int32.toInt_sub]; exact Int.bmod_eq_of_le (by omega) (by omega)
  rw [Int32.le_iff_toInt_le, Int32.le_iff_toInt_le, e, show (0 : Int32).toInt = 0 from by decide]
  omega
