section
theorem pk_us {f : Nat → Int32} {k : Nat} {x : Int32} : upd f k x k = x := if_pos rfl
theorem pk_un {f : Nat → Int32} {k j : Nat} {x : Int32} (h : j ≠ k) : upd f k x j = f j := if_neg h
theorem pk_tn {n : Nat} (h : n < 2 ^ 32) : (nI n).toBitVec.toNat = n := Nat.mod_eq_of_lt h
theorem pk_and (x : Int32) {m : Int32} (k : Nat) (hm : m.toBitVec.toNat = 2 ^ k - 1) : x &&& m = nI (x.toBitVec.toNat % 2 ^ k) := by
  apply Int32.toBitVec_inj.mp
  apply BitVec.eq_of_toNat_eq
  rw [Int32.toBitVec_and, BitVec.toNat_and, hm, Nat.and_two_pow_sub_one_eq_mod]
  show _ = (BitVec.ofNat 32 _).toNat
  rw [BitVec.toNat_ofNat]
  exact (Nat.mod_eq_of_lt (Nat.lt_of_le_of_lt (Nat.mod_le _ _) x.toBitVec.isLt)).symm
theorem pk_andN {n : Nat} (h : n < 2 ^ 32) {m : Int32} (k : Nat) (hm : m.toBitVec.toNat = 2 ^ k - 1) : nI n &&& m = nI (n % 2 ^ k) := by
  rw [pk_and _ k hm, pk_tn h]
theorem pk_andE (x : Int32) {m : Int32} (k : Nat) (hm : m.toBitVec.toNat = 2 ^ k - 1) : ∃ j : Nat, j < 2 ^ k ∧ x &&& m = nI j := ⟨_, Nat.mod_lt _ (Nat.two_pow_pos k), pk_and x k hm⟩
theorem pk_andIn (x : Int32) {m : Int32} (k : Nat) (hm : m.toBitVec.toNat = 2 ^ k - 1) (hk : k ≤ 30) : vp_in (x &&& m) (2 ^ k) := by
  obtain ⟨j, hj, e⟩ := pk_andE x k hm
  rw [e]
  exact vp_in_nI hj (Nat.lt_of_le_of_lt (Nat.pow_le_pow_right (by decide) hk) (by decide))
/-- every cell holds a short -/
def ap_R (a : Nat → Int32) : Prop := ∀ j, -32768 ≤ (a j).toInt ∧ (a j).toInt < 32768
theorem ap_z : -32768 ≤ (0 : Int32).toInt ∧ (0 : Int32).toInt < 32768 := by decide
theorem ap_R0 : ap_R (fun _ => 0) := fun _ => ap_z
theorem ap_nar (x : Int32) : -32768 ≤ (vp_nar .short x).toInt ∧ (vp_nar .short x).toInt < 32768 := by
  rw [vp_nar_short]; exact lw_i16_r x
theorem ap_Ru {a : Nat → Int32} (h : ap_R a) (k : Nat) (x : Int32) : ap_R (upd a k (vp_nar .short x)) := by
  intro j
  by_cases e : j = k
  · rw [e, pk_us]; exact ap_nar x
  · rw [pk_un e]; exact h j
/-- the mask of 31 lies within the ring -/
theorem ap_in (x : Int32) : vp_in (x &&& 31) 32 := pk_andIn x 5 (by decide) (by decide)
/-- the head stays below 32 -/
theorem ap_hd (x : Int32) : ∃ h : Nat, h < 32 ∧ x &&& 31 = nI h := pk_andE x 5 (by decide)
theorem ap_hm {h : Nat} (hh : h < 32) : nI h &&& 31 = nI h := by
  rw [pk_andN (by omega) 5 (by decide), Nat.mod_eq_of_lt hh]
/-- the sign of the difference of two shorts -/
theorem ap_le {a b : Int32} (ha : -32768 ≤ a.toInt ∧ a.toInt < 32768) (hb : -32768 ≤ b.toInt ∧ b.toInt < 32768) : 0 ≤ a - b ↔ b ≤ a := by
  have e : (a - b).toInt = a.toInt - b.toInt := by
    rw [Int32.toInt_sub]; exact Int.bmod_eq_of_le (by omega) (by omega)
  rw [Int32.le_iff_toInt_le, Int32.le_iff_toInt_le, e, show (0 : Int32).toInt = 0 from by decide]
  omega
end
section
/-- the two sums of differences, from one turn of the loop on: one answer, whatever is asked of it -/
theorem ap_scan (g h : Int32) (a : Nat → Int32) (ha : ap_R a) : ∀ d j : Nat, j + d = 17 → ∀ s : Int32, ∃ r : Int32, (∀ post : Int32 → Prop, post r → wX_scoreAt_17 post g h a (d + 1) s (nI j)) ∧ (∀ post : Int32 → Prop, post r → wY_scoreAt_17 post g h a (d + 1) s (nI j)) := by
  intro d
  induction d with
  | zero =>
    intro j hj s
    have c : (16 : Int32) < nI j := nI_lt (a := 16) (by omega) (by omega)
    exact ⟨s, fun _ hp => br_t c hp, fun _ hp => br_t c hp⟩
  | succ d ih =>
    intro j hj s
    have c : ¬ (16 : Int32) < nI j := nI_nlt (a := 16) (by omega) (by decide)
    have i1 := ap_in (h - nI j)
    have i2 := ap_in (h - nI j - g)
    have l := ap_le (ha ((h - nI j) &&& 31).toNatClampNeg) (ha ((h - nI j - g) &&& 31).toNatClampNeg)
    by_cases z : a ((h - nI j - g) &&& 31).toNatClampNeg ≤ a ((h - nI j) &&& 31).toNatClampNeg
    · obtain ⟨r, hX, hY⟩ := ih (j + 1) (by omega) (s + (a ((h - nI j) &&& 31).toNatClampNeg - a ((h - nI j - g) &&& 31).toNatClampNeg))
      refine ⟨r, fun post hp => br_f c ⟨i1, fun x4 e4 => ⟨i2, fun x5 e5 => ?_⟩⟩, fun post hp => br_f c ⟨i1, i2, fun x4 e4 => ?_⟩⟩
      · subst e4 e5
        refine br_t z fun x2 e2 x3 e3 => ?_
        rw [e2, e3, nI_1 j]
        exact hX post hp
      · subst e4
        refine br_t (l.mpr z) fun x2 e2 x3 e3 => ?_
        rw [e2, e3, nI_1 j]
        exact hY post hp
    · obtain ⟨r, hX, hY⟩ := ih (j + 1) (by omega) (s + (a ((h - nI j - g) &&& 31).toNatClampNeg - a ((h - nI j) &&& 31).toNatClampNeg))
      refine ⟨r, fun post hp => br_f c ⟨i1, fun x4 e4 => ⟨i2, fun x5 e5 => ?_⟩⟩, fun post hp => br_f c ⟨i1, i2, fun x4 e4 => ?_⟩⟩
      · subst e4 e5
        refine br_f z fun x2 e2 x3 e3 => ?_
        rw [e2, e3, nI_1 j]
        exact hX post hp
      · subst e4
        refine br_f (fun y => z (l.mp y)) fun x2 e2 x3 e3 => ?_
        rw [e2, e3, nI_1 j, Int32.neg_sub]
        exact hY post hp
/-- scoreAt: one answer on both sides, whatever is asked of it -/
theorem ap_score (h : Int32) (a : Nat → Int32) (ha : ap_R a) (g : Int32) : ∃ r : Int32, (∀ post : Int32 → Prop, post r → wpX_scoreAt post (h, a) g) ∧ (∀ post : Int32 → Prop, post r → wpY_scoreAt post (h, a) g) := by
  by_cases c2 : g < 2
  · exact ⟨-1, fun _ hp => br_t c2 hp, fun _ hp => br_t c2 hp⟩
  · by_cases c15 : g ≤ 15
    · obtain ⟨r, hX, hY⟩ := ap_scan g h a ha 16 1 rfl 0
      exact ⟨r, fun post hp => br_f c2 (br_t c15 ⟨17, hX post hp⟩), fun post hp => br_f c2 (br_t c15 ⟨17, hY post hp⟩)⟩
    · exact ⟨-1, fun _ hp => br_f c2 (br_f c15 hp), fun _ hp => br_f c2 (br_f c15 hp)⟩
end
section
/-- the two searches, from one lag on: one answer, whatever is asked of it -/
theorem ap_best (h : Int32) (a : Nat → Int32) (ha : ap_R a) : ∀ d j : Nat, j + d = 16 → ∀ b l : Int32, ∃ r : Int32, (∀ post : Int32 → Prop, post r → wX_bestLag_10 post h a (d + 1) b l (nI j)) ∧ (∀ post : Int32 → Prop, post r → wY_bestLag_10 post h a (d + 1) b l (nI j)) := by
  intro d
  induction d with
  | zero =>
    intro j hj b l
    have c : (15 : Int32) < nI j := nI_lt (a := 15) (by omega) (by omega)
    exact ⟨b, fun _ hp => br_t c hp, fun _ hp => br_t c hp⟩
  | succ d ih =>
    intro j hj b l
    have c : ¬ (15 : Int32) < nI j := nI_nlt (a := 15) (by omega) (by decide)
    obtain ⟨s, sX, sY⟩ := ap_score h a ha (nI j)
    by_cases z : l ≤ s
    · obtain ⟨r, hX, hY⟩ := ih (j + 1) (by omega) b l
      refine ⟨r, fun post hp => br_f c (sX _ (br_t z fun x e => ?_)), fun post hp => br_f c (sY _ (br_t z fun x e => ?_))⟩
      · rw [e, nI_1 j]
        exact hX post hp
      · rw [e, nI_1 j]
        exact hY post hp
    · obtain ⟨r, hX, hY⟩ := ih (j + 1) (by omega) (nI j) s
      refine ⟨r, fun post hp => br_f c (sX _ (br_f z fun x e => ?_)), fun post hp => br_f c (sY _ (br_f z fun x e => ?_))⟩
      · rw [e, nI_1 j]
        exact hX post hp
      · rw [e, nI_1 j]
        exact hY post hp
/-- bestLag: one answer on both sides, whatever is asked of it -/
theorem ap_lag (h : Int32) (a : Nat → Int32) (ha : ap_R a) : ∃ r : Int32, (∀ post : Int32 → Prop, post r → wpX_bestLag post (h, a)) ∧ (∀ post : Int32 → Prop, post r → wpY_bestLag post (h, a)) := by
  obtain ⟨s, sX, sY⟩ := ap_score h a ha 2
  obtain ⟨r, hX, hY⟩ := ap_best h a ha 13 3 rfl 2 s
  refine ⟨r, fun post hp => ?_, fun post hp => ?_⟩
  · unfold wpX_bestLag
    dsimp only
    exact sX _ ⟨14, hX post hp⟩
  · unfold wpY_bestLag
    dsimp only
    exact sY _ ⟨14, hY post hp⟩
end
section
/-- the two states: the same ring of shorts, the same head below 32 -/
def i_Rel (k : Nat) (u : SX) (v : SY) : Prop := ∃ (h : Nat) (a : Nat → Int32), u = (nI h, a) ∧ v = (nI h, a) ∧ h < 32 ∧ ap_R a
theorem i_up {k : Nat} {u : SX} {v : SY} (h : i_Rel k u v) : i_Rel (k + 2) u v := h
theorem i_vc0 : wpX_init (fun u => wpY_init (fun v => i_Rel 0 u v)) := ⟨0, fun _ => 0, rfl, rfl, by decide, ap_R0⟩
theorem i_vc_push {k : Nat} {u : SX} {v : SY} (I : i_Rel k u v) (hk : k + 2 ≤ 1024) (v1 : Int32) : wpX_push (fun r u' => wpY_push (fun r' v' => r' = r ∧ i_Rel (k + 2) u' v') v (lw_i16 v1)) u (lw_i16 v1) := by
  obtain ⟨h, a, rfl, rfl, hh, ha⟩ := I
  have e := ap_hm hh
  have i1 := ap_in (nI h)
  have i2 : vp_in (nI h) 32 := vp_in_nI hh (by decide)
  refine ⟨i1, fun x2 e2 => ⟨i1, fun a1 ea f ef => ?_⟩⟩
  refine ⟨i2, fun y2 f2 => ⟨i2, fun b1 eb g eg => ⟨?_, ?_⟩⟩⟩
  · rw [f2, e2, e]
  · obtain ⟨m, hm, em⟩ := ap_hd (nI h + 1)
    refine ⟨m, a1, ?_, ?_, hm, ?_⟩
    · rw [ef, em]
    · rw [eg, em, eb, ea, e]
    · rw [ea]
      exact ap_Ru ha _ _
theorem i_vc_scoreAt {k : Nat} {u : SX} {v : SY} (I : i_Rel k u v) (hk : k + 2 ≤ 1024) (v1 : Int32) : wpX_scoreAt (fun r => wpY_scoreAt (fun r' => r' = r ∧ i_Rel (k + 2) u v) v v1) u v1 := by
  obtain ⟨h, a, rfl, rfl, hh, ha⟩ := I
  obtain ⟨r, hX, hY⟩ := ap_score (nI h) a ha v1
  exact hX _ (hY _ ⟨rfl, h, a, rfl, rfl, hh, ha⟩)
theorem i_vc_bestLag {k : Nat} {u : SX} {v : SY} (I : i_Rel k u v) (hk : k + 2 ≤ 1024) : wpX_bestLag (fun r => wpY_bestLag (fun r' => r' = r ∧ i_Rel (k + 2) u v) v) u := by
  obtain ⟨h, a, rfl, rfl, hh, ha⟩ := I
  obtain ⟨r, hX, hY⟩ := ap_lag (nI h) a ha
  exact hX _ (hY _ ⟨rfl, h, a, rfl, rfl, hh, ha⟩)
end
