/-- the two sums of differences, from one turn of the loop on: one answer, whatever is asked of it -/
theorem ap_scan (g h : Int32) (a : Nat → Int32) (ha : ap_R a) : ∀ d j : Nat, j + d = 17 → ∀ s : Int32, ∃ r : Int32, (∀ post : Int32 → Prop, post r → wX_scoreAt_17 post g h a (d + 1) s (nI j)) ∧ (∀ post : Int32 → Prop, post r → wY_scoreAt_17 post g h a (d + 1) s (nI j)) := by
  intro d
  induction d with
  | zero =>
    intro j hj s
    have c : (16 : Int32) < nI j := nI_lt (a := 16) (by omega) (by omega)
    exact ⟨s, fun _ hp => br_t c hp, fun _ hp => br_t c hp⟩
  | succ d ih =>
    intro j hj s
    have c : ¬ (16 : Int32) < nI j := nI_nlt (a := 16) (by omega) (by decide)
    have i1 := ap_in (h - nI j)
    have i2 := ap_in (h - nI j - g)
    have l := ap_le (ha ((h - nI j) &&& 31).toNatClampNeg) (ha ((h - nI j - g) &&& 31).toNatClampNeg)
    by_cases z : a ((h - nI j - g) &&& 31).toNatClampNeg ≤ a ((h - nI j) &&& 31).toNatClampNeg
    · obtain ⟨r, hX, hY⟩ := ih (j + 1) (by omega) (s + (a ((h - nI j) &&& 31).toNatClampNeg - a ((h - nI j - g) &&& 31).toNatClampNeg))
      refine ⟨r, fun post hp => br_f c ⟨i1, fun x4 e4 => ⟨i2, fun x5 e5 => ?_⟩⟩, fun post hp => br_f c ⟨i1, i2, fun x4 e4 => ?_⟩⟩
      · subst e4 e5
        refine br_t z fun x2 e2 x3 e3 => ?_
        rw [e2, e3, nI_1 j]
        exact hX post hp
      · subst e4
        refine br_t (l.mpr z) fun x2 e2 x3 e3 => ?_
        rw [e2, e3, nI_1 j]
        exact hY post hp
    · obtain ⟨r, hX, hY⟩ := ih (j + 1) (by omega) (s + (a ((h - nI j - g) &&& 31).toNatClampNeg - a ((h - nI j) &&& 31).toNatClampNeg))
      refine ⟨r, fun post hp => br_f c ⟨i1, fun x4 e4 => ⟨i2, fun x5 e5 => ?_⟩⟩, fun post hp => br_f c ⟨i1, i2, fun x4 e4 => ?_⟩⟩
      · subst e4 e5
        refine br_f z fun x2 e2 x3 e3 => ?_
        rw [e2, e3, nI_1 j]
        exact hX post hp
      · subst e4
        refine br_f (fun y => z (l.mp y)) fun x2 e2 x3 e3 => ?_
        rw [e2, e3, nI_1 j, Int32.neg_sub]
        exact hY post hp
/-- scoreAt: one answer on both sides, whatever is asked of it -/
theorem ap_score (h : Int32) (a : Nat → Int32) (ha : ap_R a) (g : Int32) : ∃ r : Int32, (∀ post : Int32 → Prop, post r → wpX_scoreAt post (h, a) g) ∧ (∀ post : Int32 → Prop, post r → wpY_scoreAt post (h, a) g) := by
  by_cases c2 : g < 2
  · exact ⟨-1, fun _ hp => br_t c2 hp, fun _ hp => br_t c2 hp⟩
  · by_cases c15 : g ≤ 15
    · obtain ⟨r, hX, hY⟩ := ap_scan g h a ha 16 1 rfl 0
      exact ⟨r, fun post hp => br_f c2 (br_t c15 ⟨17, hX post hp⟩), fun post hp => br_f c2 (br_t c15 ⟨17, hY post hp⟩)⟩
    · exact ⟨-1, fun _ hp => br_f c2 (br_f c15 hp), fun _ hp => br_f c2 (br_f c15 hp)⟩
