/-- the two searches, from one lag on: one answer, whatever is asked of it -/
theorem ap_best (h : Int32) (a : Nat → Int32) (ha : ap_R a) : ∀ d j : Nat, j + d = 16 → ∀ b l : Int32, ∃ r : Int32, (∀ post : Int32 → Prop, post r → wX_bestLag_10 post h a (d + 1) b l (nI j)) ∧ (∀ post : Int32 → Prop, post r → wY_bestLag_10 post h a (d + 1) b l (nI j)) := by
  intro d
  induction d with
  | zero =>
    intro j hj b l
    have c : (15 : Int32) < nI j := nI_lt (a := 15) (by omega) (by omega)
    exact ⟨b, fun _ hp => br_t c hp, fun _ hp => br_t c hp⟩
  | succ d ih =>
    intro j hj b l
    have c : ¬ (15 : Int32) < nI j := nI_nlt (a := 15) (by omega) (by decide)
    obtain ⟨s, sX, sY⟩ := ap_score h a ha (nI j)
    by_cases z : l ≤ s
    · obtain ⟨r, hX, hY⟩ := ih (j + 1) (by omega) b l
      refine ⟨r, fun post hp => br_f c (sX _ (br_t z fun x e => ?_)), fun post hp => br_f c (sY _ (br_t z fun x e => ?_))⟩
      · rw [e, nI_1 j]
        exact hX post hp
      · rw [e, nI_1 j]
        exact hY post hp
    · obtain ⟨r, hX, hY⟩ := ih (j + 1) (by omega) (nI j) s
      refine ⟨r, fun post hp => br_f c (sX _ (br_f z fun x e => ?_)), fun post hp => br_f c (sY _ (br_f z fun x e => ?_))⟩
      · rw [e, nI_1 j]
        exact hX post hp
      · rw [e, nI_1 j]
        exact hY post hp
/-- bestLag: one answer on both sides, whatever is asked of it -/
theorem ap_lag (h : Int32) (a : Nat → Int32) (ha : ap_R a) : ∃ r : Int32, (∀ post : Int32 → Prop, post r → wpX_bestLag post (h, a)) ∧ (∀ post : Int32 → Prop, post r → wpY_bestLag post (h, a)) := by
  obtain ⟨s, sX, sY⟩ := ap_score h a ha 2
  obtain ⟨r, hX, hY⟩ := ap_best h a ha 13 3 rfl 2 s
  refine ⟨r, fun post hp => ?_, fun post hp => ?_⟩
  · unfold wpX_bestLag
    dsimp only
    exact sX _ ⟨14, hX post hp⟩
  · unfold wpY_bestLag
    dsimp only
    exact sY _ ⟨14, hY post hp⟩
