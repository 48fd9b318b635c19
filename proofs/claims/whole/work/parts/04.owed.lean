/-- the two states: the same ring of shorts, the same head below 32 -/
def i_Rel (k : Nat) (u : SX) (v : SY) : Prop := ∃ (h : Nat) (a : Nat → Int32), u = (nI h, a) ∧ v = (nI h, a) ∧ h < 32 ∧ ap_R a
theorem i_up {k : Nat} {u : SX} {v : SY} (h : i_Rel k u v) : i_Rel (k + 2) u v := h
theorem i_vc0 : wpX_init (fun u => wpY_init (fun v => i_Rel 0 u v)) := ⟨0, fun _ => 0, rfl, rfl, by decide, ap_R0⟩
theorem i_vc_push {k : Nat} {u : SX} {v : SY} (I : i_Rel k u v) (hk : k + 2 ≤ 1024) (v1 : Int32) : wpX_push (fun r u' => wpY_push (fun r' v' => r' = r ∧ i_Rel (k + 2) u' v') v (lw_i16 v1)) u (lw_i16 v1) := by
  obtain ⟨h, a, rfl, rfl, hh, ha⟩ := I
  have e := ap_hm hh
  have i1 := ap_in (nI h)
  have i2 : vp_in (nI h) 32 := vp_in_nI hh (by decide)
  refine ⟨i1, fun x2 e2 => ⟨i1, fun a1 ea f ef => ?_⟩⟩
  refine ⟨i2, fun y2 f2 => ⟨i2, fun b1 eb g eg => ⟨?_, ?_⟩⟩⟩
  · rw [f2, e2, e]
  · obtain ⟨m, hm, em⟩ := ap_hd (nI h + 1)
    refine ⟨m, a1, ?_, ?_, hm, ?_⟩
    · rw [ef, em]
    · rw [eg, em, eb, ea, e]
    · rw [ea]
      exact ap_Ru ha _ _
theorem i_vc_scoreAt {k : Nat} {u : SX} {v : SY} (I : i_Rel k u v) (hk : k + 2 ≤ 1024) (v1 : Int32) : wpX_scoreAt (fun r => wpY_scoreAt (fun r' => r' = r ∧ i_Rel (k + 2) u v) v v1) u v1 := by
  obtain ⟨h, a, rfl, rfl, hh, ha⟩ := I
  obtain ⟨r, hX, hY⟩ := ap_score (nI h) a ha v1
  exact hX _ (hY _ ⟨rfl, h, a, rfl, rfl, hh, ha⟩)
theorem i_vc_bestLag {k : Nat} {u : SX} {v : SY} (I : i_Rel k u v) (hk : k + 2 ≤ 1024) : wpX_bestLag (fun r => wpY_bestLag (fun r' => r' = r ∧ i_Rel (k + 2) u v) v) u := by
  obtain ⟨h, a, rfl, rfl, hh, ha⟩ := I
  obtain ⟨r, hX, hY⟩ := ap_lag (nI h) a ha
  exact hX _ (hY _ ⟨rfl, h, a, rfl, rfl, hh, ha⟩)
