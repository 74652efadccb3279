/-- both readers hold the same value, count and comma, and the count is at most three -/
def i_Rel (_ : Nat) (u : SX) (v : SY) : Prop := u = v ∧ gr_G u.2.1
theorem i_up {k : Nat} {u : SX} {v : SY} (h : i_Rel k u v) : i_Rel (k + 2) u v := h
theorem i_vc0 : wpX_init (fun u => wpY_init (fun v => i_Rel 0 u v)) := ⟨rfl, Or.inl rfl⟩
theorem i_vc_feed {k : Nat} {u : SX} {v : SY} (I : i_Rel k u v) (hk : k + 2 ≤ 1024) (v1 : Int32) : wpX_feed (fun r u' => wpY_feed (fun r' v' => r' = r ∧ i_Rel (k + 2) u' v') v (lw_u16 v1)) u (lw_u16 v1) := by
  obtain ⟨rfl, hg⟩ := I
  obtain ⟨f, g, c⟩ := u
  obtain ⟨r, s, hs, hX, hY⟩ := gr_feed f g c (lw_u16 v1) hg
  exact hX _ (hY _ ⟨rfl, rfl, hs⟩)
theorem i_vc_complete {k : Nat} {u : SX} {v : SY} (I : i_Rel k u v) (hk : k + 2 ≤ 1024) : wpX_complete (fun r => wpY_complete (fun r' => r' = r ∧ i_Rel (k + 2) u v) v) u := by
  obtain ⟨rfl, hg⟩ := I
  obtain ⟨f, g, c⟩ := u
  unfold wpX_complete wpX_isWhole wpY_complete
  dsimp only
  by_cases hc : c = 0
  · by_cases h1 : g < 1
    · exact br_t hc (br_t h1 ⟨rfl, br_t hc (br_t h1 ⟨rfl, rfl, hg⟩)⟩)
    · exact br_t hc (br_f h1 ⟨rfl, br_t hc (br_f h1 ⟨rfl, rfl, hg⟩)⟩)
  · by_cases h3 : g = 3
    · exact br_f hc (br_t h3 ⟨rfl, br_f hc (br_t h3 ⟨rfl, rfl, hg⟩)⟩)
    · exact br_f hc (br_f h3 ⟨rfl, br_f hc (br_f h3 ⟨rfl, rfl, hg⟩)⟩)
theorem i_vc_value {k : Nat} {u : SX} {v : SY} (I : i_Rel k u v) (hk : k + 2 ≤ 1024) : wpX_value (fun r => wpY_value (fun r' => r' = r ∧ i_Rel (k + 2) u v) v) u := by
  obtain ⟨rfl, hg⟩ := I
  obtain ⟨f, g, c⟩ := u
  exact ⟨rfl, rfl, hg⟩
