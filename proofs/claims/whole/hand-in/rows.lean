section
/-- the count of digits in the running group is at most three -/
def gr_G (g : Int32) : Prop := g = 0 ∨ g = 1 ∨ g = 2 ∨ g = 3
theorem pk_nb (z : Int32) : narrow .byte (.int z.toInt8.toInt32) = .int z.toInt8.toInt32 := congrArg Value.int (by simp)
theorem pk_fb (r : Int32) : fits .byte (.int r.toInt8.toInt32) = true := by
  have ⟨a, b⟩ := lg_i2b_range r
  have h1 : (-128 : Int32).toInt = -128 := by decide
  have h2 : (127 : Int32).toInt = 127 := by decide
  simp only [fits, Bool.and_eq_true, decide_eq_true_eq, Int32.le_iff_toInt_le, h1, h2]
  omega
/-- below three, the reference's byte count grows as the component's int count does -/
theorem gr_step {g : Int32} (hg : gr_G g) (h3 : ¬ g = 3) : (g + 1).toInt8.toInt32 = g + 1 ∧ (g + 1).toInt8.toInt32 ≤ 3 ∧ gr_G (g + 1) := by
  rcases hg with rfl | rfl | rfl | rfl
  · exact ⟨by decide, by decide, Or.inr (Or.inl (by decide))⟩
  · exact ⟨by decide, by decide, Or.inr (Or.inr (Or.inl (by decide)))⟩
  · exact ⟨by decide, by decide, Or.inr (Or.inr (Or.inr (by decide)))⟩
  · exact absurd rfl h3
theorem gr_full : ¬ ((3 : Int32) + 1).toInt8.toInt32 ≤ 3 := by decide
/-- both sides ask the same of a comma, and of any char that is neither digit nor comma -/
theorem gr_comma (f : Int64) (g c p : Int32) (hg : gr_G g) : ∃ (r : Int32) (s : SX), gr_G s.2.1 ∧ (∀ post : Int32 → SX → Prop, post r s → wX_feed_21 post p f g c) ∧ (∀ post : Int32 → SY → Prop, post r s → wY_feed_70 post p f g c) := by
  by_cases hp : p = 44
  · have one : ¬ (1 : Int32) = 0 := by decide
    by_cases hc : c = 0
    · by_cases h1 : g < 1
      · exact ⟨2, (f, g, c), hg, fun post h => br_t hp (br_t hc (br_t h1 (br_t rfl h))), fun post h => br_t hp (br_t hc (br_t h1 (br_t rfl h)))⟩
      · exact ⟨0, (f, 0, 1), Or.inl rfl, fun post h => br_t hp (br_t hc (br_f h1 (br_f one h))), fun post h => br_t hp (br_t hc (br_f h1 (br_f one h)))⟩
    · by_cases h3 : g = 3
      · exact ⟨0, (f, 0, 1), Or.inl rfl, fun post h => br_t hp (br_f hc (br_t h3 (br_f one h))), fun post h => br_t hp (br_f hc (br_t h3 (br_f one h)))⟩
      · exact ⟨2, (f, g, c), hg, fun post h => br_t hp (br_f hc (br_f h3 (br_t rfl h))), fun post h => br_t hp (br_f hc (br_f h3 (br_t rfl h)))⟩
  · exact ⟨3, (f, g, c), hg, fun post h => br_f hp h, fun post h => br_f hp h⟩
/-- one answer and one state for both sides, whatever is asked behind them -/
theorem gr_feed (f : Int64) (g c p : Int32) (hg : gr_G g) : ∃ (r : Int32) (s : SX), gr_G s.2.1 ∧ (∀ post : Int32 → SX → Prop, post r s → wpX_feed post (f, g, c) p) ∧ (∀ post : Int32 → SY → Prop, post r s → wpY_feed post (f, g, c) p) := by
  by_cases h48 : p < 48
  · obtain ⟨r, s, hs, hX, hY⟩ := gr_comma f g c p hg
    exact ⟨r, s, hs, fun post h => br_t h48 (hX post h), fun post h => br_t h48 (hY post h)⟩
  · by_cases h57 : 57 < p
    · obtain ⟨r, s, hs, hX, hY⟩ := gr_comma f g c p hg
      exact ⟨r, s, hs, fun post h => br_f h48 (br_t h57 (hX post h)), fun post h => br_f h48 (br_t h57 (hY post h))⟩
    · by_cases h3 : g = 3
      · subst h3
        refine ⟨1, (f, 3, c), Or.inr (Or.inr (Or.inr rfl)), fun post h => br_f h48 (br_f h57 (br_t rfl h)), fun post h => br_f h48 (br_f h57 ?_)⟩
        exact nm_e ⟨pk_nb _, pk_fb _, br_f gr_full h⟩
      · obtain ⟨e, hle, hG⟩ := gr_step hg h3
        by_cases hv : f * 10 + (p - 48).toInt64 ≤ 5000000000
        · refine ⟨0, (f * 10 + (p - 48).toInt64, g + 1, c), hG, fun post h => br_f h48 (br_f h57 (br_f h3 (nm_e (nm_e (br_t hv h))))), fun post h => br_f h48 (br_f h57 ?_)⟩
          refine fun y ey => ⟨by rw [ey]; exact pk_nb _, by rw [ey]; exact pk_fb _, br_t hle (nm_e (br_t hv ?_))⟩
          rw [ey, e]
          exact h
        · refine ⟨0, (5000000000, g + 1, c), hG, fun post h => br_f h48 (br_f h57 (br_f h3 (nm_e (nm_e (br_f hv h))))), fun post h => br_f h48 (br_f h57 ?_)⟩
          refine fun y ey => ⟨by rw [ey]; exact pk_nb _, by rw [ey]; exact pk_fb _, br_t hle (nm_e (br_f hv ?_))⟩
          rw [ey, e]
          exact h
end
section
/-- both readers hold the same value, count and comma, and the count is at most three -/
def i_Rel (_ : Nat) (u : SX) (v : SY) : Prop := u = v ∧ gr_G u.2.1
theorem i_up {k : Nat} {u : SX} {v : SY} (h : i_Rel k u v) : i_Rel (k + 2) u v := h
theorem i_vc0 : wpX_init (fun u => wpY_init (fun v => i_Rel 0 u v)) := ⟨rfl, Or.inl rfl⟩
theorem i_vc_feed {k : Nat} {u : SX} {v : SY} (I : i_Rel k u v) (hk : k + 2 ≤ 1024) (v1 : Int32) : wpX_feed (fun r u' => wpY_feed (fun r' v' => r' = r ∧ i_Rel (k + 2) u' v') v (lw_u16 v1)) u (lw_u16 v1) := by
  obtain ⟨rfl, hg⟩ := I
  obtain ⟨f, g, c⟩ := u
  obtain ⟨r, s, hs, hX, hY⟩ := gr_feed f g c (lw_u16 v1) hg
  exact hX _ (hY _ ⟨rfl, rfl, hs⟩)
theorem i_vc_complete {k : Nat} {u : SX} {v : SY} (I : i_Rel k u v) (hk : k + 2 ≤ 1024) : wpX_complete (fun r => wpY_complete (fun r' => r' = r ∧ i_Rel (k + 2) u v) v) u := by
  obtain ⟨rfl, hg⟩ := I
  obtain ⟨f, g, c⟩ := u
  unfold wpX_complete wpX_isWhole wpY_complete
  dsimp only
  by_cases hc : c = 0
  · by_cases h1 : g < 1
    · exact br_t hc (br_t h1 ⟨rfl, br_t hc (br_t h1 ⟨rfl, rfl, hg⟩)⟩)
    · exact br_t hc (br_f h1 ⟨rfl, br_t hc (br_f h1 ⟨rfl, rfl, hg⟩)⟩)
  · by_cases h3 : g = 3
    · exact br_f hc (br_t h3 ⟨rfl, br_f hc (br_t h3 ⟨rfl, rfl, hg⟩)⟩)
    · exact br_f hc (br_f h3 ⟨rfl, br_f hc (br_f h3 ⟨rfl, rfl, hg⟩)⟩)
theorem i_vc_value {k : Nat} {u : SX} {v : SY} (I : i_Rel k u v) (hk : k + 2 ≤ 1024) : wpX_value (fun r => wpY_value (fun r' => r' = r ∧ i_Rel (k + 2) u v) v) u := by
  obtain ⟨rfl, hg⟩ := I
  obtain ⟨f, g, c⟩ := u
  exact ⟨rfl, rfl, hg⟩
end
