section RX7
variable {R L S b n p : Nat} {pk pd cr : Int32} {va ss sn su ur ue un xr xo xn yr yo yn : Nat → Int32}
theorem rx_d0 : rx_D9 0 := by unfold rx_D9; decide
theorem rx_d1 : rx_D9 1 := by unfold rx_D9; decide
theorem rx_d2 : rx_D9 2 := by unfold rx_D9; decide
theorem rx_d3 : rx_D9 3 := by unfold rx_D9; decide
theorem rx_d4 : rx_D9 4 := by unfold rx_D9; decide
theorem rx_d5 : rx_D9 5 := by unfold rx_D9; decide
theorem rx_d6 : rx_D9 6 := by unfold rx_D9; decide
theorem rx_d7 : rx_D9 7 := by unfold rx_D9; decide
theorem rx_d8 : rx_D9 8 := by unfold rx_D9; decide
theorem rx_SI_mk {s t k : Nat} {x : Int32} (ex : ss s = x) (et : sn s = nI t) (ek : su s = nI k) (hk : k ≤ 4) (ht : t ≤ 2 * k + 2) (hD : rx_D9 x) (h2 : x = 2 → t ≤ k) (h3 : x = 3 → k + 1 ≤ t ∧ t ≤ 2 * k + 1) (hf : rx_RF R ur s k) : rx_SI R ss sn su ur s :=
  ⟨t, k, et, ek, hk, ht, by rw [ex]; exact hD, by rw [ex]; exact h2, by rw [ex]; exact h3, hf⟩
/-- what a slot of k updates keeps of its steps -/
def rx_Tk (x : Int32) (t k : Nat) : Prop := t ≤ 2 * k + 2 ∧ (x = 2 → t ≤ k) ∧ (x = 3 → k + 1 ≤ t ∧ t ≤ 2 * k + 1)
theorem rx_xRun1 {post : Int32 → Prop} {s : Nat} (hs : s < 4) (h : ss s = 2 ∨ ss s = 3) (hp : post 1) : wpX_isRunning post (nI R, nI L, nI S, nI b, nI n, nI p, cr, va, ss, sn, su, ur, ue, un, xr, xo, xn) (nI s) := by
  have hv : vp_in (nI s) 4 := vp_in_nI hs (by omega)
  unfold wpX_isRunning
  dsimp only
  rw [nI_clamp (show s < 2 ^ 31 by omega)]
  by_cases a : ss s = 2
  · exact ⟨hv, br_t a hp⟩
  · exact ⟨hv, br_f a ⟨hv, br_t (h.resolve_left a) hp⟩⟩
theorem rx_xRun0 {post : Int32 → Prop} {s : Nat} (hs : s < 4) (h : ¬ (ss s = 2 ∨ ss s = 3)) (hp : post 0) : wpX_isRunning post (nI R, nI L, nI S, nI b, nI n, nI p, cr, va, ss, sn, su, ur, ue, un, xr, xo, xn) (nI s) := by
  have hv : vp_in (nI s) 4 := vp_in_nI hs (by omega)
  unfold wpX_isRunning
  dsimp only
  rw [nI_clamp (show s < 2 ^ 31 by omega)]
  exact ⟨hv, br_f (fun z => h (Or.inl z)) ⟨hv, br_f (fun z => h (Or.inr z)) hp⟩⟩
end RX7
