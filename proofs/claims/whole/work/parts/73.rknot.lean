section HNrknot
variable {I I' : Nat → Nat → Int32} {J J' : Nat → Nat → Int64} {R R' : Nat → Nat → Option Nat}
/-! a step without a fault -/
theorem p_u_1 {f : Nat → Nat} {n c : Nat} {p : Prop} [Decidable p] {s : rd} (hc : 0 < c) (h : (p_u f n p c s).1 = 0) : ¬ p ∧ p_u f n p c s = (0, s.2 + 1) := by
  have h1 := (p_u_0 hc).mp h
  exact ⟨h1, if_neg h1⟩
theorem p_w_1 {f : Nat → Nat} {n w : Nat} {s : rd} (h : (p_w f n w s).1 = 0) : s.1 = 0 ∧ wx (tq f n s.2) = w ∧ p_w f n w s = (0, s.2 + 1) := by
  unfold p_w at h ⊢
  by_cases hz : s.1 = 0
  · rw [if_pos hz] at h ⊢
    have h1 := p_u_1 (by omega) h
    exact ⟨hz, Classical.not_not.mp h1.1, h1.2⟩
  · rw [if_neg hz] at h; exact absurd h hz
theorem p_e_1 {f : Nat → Nat} {n : Nat} {s : rd} (h : (p_e f n s).1 = 0) : s.1 = 0 ∧ p_isS (tq f n s.2) 59 ∧ p_e f n s = (0, s.2 + 1) := by
  unfold p_e at h ⊢
  by_cases hz : s.1 = 0
  · rw [if_pos hz] at h ⊢
    have h1 := p_u_1 (by omega) h
    exact ⟨hz, Classical.not_not.mp h1.1, h1.2⟩
  · rw [if_neg hz] at h; exact absurd h hz
theorem p_k_1 {f : Nat → Nat} {n : Nat} {s : rd} (h : (p_k f n s).1 = 0) : s.1 = 0 ∧ (15 ≤ wx (tq f n s.2) ∧ wx (tq f n s.2) ≤ 18) ∧ p_k f n s = (0, s.2 + 1) := by
  unfold p_k at h ⊢
  by_cases hz : s.1 = 0
  · rw [if_pos hz] at h ⊢
    have h1 := p_u_1 (by omega) h
    exact ⟨hz, Classical.not_not.mp h1.1, h1.2⟩
  · rw [if_neg hz] at h; exact absurd h hz
theorem p_n_1 {f : Nat → Nat} {n m : Nat} {s : rd} (h : (p_n f n m s).1 = 0) : s.1 = 0 ∧ (tq f n s.2).1 = 2 ∧ (tq f n s.2).2.2.2 ≤ m ∧ p_n f n m s = (0, s.2 + 1) := by
  unfold p_n at h ⊢
  by_cases hz : s.1 = 0
  · rw [if_pos hz] at h ⊢
    by_cases h2 : (tq f n s.2).1 = 2
    · rw [if_pos h2] at h ⊢
      have h1 := p_u_1 (by omega) h
      exact ⟨hz, h2, Nat.le_of_not_lt h1.1, h1.2⟩
    · rw [if_neg h2] at h; exact absurd h (fl_ne (by omega))
  · rw [if_neg hz] at h; exact absurd h hz
theorem p_nn_1 {f : Nat → Nat} {n kn pn : Nat} {nm pm : Nat → Nat} {s : rd} (h : (p_nn f n nm kn pm pn s).1 = 0) : nAt f n s ∧ nfd nm (tq f n s.2).2.2.2 kn = none ∧ nfd pm (tq f n s.2).2.2.2 pn = none ∧ p_nn f n nm kn pm pn s = (0, s.2 + 1) := by
  unfold p_nn at h ⊢
  by_cases hz : nAt f n s
  · rw [if_pos hz] at h ⊢
    have h1 := p_u_1 (by omega) h
    exact ⟨hz, Classical.not_not.mp (fun z => h1.1 (Or.inl z)), Classical.not_not.mp (fun z => h1.1 (Or.inr z)), h1.2⟩
  · rw [if_neg hz] at h; exact absurd h (p_a_n hz)
theorem p_kt_1 {f : Nat → Nat} {n kn : Nat} {nm : Nat → Nat} {s : rd} (h : (p_kt f n nm kn s).1 = 0) : nAt f n s ∧ (∃ k, o_k f n nm kn s = some k ∧ k < kn) ∧ p_kt f n nm kn s = (0, s.2 + 1) := by
  unfold p_kt at h ⊢
  by_cases hz : nAt f n s
  · rw [if_pos hz] at h ⊢
    have h1 := p_u_1 (by omega) h
    have e : o_k f n nm kn s = nfd nm (tq f n s.2).2.2.2 kn := if_pos hz
    rcases (show nfd nm (tq f n s.2).2.2.2 kn = none ∨ ∃ k, nfd nm (tq f n s.2).2.2.2 kn = some k by cases nfd nm (tq f n s.2).2.2.2 kn with | none => exact Or.inl rfl | some k => exact Or.inr ⟨k, rfl⟩) with e2 | ⟨k, e2⟩
    · exact absurd e2 h1.1
    · exact ⟨hz, ⟨k, e.trans e2, (nfd_lt e2).1⟩, h1.2⟩
  · rw [if_neg hz] at h; exact absurd h (p_a_n hz)
/-- a line of a knot -/
def p_kn (f : Nat → Nat) (n : Nat) (nm : Nat → Nat) (kn : Nat) (pm : Nat → Nat) (pn : Nat) (s : rd) : rd := p_e f n (p_n f n 20 (p_w f n 3 (p_k f n (p_nn f n nm kn pm pn (p_u f n (8 ≤ kn) 5 s)))))
theorem p_kn_1 {f : Nat → Nat} {n kn pn : Nat} {nm pm : Nat → Nat} {s : rd} (h : (p_kn f n nm kn pm pn s).1 = 0) : kn < 8 ∧ nAt f n (0, s.2 + 1) ∧ (15 ≤ wx (tq f n (s.2 + 2)) ∧ wx (tq f n (s.2 + 2)) ≤ 18) ∧ (tq f n (s.2 + 4)).1 = 2 ∧ (tq f n (s.2 + 4)).2.2.2 ≤ 20 ∧ p_u f n (8 ≤ kn) 5 s = (0, s.2 + 1) ∧ p_nn f n nm kn pm pn (0, s.2 + 1) = (0, s.2 + 2) ∧ p_k f n (0, s.2 + 2) = (0, s.2 + 3) ∧ p_w f n 3 (0, s.2 + 3) = (0, s.2 + 4) ∧ p_kn f n nm kn pm pn s = (0, s.2 + 6) := by
  unfold p_kn at h ⊢
  have a1 := p_e_1 h
  have a2 := p_n_1 a1.1
  have a3 := p_w_1 a2.1
  have a4 := p_k_1 a3.1
  have a5 := p_nn_1 a4.1
  have a6 := p_u_1 (by omega) a5.1.1
  rw [a6.2] at a1 a2 a3 a4 a5 h ⊢
  rw [a5.2.2.2] at a1 a2 a3 a4 h ⊢
  rw [a4.2.2] at a1 a2 a3 h ⊢
  rw [a3.2.2] at a1 a2 h ⊢
  rw [a2.2.2.2] at a1 h ⊢
  exact ⟨Nat.lt_of_not_le a6.1, a5.1, a4.2.1, a2.2.1, a2.2.2.1, rfl, rfl, rfl, rfl, a1.2.2⟩
end HNrknot
