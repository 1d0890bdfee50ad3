section HNkeeps
variable {I I' : Nat → Nat → Int32} {J J' : Nat → Nat → Int64} {R : Nat → Nat → Option Nat} {t : Nat} {N : sp_N} {Q Q' : sp_Q}
theorem hs_Qm_fr {b b' : Nat} {q : sp_Q} (h : hs_Qm I b q) (hb : b' ≤ 1034) (hf : ∀ j, j < 21 → I' 204 (b' + j) = I 204 (b + j)) : hs_Qm I' b' q := by
  obtain ⟨⟨h0, h1, h2, h3, h4⟩, h5⟩ := h
  refine ⟨⟨hb, fun k hk => ?_, fun k hk => ?_, fun k hk => ?_, fun k hk => ?_⟩, ?_⟩
  · rw [Nat.add_assoc, hf _ (by omega), ← Nat.add_assoc]; exact h1 k hk
  · rw [Nat.add_assoc, hf _ (by omega), ← Nat.add_assoc]; exact h2 k hk
  · rw [Nat.add_assoc, hf _ (by omega), ← Nat.add_assoc]; exact h3 k hk
  · rw [Nat.add_assoc, hf _ (by omega), ← Nat.add_assoc]; exact h4 k hk
  · exact (hf 0 (by omega)).trans h5
theorem nI_47 (k : Nat) : (47 : Int32) * ((5 : Int32) + nI k) = nI (47 * (5 + k)) := by rw [nI_ml, nI_ad]; rfl
theorem nI_47' {k : Nat} (h : 1 ≤ k) : (47 : Int32) * ((5 : Int32) + nI k - 1) = nI (47 * (4 + k)) := by
  have e : (5 : Int32) + nI k = nI (4 + k) + 1 := by
    rw [← @nI_succ (4 + k), show 4 + k + 1 = 5 + k by omega, nI_ad]; rfl
  rw [e, Int32.add_sub_cancel, nI_ml]; rfl
theorem cp_at {f : Nat → Int32} {a b m j : Nat} (hj : j < m) : va_cpy f f a b m (b + j) = f (a + j) := by
  unfold va_cpy
  rw [if_pos (by omega), show a + (b + j - b) = a + j by omega]
theorem cp_off {f : Nat → Int32} {a b m i : Nat} (h : ¬ (b ≤ i ∧ i < b + m)) : va_cpy f f a b m i = f i := by
  unfold va_cpy
  rw [if_neg h]
theorem keeps_q {I1 I2 : Nat → Nat → Int32} {m len : Nat} {e : Nat → sp_Q} {v : Int32} (hm : m < 16) (hml : m + 1 = sp_pl len) (h204 : I2 204 = va_cpy (I1 204) (I1 204) 0 (47 * (5 + m)) 21) (f3 : ∀ j, ¬ (235 ≤ j ∧ j < 987) → I1 204 j = I 204 j) (hQ : hs_Qm I 0 Q) (hq : ∀ j, j < m → hs_Qm I1 (47 * (5 + (m - 1 - j))) (e j)) : ∀ j, j < sp_pl len → hs_Qm (hn_u I2 188 24 v) (47 * (5 + (sp_pl len - 1 - j))) (sp_pe Q e j) := by
  intro j hj
  rw [← hml] at hj ⊢
  have e204 : hn_u I2 188 24 v 204 = I2 204 := hn_u_ne _ _ _ (by omega)
  cases j with
  | zero =>
    refine hs_Qm_fr hQ (by omega) (fun i hi => ?_)
    rw [e204, h204, show m + 1 - 1 - 0 = m by omega, cp_at hi, f3 _ (by omega)]
  | succ j =>
    refine hs_Qm_fr (hq j (by omega)) (by omega) (fun i hi => ?_)
    rw [e204, h204, show m + 1 - 1 - (j + 1) = m - 1 - j by omega, cp_off (by omega)]
theorem q_M_keeps {len : Nat} {e : Nat → sp_Q} (hM : hs_M R) (hQ : hs_Qm I 0 Q) (hp : hs_pm I len e) : hn_F 1 hm_M_keeps [.ref 188] (I, J, R) (fun r D' => r = none ∧ ∃ I2, D' = (I2, J, R) ∧ (∀ b, b ≠ 188 → b ≠ 204 → I2 b = I b) ∧ (∀ j, j ≠ 24 → I2 188 j = I 188 j) ∧ (∀ j, ¬ (235 ≤ j ∧ j < 987) → I2 204 j = I 204 j) ∧ hs_pm I2 (sp_pl len) (sp_pe Q e)) := by
  obtain ⟨p1, p2, p3⟩ := hp
  refine hn_F_of _ hk_M_keeps rfl (Nat.le_of_ble_eq_true rfl) ?_
  obtain ⟨P, hPd⟩ : ∃ P : Option Value → hnD → Prop, P = (fun r D' => r = none ∧ ∃ I2, D' = (I2, J, R) ∧ (∀ b, b ≠ 188 → b ≠ 204 → I2 b = I b) ∧ (∀ j, j ≠ 24 → I2 188 j = I 188 j) ∧ (∀ j, ¬ (235 ≤ j ∧ j < 987) → I2 204 j = I 204 j) ∧ hs_pm I2 (sp_pl len) (sp_pe Q e)) := ⟨_, rfl⟩
  rw [← hPd]
  have L53 : ∀ (I1 : Nat → Nat → Int32) (m : Nat) (l : Value), m < 16 → (∀ b, b ≠ 188 → b ≠ 204 → I1 b = I b) → (∀ j, j ≠ 24 → I1 188 j = I 188 j) → (∀ j, ¬ (235 ≤ j ∧ j < 987) → I1 204 j = I 204 j) → I1 188 24 = nI m → m + 1 = sp_pl len → (∀ j, j < m → hs_Qm I1 (47 * (5 + (m - 1 - j))) (e j)) → hn_B 1 hm_M_keeps P 53 [.ref 188, l] [] (I1, J, R) := by
    intro I1 m l hm f1 f2 f3 h24 hml hq
    refine b_aload_n rfl rfl ?_
    refine b_iconst rfl ?_
    refine b_bipush rfl ?_
    refine b_iconst rfl ?_
    refine b_aload_n rfl rfl ?_
    refine b_getI rfl (by first | rfl | assumption) rfl ?_
    refine b_iadd rfl ?_
    refine b_imul rfl ?_
    refine b_bipush rfl ?_
    rw [h24, nI_47]
    refine b_callV rfl rfl hk_M_copies rfl rfl rfl (by first | rfl | assumption) rfl (Nat.le_of_ble_eq_true rfl) (q_M_copies (f := 0) (t := 47 * (5 + m)) (m := 21) hM (by omega) (by omega) (by omega) rfl rfl rfl) (Nat.le_of_ble_eq_true rfl) (fun r_66 D_66 q_66 => ?_)
    obtain ⟨rfl, hf, h204⟩ := q_66
    obtain ⟨I2, rfl, hI2⟩ := hf.out
    have e188 : I2 188 = I1 188 := hI2 188 (by omega)
    refine b_aload_n rfl rfl ?_
    refine b_dup rfl rfl ?_
    refine b_getI rfl (by first | rfl | assumption) rfl ?_
    refine b_iconst rfl ?_
    refine b_iadd rfl ?_
    rw [show I2 188 24 = nI m by rw [e188]; exact h24, ← @nI_succ m]
    refine b_putI rfl (by first | rfl | assumption) rfl rfl ⟨rfl, rfl⟩ ?_
    exact b_return_ rfl trivial ((by rw [hPd]; exact ⟨rfl, _, rfl, fun b h1 h2 => by rw [hn_u_ne _ _ _ h1, hI2 b h2, f1 b h1 h2], fun j hj => by rw [hn_u_eq, va_up, if_neg hj, e188, f2 j hj], fun j hj => by rw [hn_u_ne _ _ _ (by omega)]; exact (congrFun h204 j).trans ((cp_off (by omega)).trans (f3 j hj)), by rw [hn_u_eq, va_up, if_pos rfl, hml], by omega, keeps_q hm hml h204 f3 hQ hq⟩))
  by_cases hl : len = 16
  · subst hl
    have key : ∀ I', (∀ b, b ≠ 204 → I' b = I b) → (∀ m j, m + 1 < 1 → j < 21 → I' 204 (47 * (5 + m) + j) = I 204 (47 * (6 + m) + j)) → (∀ i, ¬ (235 ≤ i ∧ i < 47 * (4 + 1)) → I' 204 i = I 204 i) → hn_B 1 hm_M_keeps P 11 [.ref 188, .int (nI 1)] [] (I', J, R) := by
      refine sp_indk 1 16 (by omega) (fun k => ∀ I', (∀ b, b ≠ 204 → I' b = I b) → (∀ m j, m + 1 < k → j < 21 → I' 204 (47 * (5 + m) + j) = I 204 (47 * (6 + m) + j)) → (∀ i, ¬ (235 ≤ i ∧ i < 47 * (4 + k)) → I' 204 i = I 204 i) → hn_B 1 hm_M_keeps P 11 [.ref 188, .int (nI k)] [] (I', J, R)) ?_ ?_
      · intro I' f1 f2 f3
        have e188 : I' 188 = I 188 := f1 188 (by omega)
        refine b_iload_n rfl rfl ?_
        refine b_bipush rfl ?_
        refine b_icmp_ge rfl (fun c_14 => ?_) (fun c_14 => ?_)
        · refine b_aload_n rfl rfl ?_
          refine b_dup rfl rfl ?_
          refine b_getI rfl (by first | rfl | assumption) rfl ?_
          rw [show I' 188 24 = nI 16 by rw [e188]; exact p1]
          refine b_iconst rfl ?_
          refine b_isub rfl ?_
          rw [show nI 16 - 1 = nI 15 by decide]
          refine b_putI rfl (by first | rfl | assumption) rfl rfl ⟨rfl, rfl⟩ ?_
          exact L53 (hn_u I' 188 24 (nI 15)) 15 _ (by omega) (fun b h1 h2 => by rw [hn_u_ne _ _ _ h1]; exact f1 b h2) (fun j hj => by rw [hn_u_eq, va_up, if_neg hj, e188]) (fun j hj => by rw [hn_u_ne _ _ _ (by omega)]; exact f3 j (by omega)) (by rw [hn_u_eq, va_up, if_pos rfl]) rfl (fun j hj => hs_Qm_fr (p3 j (by omega)) (by omega) (fun i hi => by rw [hn_u_ne _ _ _ (by omega), f2 (15 - 1 - j) i (by omega) hi, show 6 + (15 - 1 - j) = 5 + (16 - 1 - j) by omega]))
        · exact absurd (show (16 : Int32) ≤ nI 16 by decide) c_14
      · intro k hk1 hk ih I' f1 f2 f3
        refine b_iload_n rfl rfl ?_
        refine b_bipush rfl ?_
        refine b_icmp_ge rfl (fun c_14 => ?_) (fun c_14 => ?_)
        · exact absurd (show nI 16 ≤ nI k from c_14) (nI_ge hk (by omega))
        · refine b_aload_n rfl rfl ?_
          refine b_bipush rfl ?_
          refine b_iconst rfl ?_
          refine b_iload_n rfl rfl ?_
          refine b_iadd rfl ?_
          refine b_imul rfl ?_
          refine b_bipush rfl ?_
          refine b_iconst rfl ?_
          refine b_iload_n rfl rfl ?_
          refine b_iadd rfl ?_
          refine b_iconst rfl ?_
          refine b_isub rfl ?_
          refine b_imul rfl ?_
          refine b_bipush rfl ?_
          refine b_callV rfl rfl hk_M_copies rfl rfl rfl (by first | rfl | assumption) rfl (Nat.le_of_ble_eq_true rfl) (q_M_copies (f := 47 * (5 + k)) (t := 47 * (4 + k)) (m := 21) hM (by omega) (by omega) (by omega) (nI_47 k) (nI_47' hk1) rfl) (Nat.le_of_ble_eq_true rfl) (fun r_34 D_34 q_34 => ?_)
          obtain ⟨rfl, hf, h204⟩ := q_34
          obtain ⟨I2, rfl, hI2⟩ := hf.out
          replace h204 : I2 204 = va_cpy (I' 204) (I' 204) (47 * (5 + k)) (47 * (4 + k)) 21 := h204
          refine b_iinc rfl rfl (Nat.le_of_ble_eq_true rfl) ?_
          refine b_goto rfl ?_
          exact b_eq (ih I2 (fun b hb => by rw [hI2 b hb]; exact f1 b hb) (fun m j hm hj => by rcases (show m + 1 < k ∨ m = k - 1 by omega) with h | rfl; rw [h204, cp_off (by omega)]; exact f2 m j h hj; rw [h204, show 5 + (k - 1) = 4 + k by omega, cp_at hj, f3 _ (by omega), show 6 + (k - 1) = 5 + k by omega]) (fun i hi => by rw [h204, cp_off (by omega)]; exact f3 i (by omega))) (by rw [@nI_succ k]; rfl) rfl rfl
    refine b_aload_n rfl rfl ?_
    refine b_getI rfl (by first | rfl | assumption) rfl ?_
    rw [p1]
    refine b_bipush rfl ?_
    refine b_icmp_ne rfl (fun c_6 => ?_) (fun c_6 => ?_)
    · exact absurd (show nI 16 = 16 by decide) c_6
    · refine b_iconst rfl ?_
      refine b_istore_n rfl (Nat.le_of_ble_eq_true rfl) ?_
      exact key I (fun _ _ => rfl) (fun m j hm => absurd hm (by omega)) (fun _ _ => rfl)
  · have e16 : ¬ nI len = 16 := fun z => hl ((hi_nIe (k := 16) (by omega) (by omega)).mp z)
    refine b_aload_n rfl rfl ?_
    refine b_getI rfl (by first | rfl | assumption) rfl ?_
    rw [p1]
    refine b_bipush rfl ?_
    refine b_icmp_ne rfl (fun c_6 => ?_) (fun c_6 => ?_)
    · exact L53 I len _ (by omega) (fun _ _ _ => rfl) (fun _ _ => rfl) (fun _ _ => rfl) p1 (by unfold sp_pl; rw [if_pos (by omega)]) p3
    · exact absurd c_6 e16
end HNkeeps
