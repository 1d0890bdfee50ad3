section HNheld
variable {I I' : Nat → Nat → Int32} {J J' : Nat → Nat → Int64} {R : Nat → Nat → Option Nat} {t : Nat} {N : sp_N} {Q Q' S : sp_Q} {U : sp_U} {V : sp_V}
theorem hi_1m {p : Nat} : (1 : Int32) - nI (p % 2) = nI (1 - p % 2) := by
  rcases (show p % 2 = 0 ∨ p % 2 = 1 by omega) with h | h <;> rw [h] <;> decide
theorem oc_of {x : Option Nat} {m : Nat} (hm : m ≤ 1) (h : oc x = m) : ∃ y, x = some y ∧ y % 2 = m := by
  cases x with
  | none => have e : oc none = 2 := rfl; omega
  | some y => exact ⟨y, rfl, h⟩
theorem q_M_pull {x : Int32} (hB : hs_B I R N Q) : hn_F 3 hm_M_pull [.ref 188, .int x] (I, J, R) (fun r D' => hs_sm I J R D' ∧ r = some (.int (v_pull N Q x))) := by
  have n8' : N.1 ≤ 8 := hB.2.1.1.2.1
  have hM9 := hs_M_of hB.1
  obtain ⟨m1, m4, m5, m6, m9, m10, m11, m12, m14, m15, m16, m17, m20, m21, m22, m23, m25, m27, m28, m29, m30, m31, m32⟩ := id hM9
  refine hn_F_of _ hk_M_pull rfl (Nat.le_of_ble_eq_true rfl) ?_
  by_cases hx : sp_in x N.1
  · obtain ⟨k, hk, rfl⟩ := sp_in_nat hx
    rw [v_pull, sp_at_in hk n8']
    obtain ⟨F, hF⟩ : ∃ F, F = tg (qS Q) N.1 9 := ⟨_, rfl⟩
    rw [← hF]
    have hFx : ∀ j y, F j = some y → y ≤ 8 := fun j y h => tg_x n8' (by rw [← hF]; exact h)
    have lp : ∀ I', hs_sm I J R (I', J, R) → hs_Tg I' 208 209 F → hn_B 3 hm_M_pull (fun r D' => hs_sm I J R D' ∧ r = some (.int (sp_first (pl_c (qS Q) F k) (N.1 - 0) 0))) 11 [.ref 188, .int (nI k), .int (nI 0), .null] [] (I', J, R) := by
      intro I' hsm hT
      have hB' := hs_B_sm hB hsm
      have hn' := hB'.2.1.1.1
      refine sp_ind N.1 (fun o => hn_B 3 hm_M_pull (fun r D' => hs_sm I J R D' ∧ r = some (.int (sp_first (pl_c (qS Q) F k) (N.1 - o) o))) 11 [.ref 188, .int (nI k), .int (nI o), .null] [] (I', J, R)) ?_ ?_
      · refine b_iload_n rfl rfl ?_
        refine b_aload_n rfl rfl ?_
        refine b_callV rfl rfl hk_M_knots rfl rfl rfl (by first | rfl | assumption) rfl (Nat.le_of_ble_eq_true rfl) (q_M_knots hM9 hn') (Nat.le_of_ble_eq_true rfl) (fun r_13 D_13 q_13 => ?_)
        obtain ⟨rfl, rfl⟩ := q_13
        refine b_icmp_ge rfl (fun c_16 => ?_) (fun c_16 => ?_)
        · refine b_iconst rfl ?_
          exact b_ireturn rfl trivial (⟨hsm, by rw [Nat.sub_self]; rfl⟩)
        · exact absurd (nI_le (Nat.le_refl _) (by omega)) c_16
      · intro o ho ih
        obtain ⟨k8, k9⟩ := hT k (by omega)
        obtain ⟨o8, o9⟩ := hT o (by omega)
        rw [sp_first_s (pl_c (qS Q) F k) ho]
        have hlo := oc_lt (F o)
        have hlk := oc_lt (F k)
        have S95 : ∀ fl : Int32, fg (pl_f F k o) fl → hn_B 3 hm_M_pull (fun r D' => hs_sm I J R D' ∧ r = some (.int (if pl_c (qS Q) F k o then nI o else sp_first (pl_c (qS Q) F k) (N.1 - (o + 1)) (o + 1)))) 94 [.ref 188, .int (nI k), .int (nI o), .null] [.int fl] (I', J, R) := by
          intro fl hfl
          rcases hfl with ⟨hp, rfl⟩ | ⟨hp, rfl⟩
          · by_cases hb : sp_bit (qS Q k) o
            · rw [if_pos ⟨hb, hp⟩]
              refine b_istore_n rfl (Nat.le_of_ble_eq_true rfl) ?_
              refine b_aload_n rfl rfl ?_
              refine b_iload_n rfl rfl ?_
              refine b_callV rfl rfl hk_M_stringsFrom rfl rfl rfl (by first | rfl | assumption) rfl (Nat.le_of_ble_eq_true rfl) (q_M_stringsFrom hB' (show k < 8 by omega)) (Nat.le_of_ble_eq_true rfl) (fun r_97 D_97 q_97 => ?_)
              obtain ⟨rfl, rfl⟩ := q_97
              refine b_iload_n rfl rfl ?_
              refine b_ishr rfl ?_
              refine b_iconst rfl ?_
              refine b_iand rfl ?_
              refine b_iconst rfl ?_
              refine b_icmp_ne rfl (fun c_105 => ?_) (fun c_105 => ?_)
              · exact absurd ((hi_bit1 _).mpr hb) c_105
              · refine b_iload_n rfl rfl ?_
                refine b_if_eq rfl (fun c_109 => ?_) (fun c_109 => ?_)
                · exact absurd c_109 (by decide)
                · refine b_iload_n rfl rfl ?_
                  exact b_ireturn rfl trivial (⟨hsm, rfl⟩)
            · rw [if_neg (fun z => hb z.1)]
              refine b_istore_n rfl (Nat.le_of_ble_eq_true rfl) ?_
              refine b_aload_n rfl rfl ?_
              refine b_iload_n rfl rfl ?_
              refine b_callV rfl rfl hk_M_stringsFrom rfl rfl rfl (by first | rfl | assumption) rfl (Nat.le_of_ble_eq_true rfl) (q_M_stringsFrom hB' (show k < 8 by omega)) (Nat.le_of_ble_eq_true rfl) (fun r_97 D_97 q_97 => ?_)
              obtain ⟨rfl, rfl⟩ := q_97
              refine b_iload_n rfl rfl ?_
              refine b_ishr rfl ?_
              refine b_iconst rfl ?_
              refine b_iand rfl ?_
              refine b_iconst rfl ?_
              refine b_icmp_ne rfl (fun c_105 => ?_) (fun c_105 => ?_)
              · refine b_iinc rfl rfl (Nat.le_of_ble_eq_true rfl) ?_
                refine b_goto rfl ?_
                exact b_lp ih (le_e (le_e (le_q (by rw [nI_succ]) (le_n le_0)))) rfl rfl
              · exact absurd ((hi_bit1 _).mp c_105) hb
          · rw [if_neg (fun z => hp z.2)]
            refine b_istore_n rfl (Nat.le_of_ble_eq_true rfl) ?_
            refine b_aload_n rfl rfl ?_
            refine b_iload_n rfl rfl ?_
            refine b_callV rfl rfl hk_M_stringsFrom rfl rfl rfl (by first | rfl | assumption) rfl (Nat.le_of_ble_eq_true rfl) (q_M_stringsFrom hB' (show k < 8 by omega)) (Nat.le_of_ble_eq_true rfl) (fun r_97 D_97 q_97 => ?_)
            obtain ⟨rfl, rfl⟩ := q_97
            refine b_iload_n rfl rfl ?_
            refine b_ishr rfl ?_
            refine b_iconst rfl ?_
            refine b_iand rfl ?_
            refine b_iconst rfl ?_
            refine b_icmp_ne rfl (fun c_105 => ?_) (fun c_105 => ?_)
            · refine b_iinc rfl rfl (Nat.le_of_ble_eq_true rfl) ?_
              refine b_goto rfl ?_
              exact b_lp ih (le_e (le_e (le_q (by rw [nI_succ]) (le_n le_0)))) rfl rfl
            · refine b_iload_n rfl rfl ?_
              refine b_if_eq rfl (fun c_109 => ?_) (fun c_109 => ?_)
              · refine b_iinc rfl rfl (Nat.le_of_ble_eq_true rfl) ?_
                refine b_goto rfl ?_
                exact b_lp ih (le_e (le_e (le_q (by rw [nI_succ]) (le_n le_0)))) rfl rfl
              · exact absurd rfl c_109
        rcases (show F k = none ∨ ∃ p, F k = some p by cases F k with | none => exact Or.inl rfl | some p => exact Or.inr ⟨p, rfl⟩) with hFk | ⟨p, hFk⟩
        · rw [hFk] at k8
          have k8 : I' 208 k = 2 := k8
          by_cases hFo : F o = none
          · rw [hFo] at o8
            have o8 : I' 208 o = 2 := o8
            refine b_iload_n rfl rfl ?_
            refine b_aload_n rfl rfl ?_
            refine b_callV rfl rfl hk_M_knots rfl rfl rfl (by first | rfl | assumption) rfl (Nat.le_of_ble_eq_true rfl) (q_M_knots hM9 hn') (Nat.le_of_ble_eq_true rfl) (fun r_13 D_13 q_13 => ?_)
            obtain ⟨rfl, rfl⟩ := q_13
            refine b_icmp_ge rfl (fun c_16 => ?_) (fun c_16 => ?_)
            · exact absurd c_16 (nI_ge ho (by omega))
            · refine b_aload_n rfl rfl ?_
              refine b_iload_n rfl rfl ?_
              refine b_callV rfl rfl hk_M_isKnot rfl rfl rfl (by first | rfl | assumption) rfl (Nat.le_of_ble_eq_true rfl) (q_M_isKnot hM9 hn' n8') (Nat.le_of_ble_eq_true rfl) (fun r_21 D_21 q_21 => ?_)
              obtain ⟨rfl, hq⟩ := q_21
              rw [if_pos hx] at hq
              subst hq
              refine b_if_eq rfl (fun c_24 => ?_) (fun c_24 => ?_)
              · exact absurd c_24 (by decide)
              · refine b_aload_n rfl rfl ?_
                refine b_getR rfl (by first | rfl | assumption) rfl (by assumption) ?_
                refine b_iload_n rfl rfl ?_
                refine b_iaload rfl (by first | rfl | assumption) (by first | assumption | exact nI_toInt (by omega) | exact hi_l0 | exact hi_l1 | exact hi_l2 | exact hi_l3 | exact hi_l4 | exact hi_l5 | exact hi_l6) (by omega) ?_
                rw [k8]
                refine b_iconst rfl ?_
                refine b_icmp_ne rfl (fun c_34 => ?_) (fun c_34 => ?_)
                · exact absurd rfl c_34
                · refine b_aload_n rfl rfl ?_
                  refine b_getR rfl (by first | rfl | assumption) rfl (by assumption) ?_
                  refine b_iload_n rfl rfl ?_
                  refine b_iaload rfl (by first | rfl | assumption) (by first | assumption | exact nI_toInt (by omega) | exact hi_l0 | exact hi_l1 | exact hi_l2 | exact hi_l3 | exact hi_l4 | exact hi_l5 | exact hi_l6) (by omega) ?_
                  rw [o8]
                  refine b_iconst rfl ?_
                  refine b_icmp_ne rfl (fun c_44 => ?_) (fun c_44 => ?_)
                  · exact absurd rfl c_44
                  · refine b_iconst rfl ?_
                    refine b_goto rfl ?_
                    exact b_lp (S95 1 (Or.inl ⟨Or.inl ⟨hFk, hFo⟩, rfl⟩)) (le_e (le_e (le_e (le_n le_0)))) rfl rfl
          · have h2 : ¬ oc (F o) = 2 := fun z => hFo (oc_none.mp z)
            refine b_iload_n rfl rfl ?_
            refine b_aload_n rfl rfl ?_
            refine b_callV rfl rfl hk_M_knots rfl rfl rfl (by first | rfl | assumption) rfl (Nat.le_of_ble_eq_true rfl) (q_M_knots hM9 hn') (Nat.le_of_ble_eq_true rfl) (fun r_13 D_13 q_13 => ?_)
            obtain ⟨rfl, rfl⟩ := q_13
            refine b_icmp_ge rfl (fun c_16 => ?_) (fun c_16 => ?_)
            · exact absurd c_16 (nI_ge ho (by omega))
            · refine b_aload_n rfl rfl ?_
              refine b_iload_n rfl rfl ?_
              refine b_callV rfl rfl hk_M_isKnot rfl rfl rfl (by first | rfl | assumption) rfl (Nat.le_of_ble_eq_true rfl) (q_M_isKnot hM9 hn' n8') (Nat.le_of_ble_eq_true rfl) (fun r_21 D_21 q_21 => ?_)
              obtain ⟨rfl, hq⟩ := q_21
              rw [if_pos hx] at hq
              subst hq
              refine b_if_eq rfl (fun c_24 => ?_) (fun c_24 => ?_)
              · exact absurd c_24 (by decide)
              · refine b_aload_n rfl rfl ?_
                refine b_getR rfl (by first | rfl | assumption) rfl (by assumption) ?_
                refine b_iload_n rfl rfl ?_
                refine b_iaload rfl (by first | rfl | assumption) (by first | assumption | exact nI_toInt (by omega) | exact hi_l0 | exact hi_l1 | exact hi_l2 | exact hi_l3 | exact hi_l4 | exact hi_l5 | exact hi_l6) (by omega) ?_
                rw [k8]
                refine b_iconst rfl ?_
                refine b_icmp_ne rfl (fun c_34 => ?_) (fun c_34 => ?_)
                · exact absurd rfl c_34
                · refine b_aload_n rfl rfl ?_
                  refine b_getR rfl (by first | rfl | assumption) rfl (by assumption) ?_
                  refine b_iload_n rfl rfl ?_
                  refine b_iaload rfl (by first | rfl | assumption) (by first | assumption | exact nI_toInt (by omega) | exact hi_l0 | exact hi_l1 | exact hi_l2 | exact hi_l3 | exact hi_l4 | exact hi_l5 | exact hi_l6) (by omega) ?_
                  rw [o8]
                  refine b_iconst rfl ?_
                  refine b_icmp_ne rfl (fun c_44 => ?_) (fun c_44 => ?_)
                  · refine b_iconst rfl ?_
                    refine b_goto rfl ?_
                    exact b_lp (S95 0 (Or.inr ⟨fun z => z.elim (fun y => hFo y.2) (fun y => y.1 hFk), rfl⟩)) (le_e (le_e (le_e (le_n le_0)))) rfl rfl
                  · exact absurd ((hi_nIe (k := 2) (by omega) (by omega)).mp c_44) h2
        · rw [hFk] at k8 k9
          have k8 : I' 208 k = nI (p % 2) := k8
          have k9 : I' 209 k = nI p := k9
          have hp8 := hFx k p hFk
          have hne2 : ¬ nI (p % 2) = 2 := fun z => by have := (hi_nIe (i := p % 2) (k := 2) (by omega) (by omega)).mp z; omega
          have hplf : pl_f F k o ↔ 1 ≤ p ∧ F o = some (p - 1) := by
            constructor
            · rintro (h | h)
              · rw [hFk] at h; exact absurd h.1 (fun z => by cases z)
              · have := h.2; rw [hFk] at this; exact this
            · intro h; exact Or.inr (by rw [hFk]; exact ⟨(fun z => by cases z), h⟩)
          by_cases hoc : oc (F o) = 1 - p % 2
          · obtain ⟨y, hy, hy2⟩ := oc_of (by omega) hoc
            rw [hy] at o9
            have o9 : I' 209 o = nI y := o9
            have hy8 := hFx o y hy
            have hiff : nI y = nI p - 1 ↔ pl_f F k o := by
              rw [hplf, hy]
              constructor
              · intro z
                have z2 : nI (y + 1) = nI p := by rw [nI_succ, z, Int32.sub_add_cancel]
                have := (hi_nIe (i := y + 1) (k := p) (by omega) (by omega)).mp z2
                exact ⟨by omega, by rw [show p - 1 = y by omega]⟩
              · rintro ⟨h1, h2⟩
                have h3 : y = p - 1 := by cases h2; rfl
                rw [show p = y + 1 by omega, nI_succ, Int32.add_sub_cancel]
            refine b_iload_n rfl rfl ?_
            refine b_aload_n rfl rfl ?_
            refine b_callV rfl rfl hk_M_knots rfl rfl rfl (by first | rfl | assumption) rfl (Nat.le_of_ble_eq_true rfl) (q_M_knots hM9 hn') (Nat.le_of_ble_eq_true rfl) (fun r_13 D_13 q_13 => ?_)
            obtain ⟨rfl, rfl⟩ := q_13
            refine b_icmp_ge rfl (fun c_16 => ?_) (fun c_16 => ?_)
            · exact absurd c_16 (nI_ge ho (by omega))
            · refine b_aload_n rfl rfl ?_
              refine b_iload_n rfl rfl ?_
              refine b_callV rfl rfl hk_M_isKnot rfl rfl rfl (by first | rfl | assumption) rfl (Nat.le_of_ble_eq_true rfl) (q_M_isKnot hM9 hn' n8') (Nat.le_of_ble_eq_true rfl) (fun r_21 D_21 q_21 => ?_)
              obtain ⟨rfl, hq⟩ := q_21
              rw [if_pos hx] at hq
              subst hq
              refine b_if_eq rfl (fun c_24 => ?_) (fun c_24 => ?_)
              · exact absurd c_24 (by decide)
              · refine b_aload_n rfl rfl ?_
                refine b_getR rfl (by first | rfl | assumption) rfl (by assumption) ?_
                refine b_iload_n rfl rfl ?_
                refine b_iaload rfl (by first | rfl | assumption) (by first | assumption | exact nI_toInt (by omega) | exact hi_l0 | exact hi_l1 | exact hi_l2 | exact hi_l3 | exact hi_l4 | exact hi_l5 | exact hi_l6) (by omega) ?_
                rw [k8]
                refine b_iconst rfl ?_
                refine b_icmp_ne rfl (fun c_34 => ?_) (fun c_34 => ?_)
                · refine b_aload_n rfl rfl ?_
                  refine b_getR rfl (by first | rfl | assumption) rfl (by assumption) ?_
                  refine b_iload_n rfl rfl ?_
                  refine b_iaload rfl (by first | rfl | assumption) (by first | assumption | exact nI_toInt (by omega) | exact hi_l0 | exact hi_l1 | exact hi_l2 | exact hi_l3 | exact hi_l4 | exact hi_l5 | exact hi_l6) (by omega) ?_
                  rw [o8, hoc]
                  refine b_iconst rfl ?_
                  refine b_aload_n rfl rfl ?_
                  refine b_getR rfl (by first | rfl | assumption) rfl (by assumption) ?_
                  refine b_iload_n rfl rfl ?_
                  refine b_iaload rfl (by first | rfl | assumption) (by first | assumption | exact nI_toInt (by omega) | exact hi_l0 | exact hi_l1 | exact hi_l2 | exact hi_l3 | exact hi_l4 | exact hi_l5 | exact hi_l6) (by omega) ?_
                  rw [k8]
                  refine b_isub rfl ?_
                  rw [hi_1m]
                  refine b_icmp_ne rfl (fun c_69 => ?_) (fun c_69 => ?_)
                  · exact absurd rfl c_69
                  · refine b_aload_n rfl rfl ?_
                    refine b_getR rfl (by first | rfl | assumption) rfl (by assumption) ?_
                    refine b_iload_n rfl rfl ?_
                    refine b_iaload rfl (by first | rfl | assumption) (by first | assumption | exact nI_toInt (by omega) | exact hi_l0 | exact hi_l1 | exact hi_l2 | exact hi_l3 | exact hi_l4 | exact hi_l5 | exact hi_l6) (by omega) ?_
                    rw [o9]
                    refine b_aload_n rfl rfl ?_
                    refine b_getR rfl (by first | rfl | assumption) rfl (by assumption) ?_
                    refine b_iload_n rfl rfl ?_
                    refine b_iaload rfl (by first | rfl | assumption) (by first | assumption | exact nI_toInt (by omega) | exact hi_l0 | exact hi_l1 | exact hi_l2 | exact hi_l3 | exact hi_l4 | exact hi_l5 | exact hi_l6) (by omega) ?_
                    rw [k9]
                    refine b_iconst rfl ?_
                    refine b_isub rfl ?_
                    refine b_icmp_ne rfl (fun c_86 => ?_) (fun c_86 => ?_)
                    · refine b_iconst rfl ?_
                      first | exact b_lp (S95 1 (Or.inl ⟨hiff.mp c_86, rfl⟩)) (le_e (le_e (le_e (le_n le_0)))) rfl rfl | exact b_lp (S95 0 (Or.inr ⟨fun z => c_86 (hiff.mpr z), rfl⟩)) (le_e (le_e (le_e (le_n le_0)))) rfl rfl
                    · refine b_iconst rfl ?_
                      refine b_goto rfl ?_
                      first | exact b_lp (S95 1 (Or.inl ⟨hiff.mp c_86, rfl⟩)) (le_e (le_e (le_e (le_n le_0)))) rfl rfl | exact b_lp (S95 0 (Or.inr ⟨fun z => c_86 (hiff.mpr z), rfl⟩)) (le_e (le_e (le_e (le_n le_0)))) rfl rfl
                · exact absurd c_34 hne2
          · have hno : ¬ pl_f F k o := fun z => by
              have h2 := hplf.mp z
              rw [h2.2] at hoc
              have e : oc (some (p - 1)) = (p - 1) % 2 := rfl
              rw [e] at hoc
              omega
            refine b_iload_n rfl rfl ?_
            refine b_aload_n rfl rfl ?_
            refine b_callV rfl rfl hk_M_knots rfl rfl rfl (by first | rfl | assumption) rfl (Nat.le_of_ble_eq_true rfl) (q_M_knots hM9 hn') (Nat.le_of_ble_eq_true rfl) (fun r_13 D_13 q_13 => ?_)
            obtain ⟨rfl, rfl⟩ := q_13
            refine b_icmp_ge rfl (fun c_16 => ?_) (fun c_16 => ?_)
            · exact absurd c_16 (nI_ge ho (by omega))
            · refine b_aload_n rfl rfl ?_
              refine b_iload_n rfl rfl ?_
              refine b_callV rfl rfl hk_M_isKnot rfl rfl rfl (by first | rfl | assumption) rfl (Nat.le_of_ble_eq_true rfl) (q_M_isKnot hM9 hn' n8') (Nat.le_of_ble_eq_true rfl) (fun r_21 D_21 q_21 => ?_)
              obtain ⟨rfl, hq⟩ := q_21
              rw [if_pos hx] at hq
              subst hq
              refine b_if_eq rfl (fun c_24 => ?_) (fun c_24 => ?_)
              · exact absurd c_24 (by decide)
              · refine b_aload_n rfl rfl ?_
                refine b_getR rfl (by first | rfl | assumption) rfl (by assumption) ?_
                refine b_iload_n rfl rfl ?_
                refine b_iaload rfl (by first | rfl | assumption) (by first | assumption | exact nI_toInt (by omega) | exact hi_l0 | exact hi_l1 | exact hi_l2 | exact hi_l3 | exact hi_l4 | exact hi_l5 | exact hi_l6) (by omega) ?_
                rw [k8]
                refine b_iconst rfl ?_
                refine b_icmp_ne rfl (fun c_34 => ?_) (fun c_34 => ?_)
                · refine b_aload_n rfl rfl ?_
                  refine b_getR rfl (by first | rfl | assumption) rfl (by assumption) ?_
                  refine b_iload_n rfl rfl ?_
                  refine b_iaload rfl (by first | rfl | assumption) (by first | assumption | exact nI_toInt (by omega) | exact hi_l0 | exact hi_l1 | exact hi_l2 | exact hi_l3 | exact hi_l4 | exact hi_l5 | exact hi_l6) (by omega) ?_
                  rw [o8]
                  refine b_iconst rfl ?_
                  refine b_aload_n rfl rfl ?_
                  refine b_getR rfl (by first | rfl | assumption) rfl (by assumption) ?_
                  refine b_iload_n rfl rfl ?_
                  refine b_iaload rfl (by first | rfl | assumption) (by first | assumption | exact nI_toInt (by omega) | exact hi_l0 | exact hi_l1 | exact hi_l2 | exact hi_l3 | exact hi_l4 | exact hi_l5 | exact hi_l6) (by omega) ?_
                  rw [k8]
                  refine b_isub rfl ?_
                  rw [hi_1m]
                  refine b_icmp_ne rfl (fun c_69 => ?_) (fun c_69 => ?_)
                  · refine b_iconst rfl ?_
                    exact b_lp (S95 0 (Or.inr ⟨hno, rfl⟩)) (le_e (le_e (le_e (le_n le_0)))) rfl rfl
                  · exact absurd ((hi_nIe (i := oc (F o)) (k := 1 - p % 2) (by omega) (by omega)).mp c_69) hoc
                · exact absurd c_34 hne2
    refine b_aload_n rfl rfl ?_
    refine b_iconst rfl ?_
    refine b_putI rfl (by first | rfl | assumption) rfl rfl ⟨rfl, rfl⟩ ?_
    have hB1 := hs_B_0 (v := 0) hB
    have hs0 : hs_sm I J R (hn_u I 188 0 0, J, R) := hs_sm_0
    obtain ⟨I0, h0⟩ : ∃ z, z = hn_u I 188 0 0 := ⟨_, rfl⟩
    rw [← h0] at hB1 hs0 ⊢
    have e0 : ∀ b, b ≠ 188 → I0 b = I b := fun b hb => by rw [h0, hn_u_ne _ _ _ hb]
    have e188 : ∀ j, j ≠ 0 → I0 188 j = I 188 j := fun j hj => by rw [h0, hn_u_eq, va_up, if_neg hj]
    have hB2 := hB1
    obtain ⟨hR, hN, hQ, hfm, hw, hAw⟩ := hB1
    have hM := hs_M_of hR
    have hN0 := hN
    have hQ0 := hQ
    have hw0 := hw
    obtain ⟨⟨hn, n8, hnp, n4, hkn⟩, hL⟩ := hN
    obtain ⟨⟨_, hVs, hVw, hVp, hVh⟩, hVt⟩ := hQ
    simp only [Nat.zero_add] at hVs hVw hVp hVh
    obtain ⟨m1, m4, m5, m6, m9, m10, m11, m12, m14, m15, m16, m17, m20, m21, m22, m23, m25, m27, m28, m29, m30, m31, m32⟩ := id hM
    refine b_aload_n rfl rfl ?_
    refine b_callV rfl rfl hk_M_tugsNow rfl rfl rfl (by first | rfl | assumption) rfl (Nat.le_of_ble_eq_true rfl) (q_M_tugsNow hB2) (Nat.le_of_ble_eq_true rfl) (fun r_6 D_6 q_6 => ?_)
    obtain ⟨rfl, I2, rfl, hf, hT⟩ := q_6
    rw [← hF] at hT
    refine b_iconst rfl ?_
    refine b_istore_n rfl (Nat.le_of_ble_eq_true rfl) ?_
    exact b_lp (lp I2 (sm_y hs0 (fun b hb => hf b (by omega) (by omega))) hT) (le_e (le_e (le_q (by rw [nI_0]) (le_n le_0)))) rfl rfl
  · rw [v_pull, sp_at_out hx]
    refine b_aload_n rfl rfl ?_
    refine b_iconst rfl ?_
    refine b_putI rfl (by first | rfl | assumption) rfl rfl ⟨rfl, rfl⟩ ?_
    have hB1 := hs_B_0 (v := 0) hB
    have hs0 : hs_sm I J R (hn_u I 188 0 0, J, R) := hs_sm_0
    obtain ⟨I0, h0⟩ : ∃ z, z = hn_u I 188 0 0 := ⟨_, rfl⟩
    rw [← h0] at hB1 hs0 ⊢
    have e0 : ∀ b, b ≠ 188 → I0 b = I b := fun b hb => by rw [h0, hn_u_ne _ _ _ hb]
    have e188 : ∀ j, j ≠ 0 → I0 188 j = I 188 j := fun j hj => by rw [h0, hn_u_eq, va_up, if_neg hj]
    have hB2 := hB1
    obtain ⟨hR, hN, hQ, hfm, hw, hAw⟩ := hB1
    have hM := hs_M_of hR
    have hN0 := hN
    have hQ0 := hQ
    have hw0 := hw
    obtain ⟨⟨hn, n8, hnp, n4, hkn⟩, hL⟩ := hN
    obtain ⟨⟨_, hVs, hVw, hVp, hVh⟩, hVt⟩ := hQ
    simp only [Nat.zero_add] at hVs hVw hVp hVh
    obtain ⟨m1, m4, m5, m6, m9, m10, m11, m12, m14, m15, m16, m17, m20, m21, m22, m23, m25, m27, m28, m29, m30, m31, m32⟩ := id hM
    refine b_aload_n rfl rfl ?_
    refine b_callV rfl rfl hk_M_tugsNow rfl rfl rfl (by first | rfl | assumption) rfl (Nat.le_of_ble_eq_true rfl) (q_M_tugsNow hB2) (Nat.le_of_ble_eq_true rfl) (fun r_6 D_6 q_6 => ?_)
    obtain ⟨rfl, I2, rfl, hf, hT⟩ := q_6
    have hs2 := sm_y hs0 (I2 := I2) (fun b hb => hf b (by omega) (by omega))
    have hn2 := (hs_B_sm hB hs2).2.1.1.1
    refine b_iconst rfl ?_
    refine b_istore_n rfl (Nat.le_of_ble_eq_true rfl) ?_
    refine b_iload_n rfl rfl ?_
    refine b_aload_n rfl rfl ?_
    refine b_callV rfl rfl hk_M_knots rfl rfl rfl (by first | rfl | assumption) rfl (Nat.le_of_ble_eq_true rfl) (q_M_knots hM hn2) (Nat.le_of_ble_eq_true rfl) (fun r_13 D_13 q_13 => ?_)
    obtain ⟨rfl, rfl⟩ := q_13
    refine b_icmp_ge rfl (fun c_16 => ?_) (fun c_16 => ?_)
    · refine b_iconst rfl ?_
      exact b_ireturn rfl trivial (⟨hs2, rfl⟩)
    · refine b_aload_n rfl rfl ?_
      refine b_iload_n rfl rfl ?_
      refine b_callV rfl rfl hk_M_isKnot rfl rfl rfl (by first | rfl | assumption) rfl (Nat.le_of_ble_eq_true rfl) (q_M_isKnot hM hn2 n8') (Nat.le_of_ble_eq_true rfl) (fun r_21 D_21 q_21 => ?_)
      obtain ⟨rfl, hq⟩ := q_21
      rw [if_neg hx] at hq
      subst hq
      refine b_if_eq rfl (fun c_24 => ?_) (fun c_24 => ?_)
      · refine b_iconst rfl ?_
        exact b_ireturn rfl trivial (⟨hs2, rfl⟩)
      · exact absurd rfl c_24
/-! nobody falls while some slips are firm -/
def hq (N : sp_N) (Q : sp_Q) (fm : Int32) : Nat → sp_Q := sp_up (fun _ q => (sp_hr N fm (-1) q).1) Q
abbrev nf (N : sp_N) (Q : sp_Q) (fm : Int32) (i : Nat) : Prop := (sp_hr N fm (-1) (hq N Q fm i)).2 = 0
def kp (N : sp_N) (Q : sp_Q) (fm : Int32) : Prop := ∀ i, i < 60 → nf N Q fm i
theorem hq_w {fm : Int32} (h4 : N.2.1 ≤ 4) (hw : hs_Qw N.1 N.2.1 Q) : ∀ i, hs_Qw N.1 N.2.1 (hq N Q fm i)
  | 0 => hw
  | i + 1 => sp_hr_w h4 (hq_w h4 hw i)
theorem awake_no {q : sp_Q} {np : Nat} (h4 : np ≤ 4) (h : sp_awake (qW q) (qP q) np = 0) : ∀ p, p < np → ¬ sp_awk (qW q) (qP q) p := by
  have e : sp_awake (qW q) (qP q) np = sp_set (fun p => sp_awk (qW q) (qP q) p) np := rfl
  rw [e, sp_zero (sp_set_lt _ np np (Nat.le_refl _) (by omega)) (by omega)] at h
  intro p hp ha
  exact h p hp ((sp_set_bit _ (by omega) np (by omega)).mpr ⟨hp, ha⟩)
theorem hr_still {q : sp_Q} {fm odd : Int32} (h : ∀ p, p < N.2.1 → ¬ sp_awk (qW q) (qP q) p) : (sp_hr N fm odd q).2 = 0 ∧ qW (sp_hr N fm odd q).1 = qW q ∧ qP (sp_hr N fm odd q).1 = qP q := by
  have key : ∀ m, m ≤ N.2.1 → sp_up (sp_ps N.1 (nK N) (nH N) (nF N) fm (qS q) N.2.1 odd) ((qW q, qP q, qH q), 0) m = ((qW q, qP q, qH q), 0) := by
    intro m
    induction m with
    | zero => intro _; rfl
    | succ m ih =>
      intro hm
      show sp_ps N.1 (nK N) (nH N) (nF N) fm (qS q) N.2.1 odd m (sp_up (sp_ps N.1 (nK N) (nH N) (nF N) fm (qS q) N.2.1 odd) ((qW q, qP q, qH q), 0) m) = _
      rw [ih (by omega)]
      unfold sp_ps
      rw [if_neg (h m (by omega))]
  have e := key N.2.1 (Nat.le_refl _)
  refine ⟨congrArg (fun z => z.2) e, congrArg (fun z => z.1.1) e, congrArg (fun z => z.1.2.1) e⟩
theorem nf_still {fm : Int32} {i : Nat} (h : ∀ p, p < N.2.1 → ¬ sp_awk (qW (hq N Q fm i)) (qP (hq N Q fm i)) p) : ∀ m, nf N Q fm (i + m) ∧ ∀ p, p < N.2.1 → ¬ sp_awk (qW (hq N Q fm (i + m))) (qP (hq N Q fm (i + m))) p
  | 0 => ⟨(hr_still h).1, h⟩
  | m + 1 => by
    have ih := (nf_still h m).2
    have e := hr_still (fm := fm) (odd := -1) ih
    have h2 : ∀ p, p < N.2.1 → ¬ sp_awk (qW (hq N Q fm (i + m + 1))) (qP (hq N Q fm (i + m + 1))) p := by
      intro p hp
      show ¬ sp_awk (qW (sp_hr N fm (-1) (hq N Q fm (i + m))).1) (qP (sp_hr N fm (-1) (hq N Q fm (i + m))).1) p
      rw [e.2.1, e.2.2]; exact ih p hp
    exact ⟨(hr_still h2).1, h2⟩
theorem q_X_keepsAll {I0 : Nat → Nat → Int32} {fm : Int32} (hA : hs_A I R t N Q) (hf : ∀ b, ¬ hs_xs t b → I0 b = I b) (hz' : hs_z I0 49) : hn_F 6 hm_X_keepsAll [.ref 0, .int fm] (I0, J, R) (fun r D' => (∃ I2, D' = (I2, J, R) ∧ (∀ b, ¬ hs_xs t b → I2 b = I b) ∧ hs_z I2 49) ∧ ((kp N Q fm ∧ r = some (.int 1)) ∨ (¬ kp N Q fm ∧ r = some (.int 0)))) := by
  have hA0 := hA
  obtain ⟨hR, r2, ht, hN, hX, hw, hz, hAw⟩ := hA
  have hN0 := hN
  have hX0 := hX
  have hw0 := hw
  obtain ⟨n0, n8, n4, nk, nh, na, hc, ncd⟩ := hN
  obtain ⟨x1, x2, x3, x4, x5, x6, x7⟩ := hX
  obtain ⟨r6, r7, r8, r11, r12, r13, r14, r15, r16, r17, r18⟩ := hs_x0 hR
  have hSt := hs_St_of hR (show 44 ∈ hs_sc by decide)
  have hNt := hs_Net_of hR ht
  obtain ⟨_, sk0, sk1, sk2, sk3, sk4, g0, g1, g2, g3⟩ := id hSt
  obtain ⟨tt5, tn0, tn1, tn2, tn3, tn4, tn5, tn6, tn7, tn8, tn9, tn10, ts1, ts2, ts3, ts4, ts5, ts7, ts8, tl0, tl2, tl6, tl7⟩ := id hNt
  have hSt9 := hs_St_of hR (show 49 ∈ hs_sc by decide)
  have k49 := hSt9.2.1
  have hqw := hq_w (fm := fm) n4 hw0
  refine hn_F_of _ hk_X_keepsAll rfl (Nat.le_of_ble_eq_true rfl) ?_
  obtain ⟨P, hPd⟩ : ∃ P : Option Value → hnD → Prop, P = (fun r D' => (∃ I2, D' = (I2, J, R) ∧ (∀ b, ¬ hs_xs t b → I2 b = I b) ∧ hs_z I2 49) ∧ ((kp N Q fm ∧ r = some (.int 1)) ∨ (¬ kp N Q fm ∧ r = some (.int 0)))) := ⟨_, rfl⟩
  rw [← hPd]
  have lp : (∀ i, i < 0 → nf N Q fm i) → ∀ I', hs_xt t N I (hq N Q fm 0) fm I' → hn_B 6 hm_X_keepsAll P 21 [.ref 0, .int fm, .int (nI 0)] [] (I', J, R) := by
    refine sp_ind 60 (fun k => (∀ i, i < k → nf N Q fm i) → ∀ I', hs_xt t N I (hq N Q fm k) fm I' → hn_B 6 hm_X_keepsAll P 21 [.ref 0, .int fm, .int (nI k)] [] (I', J, R)) ?_ ?_
    · intro hall I' h
      refine b_iload_n rfl rfl ?_
      refine b_bipush rfl ?_
      refine b_icmp_ge rfl (fun c_24 => ?_) (fun c_24 => ?_)
      · refine b_iconst rfl ?_
        exact b_ireturn rfl (by first | exact Or.inl rfl | exact Or.inr rfl | exact trivial) ((by rw [hPd]; exact ⟨⟨I', rfl, h.1, hs_xt_z hA0 h⟩, Or.inl ⟨hall, rfl⟩⟩))
      · exact absurd (show (60 : Int32) ≤ nI 60 by decide) c_24
    · intro k hk ih hall I' h
      have c24 : ¬ (60 : Int32) ≤ nI k := fun z => nI_ge (b := 60) hk (by omega) z
      by_cases ha : sp_awake (qW (hq N Q fm k)) (qP (hq N Q fm k)) N.2.1 = 0
      · have hkp : kp N Q fm := fun i hi => by
          by_cases hik : i < k
          · exact hall i hik
          · have := (nf_still (awake_no n4 ha) (i - k)).1
            rwa [show k + (i - k) = i by omega] at this
        refine b_iload_n rfl rfl ?_
        refine b_bipush rfl ?_
        refine b_icmp_ge rfl (fun c_24 => ?_) (fun c_24 => ?_)
        · exact absurd c_24 c24
        · refine b_aload_n rfl rfl ?_
          refine b_getR rfl (by first | rfl | assumption) rfl (by assumption) ?_
          refine b_callV rfl rfl hk_State_awake rfl rfl rfl (by first | rfl | assumption) rfl (Nat.le_of_ble_eq_true rfl) (q_State_awake hSt9 h.2.1.2.2.2.2.1 n4) (Nat.le_of_ble_eq_true rfl) (fun r_31 D_31 q_31 => ?_)
          obtain ⟨rfl, hq⟩ := q_31
          rw [h.2.1.2.1, P3_awake h.2.1.2.2.1, ha] at hq
          subst hq
          refine b_if_ne rfl (fun c_34 => ?_) (fun c_34 => ?_)
          · exact absurd rfl c_34
          · refine b_iconst rfl ?_
            exact b_ireturn rfl (by first | exact Or.inl rfl | exact Or.inr rfl | exact trivial) ((by rw [hPd]; exact ⟨⟨I', rfl, h.1, hs_xt_z hA0 h⟩, Or.inl ⟨hkp, rfl⟩⟩))
      · by_cases hn : nf N Q fm k
        · refine b_iload_n rfl rfl ?_
          refine b_bipush rfl ?_
          refine b_icmp_ge rfl (fun c_24 => ?_) (fun c_24 => ?_)
          · exact absurd c_24 c24
          · refine b_aload_n rfl rfl ?_
            refine b_getR rfl (by first | rfl | assumption) rfl (by assumption) ?_
            refine b_callV rfl rfl hk_State_awake rfl rfl rfl (by first | rfl | assumption) rfl (Nat.le_of_ble_eq_true rfl) (q_State_awake hSt9 h.2.1.2.2.2.2.1 n4) (Nat.le_of_ble_eq_true rfl) (fun r_31 D_31 q_31 => ?_)
            obtain ⟨rfl, hq⟩ := q_31
            rw [h.2.1.2.1, P3_awake h.2.1.2.2.1] at hq
            subst hq
            refine b_if_ne rfl (fun c_34 => ?_) (fun c_34 => ?_)
            · refine b_aload_n rfl rfl ?_
              refine b_getR rfl (by first | rfl | assumption) rfl (by assumption) ?_
              refine b_aload_n rfl rfl ?_
              refine b_getR rfl (by first | rfl | assumption) rfl (by assumption) ?_
              refine b_iconst rfl ?_
              refine b_callV rfl rfl hk_State_passHour rfl rfl rfl (by first | rfl | assumption) rfl (Nat.le_of_ble_eq_true rfl) (qx_th (odd := -1) hA0 h) (Nat.le_of_ble_eq_true rfl) (fun r_48 D_48 q_48 => ?_)
              obtain ⟨⟨I2, rfl, h2⟩, hq⟩ := q_48
              rw [hn] at hq
              subst hq
              refine b_if_eq rfl (fun c_51 => ?_) (fun c_51 => ?_)
              · refine b_iinc rfl rfl (Nat.le_of_ble_eq_true rfl) ?_
                refine b_goto rfl ?_
                exact b_lp (ih (fun i hi => by by_cases e : i = k; exact e ▸ hn; exact hall i (by omega)) I2 h2) (le_e (le_e (le_q (by rw [nI_succ]) le_0))) rfl rfl
              · exact absurd rfl c_51
            · exact absurd c_34 ha
        · refine b_iload_n rfl rfl ?_
          refine b_bipush rfl ?_
          refine b_icmp_ge rfl (fun c_24 => ?_) (fun c_24 => ?_)
          · exact absurd c_24 c24
          · refine b_aload_n rfl rfl ?_
            refine b_getR rfl (by first | rfl | assumption) rfl (by assumption) ?_
            refine b_callV rfl rfl hk_State_awake rfl rfl rfl (by first | rfl | assumption) rfl (Nat.le_of_ble_eq_true rfl) (q_State_awake hSt9 h.2.1.2.2.2.2.1 n4) (Nat.le_of_ble_eq_true rfl) (fun r_31 D_31 q_31 => ?_)
            obtain ⟨rfl, hq⟩ := q_31
            rw [h.2.1.2.1, P3_awake h.2.1.2.2.1] at hq
            subst hq
            refine b_if_ne rfl (fun c_34 => ?_) (fun c_34 => ?_)
            · refine b_aload_n rfl rfl ?_
              refine b_getR rfl (by first | rfl | assumption) rfl (by assumption) ?_
              refine b_aload_n rfl rfl ?_
              refine b_getR rfl (by first | rfl | assumption) rfl (by assumption) ?_
              refine b_iconst rfl ?_
              refine b_callV rfl rfl hk_State_passHour rfl rfl rfl (by first | rfl | assumption) rfl (Nat.le_of_ble_eq_true rfl) (qx_th (odd := -1) hA0 h) (Nat.le_of_ble_eq_true rfl) (fun r_48 D_48 q_48 => ?_)
              obtain ⟨⟨I2, rfl, h2⟩, rfl⟩ := q_48
              refine b_if_eq rfl (fun c_51 => ?_) (fun c_51 => ?_)
              · exact absurd c_51 hn
              · refine b_iconst rfl ?_
                exact b_ireturn rfl (by first | exact Or.inl rfl | exact Or.inr rfl | exact trivial) ((by rw [hPd]; exact ⟨⟨I2, rfl, h2.1, hs_xt_z hA0 h2⟩, Or.inr ⟨fun z => hn (z k hk), rfl⟩⟩))
            · exact absurd c_34 ha
  refine b_aload_n rfl rfl ?_
  refine b_getR rfl (by first | rfl | assumption) rfl (by assumption) ?_
  refine b_aload_n rfl rfl ?_
  refine b_getR rfl (by first | rfl | assumption) rfl (by assumption) ?_
  refine b_callV rfl rfl hk_State_copy rfl rfl rfl (by first | rfl | assumption) rfl (Nat.le_of_ble_eq_true rfl) (qx_tc hA0 hf hz' rfl) (Nat.le_of_ble_eq_true rfl) (fun r_8 D_8 q_8 => ?_)
  obtain ⟨rfl, I1, rfl, h1⟩ := q_8
  obtain ⟨g1, g2, g3⟩ := h1
  refine b_aload_n rfl rfl ?_
  refine b_getR rfl (by first | rfl | assumption) rfl (by assumption) ?_
  refine b_iload_n rfl rfl ?_
  refine b_putI rfl (by first | rfl | assumption) rfl rfl ⟨rfl, rfl⟩ ?_
  refine b_iconst rfl ?_
  refine b_istore_n rfl (Nat.le_of_ble_eq_true rfl) ?_
  exact b_lp (lp (fun i hi => absurd hi (by omega)) (hn_u I1 49 6 fm) ⟨fun b hb => by rw [hn_u_ne _ _ _ (fun e => hb (Or.inl (by omega)))]; exact g1 b hb, ⟨by rw [hn_u_ne _ _ _ (by omega)]; exact g2.1, by rw [hn_u_ne _ _ _ (by omega)]; exact g2.2.1, by rw [hn_u_ne _ _ _ (by omega)]; exact g2.2.2.1, by rw [hn_u_ne _ _ _ (by omega)]; exact g2.2.2.2.1, by rw [hn_u_eq, va_up, if_neg (by omega)]; exact g2.2.2.2.2.1, by rw [hn_u_eq, va_up, if_neg (by omega)]; exact g2.2.2.2.2.2.1, by rw [hn_u_eq, va_up, if_pos rfl]⟩, g3⟩) (le_e (le_e (le_q (by rw [nI_0]) le_0))) rfl rfl
/-! the sets -/
def gd (N : sp_N) (Q : sp_Q) (s : Nat) : Prop := nI s &&& (sp_slips (nK N) N.1 ^^^ -1) = 0 ∧ kp N Q (nI s)
def pn (s : Nat) : Nat := (sp_pop (nI s)).toInt.toNat
theorem pn_of {s : Nat} (h : s < 256) : sp_pop (nI s) = nI (pn s) ∧ pn s ≤ 8 := by
  have key : ∀ s : Fin 256, sp_pop (nI s.val) = nI (pn s.val) ∧ pn s.val ≤ 8 := by decide +kernel
  exact key ⟨s, h⟩
noncomputable def hb (N : sp_N) (Q : sp_Q) : Nat → Option Nat := sp_up (fun s b => @ite _ (gd N Q s ∧ ∀ c, b = some c → pn s < pn c) (Classical.propDecidable _) (some s) b) none
theorem hb_s (N : sp_N) (Q : sp_Q) (s : Nat) : hb N Q (s + 1) = @ite _ (gd N Q s ∧ ∀ c, hb N Q s = some c → pn s < pn c) (Classical.propDecidable _) (some s) (hb N Q s) := rfl
abbrev hb_m (N : sp_N) (Q : sp_Q) (m o : Nat) : Prop := o < m ∧ gd N Q o ∧ ∀ j, j < m → gd N Q j → pn o < pn j ∨ (pn o = pn j ∧ o ≤ j)
theorem hb_is : ∀ m, (hb N Q m = none ∧ ∀ j, j < m → ¬ gd N Q j) ∨ ∃ o, hb N Q m = some o ∧ hb_m N Q m o
  | 0 => Or.inl ⟨rfl, fun j hj => absurd hj (by omega)⟩
  | m + 1 => by
    rw [hb_s]
    rcases hb_is m with ⟨h1, h2⟩ | ⟨o, h1, h2, h3, h4⟩
    · by_cases hg : gd N Q m
      · rw [if_pos ⟨hg, fun c hc => by rw [h1] at hc; cases hc⟩]
        refine Or.inr ⟨m, rfl, by omega, hg, fun j hj hgj => ?_⟩
        by_cases e : j = m
        · subst e; exact Or.inr ⟨rfl, Nat.le_refl _⟩
        · exact absurd hgj (h2 j (by omega))
      · rw [if_neg (fun z => hg z.1)]
        refine Or.inl ⟨h1, fun j hj hgj => ?_⟩
        by_cases e : j = m
        · subst e; exact hg hgj
        · exact h2 j (by omega) hgj
    · by_cases hg : gd N Q m ∧ pn m < pn o
      · rw [if_pos ⟨hg.1, fun c hc => by rw [h1] at hc; cases hc; exact hg.2⟩]
        refine Or.inr ⟨m, rfl, by omega, hg.1, fun j hj hgj => ?_⟩
        by_cases e : j = m
        · subst e; exact Or.inr ⟨rfl, Nat.le_refl _⟩
        · have := h4 j (by omega) hgj; exact Or.inl (by omega)
      · rw [if_neg (fun z => hg ⟨z.1, z.2 o h1⟩)]
        refine Or.inr ⟨o, h1, by omega, h3, fun j hj hgj => ?_⟩
        by_cases e : j = m
        · subst e
          have : ¬ pn j < pn o := fun y => hg ⟨hgj, y⟩
          omega
        · exact h4 j (by omega) hgj
theorem sp_slips_set (kd : Nat → Int32) (n : Nat) : sp_slips kd n = sp_set (fun k => kd k = 2) n := rfl
theorem hr_nofall {q : sp_Q} {fm odd : Int32} (h : ∀ k w, k < N.1 → ¬ sp_fall (nK N) (nH N) fm k w) : (sp_hr N fm odd q).2 = 0 := by
  have key : ∀ m, (sp_up (sp_ps N.1 (nK N) (nH N) (nF N) fm (qS q) N.2.1 odd) ((qW q, qP q, qH q), 0) m).2 = 0 := by
    intro m
    induction m with
    | zero => rfl
    | succ m ih =>
      show (sp_ps N.1 (nK N) (nH N) (nF N) fm (qS q) N.2.1 odd m (sp_up (sp_ps N.1 (nK N) (nH N) (nF N) fm (qS q) N.2.1 odd) ((qW q, qP q, qH q), 0) m)).2 = 0
      generalize sp_up (sp_ps N.1 (nK N) (nH N) (nF N) fm (qS q) N.2.1 odd) ((qW q, qP q, qH q), 0) m = T at ih ⊢
      unfold sp_ps
      split
      · cases hp : sp_pick (nH N) (qS q (T.1.2.1 m).toNatClampNeg) (nI m = odd) N.1 with
        | none => exact ih
        | some k =>
          simp only
          rw [if_neg (h k _ (sp_pick_lt _ _ _ _ _ hp))]
          exact ih
      · exact ih
  exact key N.2.1
theorem gd_slips (h8 : N.1 ≤ 8) : ∃ s, s < 2 ^ N.1 ∧ sp_slips (nK N) N.1 = nI s ∧ gd N Q s := by
  obtain ⟨s, hs, e⟩ := sp_set_lt (fun k => nK N k = 2) N.1 N.1 (Nat.le_refl _) (by omega)
  have e : sp_slips (nK N) N.1 = nI s := e
  refine ⟨s, hs, e, ?_, fun i _ => hr_nofall (fun k w hk hf => ?_)⟩
  · rw [e, sp_andn ⟨s, hs, rfl⟩ (by omega)]
    exact fun _ _ h => h
  · have hf1 := hf.1
    unfold sp_kind at hf1
    by_cases hb9 : sp_bit (nI s) k
    · rw [if_pos hb9] at hf1; exact absurd hf1 (by decide)
    · rw [if_neg hb9] at hf1
      refine hb9 ?_
      rw [← e, sp_slips_set]
      exact (sp_set_bit _ (by omega) N.1 (by omega)).mpr ⟨hk, hf1⟩
theorem gd_lt (h8 : N.1 ≤ 8) {s : Nat} (hs : s < 256) (h : gd N Q s) : s < 2 ^ N.1 := by
  have h1 := h.1
  rw [sp_andn (n := 8) ⟨s, hs, rfl⟩ (by omega)] at h1
  refine Classical.byContradiction (fun hge => ?_)
  have hall : ∀ k, N.1 ≤ k → k < 8 → ¬ sp_bit (nI s) k := fun k hk h9 hb => by
    have := (sp_set_bit (fun k => nK N k = 2) (k := k) (by omega) N.1 (by omega)).mp (h1 k h9 hb)
    omega
  have hand : sp_lt N.1 (nI s) := by
    have hx : nI s = sp_set (fun k => sp_bit (nI s) k) N.1 := by
      refine sp_ext (n := 8) ⟨s, hs, rfl⟩ (sp_set_lt _ N.1 8 h8 (by omega)) (by omega) (fun k hk => ?_)
      rw [sp_set_bit _ (by omega) N.1 (by omega)]
      constructor
      · intro hb
        exact ⟨Nat.lt_of_not_le (fun z => hall k z hk hb), hb⟩
      · exact fun z => z.2
    rw [hx]
    exact sp_set_lt _ N.1 N.1 (Nat.le_refl _) (by omega)
  obtain ⟨i, hi, e⟩ := hand
  have hpw := (pw8 h8).2
  have := (hi_nIe (i := s) (k := i) (by omega) (by omega)).mp e
  omega
noncomputable def v_held (N : sp_N) (Q : sp_Q) : Int32 := sp_enc (hb N Q (2 ^ N.1))
theorem v_held_is (h8 : N.1 ≤ 8) : ∃ o, hb N Q (2 ^ N.1) = some o ∧ hb_m N Q (2 ^ N.1) o := by
  rcases hb_is (N := N) (Q := Q) (2 ^ N.1) with ⟨_, h2⟩ | h
  · obtain ⟨s, hs, _, hg⟩ := gd_slips (N := N) (Q := Q) h8
    exact absurd hg (h2 s hs)
  · exact h
theorem q_X_held (hA : hs_A I R t N Q) : hn_F 7 hm_X_held [.ref 0] (I, J, R) (fun r D' => hs_sx t I J R D' ∧ r = some (.int (v_held N Q))) := by
  have hA0 := hA
  obtain ⟨hR, r2, ht, hN, hX, hw, hz, hAw⟩ := hA
  have hN0 := hN
  have hX0 := hX
  have hw0 := hw
  obtain ⟨n0, n8, n4, nk, nh, na, hc, ncd⟩ := hN
  obtain ⟨x1, x2, x3, x4, x5, x6, x7⟩ := hX
  obtain ⟨r6, r7, r8, r11, r12, r13, r14, r15, r16, r17, r18⟩ := hs_x0 hR
  have hSt := hs_St_of hR (show 44 ∈ hs_sc by decide)
  have hNt := hs_Net_of hR ht
  obtain ⟨_, sk0, sk1, sk2, sk3, sk4, g0, g1, g2, g3⟩ := id hSt
  obtain ⟨tt5, tn0, tn1, tn2, tn3, tn4, tn5, tn6, tn7, tn8, tn9, tn10, ts1, ts2, ts3, ts4, ts5, ts7, ts8, tl0, tl2, tl6, tl7⟩ := id hNt
  obtain ⟨o, ho, hom, hog, hol⟩ := v_held_is (N := N) (Q := Q) n8
  have hpw := (pw8 n8).2
  obtain ⟨po1, po2⟩ := pn_of (s := o) (by omega)
  rw [v_held, ho]
  refine hn_F_of _ hk_X_held rfl (Nat.le_of_ble_eq_true rfl) ?_
  obtain ⟨P, hPd⟩ : ∃ P : Option Value → hnD → Prop, P = (fun r D' => hs_sx t I J R D' ∧ r = some (.int (sp_enc (some o)))) := ⟨_, rfl⟩
  rw [← hPd]
  have step : ∀ z s, z ≤ 8 → s < 256 → ∀ I', (∀ b, ¬ hs_xs t b → I' b = I b) → hs_z I' 49 → (gd N Q s ∧ pn s = z → z = pn o ∧ s = o) → (¬ (gd N Q s ∧ pn s = z) → ∀ I', (∀ b, ¬ hs_xs t b → I' b = I b) → hs_z I' 49 → hn_B 7 hm_X_held P 18 [.ref 0, .int (sp_slips (nK N) N.1), .int (nI z), .int (nI (s + 1))] [] (I', J, R)) → hn_B 7 hm_X_held P 18 [.ref 0, .int (sp_slips (nK N) N.1), .int (nI z), .int (nI s)] [] (I', J, R) := by
    intro z s hz8 hs I' hf hz' hyes hno
    obtain ⟨ps1, ps2⟩ := pn_of hs
    by_cases h1 : nI s &&& (sp_slips (nK N) N.1 ^^^ -1) = 0
    · by_cases h2 : pn s = z
      · by_cases h3 : kp N Q (nI s)
        · obtain ⟨_, hso⟩ := hyes ⟨⟨h1, h3⟩, h2⟩
          refine b_iload_n rfl rfl ?_
          refine b_sipush rfl ?_
          refine b_icmp_ge rfl (fun c_22 => ?_) (fun c_22 => ?_)
          · exact absurd c_22 (nI_ge (b := 256) hs (by omega))
          · refine b_iload_n rfl rfl ?_
            refine b_iload_n rfl rfl ?_
            refine b_iconst rfl ?_
            refine b_ixor rfl ?_
            refine b_iand rfl ?_
            refine b_if_ne rfl (fun c_30 => ?_) (fun c_30 => ?_)
            · exact absurd h1 c_30
            · refine b_iload_n rfl rfl ?_
              refine b_callS rfl rfl hk_JI_bitCount rfl rfl rfl (Nat.le_of_ble_eq_true rfl) (q_bitCount) (Nat.le_of_ble_eq_true rfl) (fun r_34 D_34 q_34 => ?_)
              obtain ⟨rfl, rfl⟩ := q_34
              rw [bc_small ⟨s, hs⟩, ps1, h2]
              refine b_iload_n rfl rfl ?_
              refine b_icmp_ne rfl (fun c_38 => ?_) (fun c_38 => ?_)
              · exact absurd rfl c_38
              · refine b_aload_n rfl rfl ?_
                refine b_iload_n rfl rfl ?_
                refine b_callV rfl rfl hk_X_keepsAll rfl rfl rfl (by first | rfl | assumption) rfl (Nat.le_of_ble_eq_true rfl) (q_X_keepsAll hA0 hf hz') (Nat.le_of_ble_eq_true rfl) (fun r_43 D_43 q_43 => ?_)
                obtain ⟨⟨I2, rfl, hf2, hz2⟩, hq9⟩ := q_43
                have hq9 := (hq9.resolve_right (fun z => z.1 h3)).2
                subst hq9
                refine b_if_eq rfl (fun c_46 => ?_) (fun c_46 => ?_)
                · exact absurd c_46 (by decide)
                · refine b_iload_n rfl rfl ?_
                  exact b_ireturn rfl trivial ((by rw [hPd]; exact ⟨⟨rfl, hf2, fun _ _ _ _ => rfl, hz2⟩, by rw [hso]; rfl⟩))
        · have hno := hno (fun y => h3 y.1.2)
          refine b_iload_n rfl rfl ?_
          refine b_sipush rfl ?_
          refine b_icmp_ge rfl (fun c_22 => ?_) (fun c_22 => ?_)
          · exact absurd c_22 (nI_ge (b := 256) hs (by omega))
          · refine b_iload_n rfl rfl ?_
            refine b_iload_n rfl rfl ?_
            refine b_iconst rfl ?_
            refine b_ixor rfl ?_
            refine b_iand rfl ?_
            refine b_if_ne rfl (fun c_30 => ?_) (fun c_30 => ?_)
            · exact absurd h1 c_30
            · refine b_iload_n rfl rfl ?_
              refine b_callS rfl rfl hk_JI_bitCount rfl rfl rfl (Nat.le_of_ble_eq_true rfl) (q_bitCount) (Nat.le_of_ble_eq_true rfl) (fun r_34 D_34 q_34 => ?_)
              obtain ⟨rfl, rfl⟩ := q_34
              rw [bc_small ⟨s, hs⟩, ps1, h2]
              refine b_iload_n rfl rfl ?_
              refine b_icmp_ne rfl (fun c_38 => ?_) (fun c_38 => ?_)
              · exact absurd rfl c_38
              · refine b_aload_n rfl rfl ?_
                refine b_iload_n rfl rfl ?_
                refine b_callV rfl rfl hk_X_keepsAll rfl rfl rfl (by first | rfl | assumption) rfl (Nat.le_of_ble_eq_true rfl) (q_X_keepsAll hA0 hf hz') (Nat.le_of_ble_eq_true rfl) (fun r_43 D_43 q_43 => ?_)
                obtain ⟨⟨I2, rfl, hf2, hz2⟩, hq9⟩ := q_43
                have hq9 := (hq9.resolve_left (fun z => h3 z.1)).2
                subst hq9
                refine b_if_eq rfl (fun c_46 => ?_) (fun c_46 => ?_)
                · refine b_iinc rfl rfl (Nat.le_of_ble_eq_true rfl) ?_
                  refine b_goto rfl ?_
                  exact b_lp (hno I2 hf2 hz2) (le_e (le_e (le_e (le_q (by rw [nI_succ]) le_0)))) rfl rfl
                · exact absurd rfl c_46
      · have hno := hno (fun y => h2 y.2)
        refine b_iload_n rfl rfl ?_
        refine b_sipush rfl ?_
        refine b_icmp_ge rfl (fun c_22 => ?_) (fun c_22 => ?_)
        · exact absurd c_22 (nI_ge (b := 256) hs (by omega))
        · refine b_iload_n rfl rfl ?_
          refine b_iload_n rfl rfl ?_
          refine b_iconst rfl ?_
          refine b_ixor rfl ?_
          refine b_iand rfl ?_
          refine b_if_ne rfl (fun c_30 => ?_) (fun c_30 => ?_)
          · exact absurd h1 c_30
          · refine b_iload_n rfl rfl ?_
            refine b_callS rfl rfl hk_JI_bitCount rfl rfl rfl (Nat.le_of_ble_eq_true rfl) (q_bitCount) (Nat.le_of_ble_eq_true rfl) (fun r_34 D_34 q_34 => ?_)
            obtain ⟨rfl, rfl⟩ := q_34
            rw [bc_small ⟨s, hs⟩, ps1]
            refine b_iload_n rfl rfl ?_
            refine b_icmp_ne rfl (fun c_38 => ?_) (fun c_38 => ?_)
            · refine b_iinc rfl rfl (Nat.le_of_ble_eq_true rfl) ?_
              refine b_goto rfl ?_
              exact b_lp (hno I' hf hz') (le_e (le_e (le_e (le_q (by rw [nI_succ]) le_0)))) rfl rfl
            · exact absurd ((hi_nIe (by omega) (by omega)).mp c_38) h2
    · have hno := hno (fun y => h1 y.1.1)
      refine b_iload_n rfl rfl ?_
      refine b_sipush rfl ?_
      refine b_icmp_ge rfl (fun c_22 => ?_) (fun c_22 => ?_)
      · exact absurd c_22 (nI_ge (b := 256) hs (by omega))
      · refine b_iload_n rfl rfl ?_
        refine b_iload_n rfl rfl ?_
        refine b_iconst rfl ?_
        refine b_ixor rfl ?_
        refine b_iand rfl ?_
        refine b_if_ne rfl (fun c_30 => ?_) (fun c_30 => ?_)
        · refine b_iinc rfl rfl (Nat.le_of_ble_eq_true rfl) ?_
          refine b_goto rfl ?_
          exact b_lp (hno I' hf hz') (le_e (le_e (le_e (le_q (by rw [nI_succ]) le_0)))) rfl rfl
        · exact absurd c_30 h1
  have last : ∀ I', (∀ b, ¬ hs_xs t b → I' b = I b) → hs_z I' 49 → hn_B 7 hm_X_held P 18 [.ref 0, .int (sp_slips (nK N) N.1), .int (nI (pn o)), .int (nI 0)] [] (I', J, R) := by
    refine sp_ind o (fun s => ∀ I', (∀ b, ¬ hs_xs t b → I' b = I b) → hs_z I' 49 → hn_B 7 hm_X_held P 18 [.ref 0, .int (sp_slips (nK N) N.1), .int (nI (pn o)), .int (nI s)] [] (I', J, R)) ?_ ?_
    · intro I' hf hz'
      exact step (pn o) o po2 (by omega) I' hf hz' (fun _ => ⟨rfl, rfl⟩) (fun h => absurd ⟨hog, rfl⟩ h)
    · intro s hs ih I' hf hz'
      refine step (pn o) s po2 (by omega) I' hf hz' (fun h => ?_) (fun _ => ih)
      have := hol s (by omega) h.1
      omega
  have outer : ∀ I', (∀ b, ¬ hs_xs t b → I' b = I b) → hs_z I' 49 → hn_B 7 hm_X_held P 10 [.ref 0, .int (sp_slips (nK N) N.1), .int (nI 0), .null] [] (I', J, R) := by
    have c13 : ∀ z, z ≤ 8 → ¬ (8 : Int32) < nI z := fun z hz8 y => by
      have := (hi_lt (show (8 : Int32).toInt = 8 from rfl) (nI_toInt (n := z) (by omega))).mp y
      omega
    refine sp_ind (pn o) (fun z => ∀ I', (∀ b, ¬ hs_xs t b → I' b = I b) → hs_z I' 49 → hn_B 7 hm_X_held P 10 [.ref 0, .int (sp_slips (nK N) N.1), .int (nI z), .null] [] (I', J, R)) ?_ ?_
    · intro I' hf hz'
      refine b_iload_n rfl rfl ?_
      refine b_bipush rfl ?_
      refine b_icmp_gt rfl (fun c_13 => ?_) (fun c_13 => ?_)
      · exact absurd c_13 (c13 _ po2)
      · refine b_iconst rfl ?_
        refine b_istore_n rfl (Nat.le_of_ble_eq_true rfl) ?_
        exact b_lp (last I' hf hz') (le_e (le_e (le_e (le_q (by rw [nI_0]) le_0)))) rfl rfl
    · intro z hz9 ih I' hf hz'
      have inner : ∀ I', (∀ b, ¬ hs_xs t b → I' b = I b) → hs_z I' 49 → hn_B 7 hm_X_held P 18 [.ref 0, .int (sp_slips (nK N) N.1), .int (nI z), .int (nI 0)] [] (I', J, R) := by
        refine sp_ind 256 (fun s => ∀ I', (∀ b, ¬ hs_xs t b → I' b = I b) → hs_z I' 49 → hn_B 7 hm_X_held P 18 [.ref 0, .int (sp_slips (nK N) N.1), .int (nI z), .int (nI s)] [] (I', J, R)) ?_ ?_
        · intro I' hf hz'
          refine b_iload_n rfl rfl ?_
          refine b_sipush rfl ?_
          refine b_icmp_ge rfl (fun c_22 => ?_) (fun c_22 => ?_)
          · refine b_iinc rfl rfl (Nat.le_of_ble_eq_true rfl) ?_
            refine b_goto rfl ?_
            exact b_lp (ih I' hf hz') (le_e (le_e (le_q (by rw [nI_succ]) (le_n le_0)))) rfl rfl
          · exact absurd (show (256 : Int32) ≤ nI 256 by decide) c_22
        · intro s hs ih2 I' hf hz'
          refine step z s (by omega) hs I' hf hz' (fun h => ?_) (fun _ => ih2)
          have := hol s (gd_lt n8 hs h.1) h.1
          omega
      refine b_iload_n rfl rfl ?_
      refine b_bipush rfl ?_
      refine b_icmp_gt rfl (fun c_13 => ?_) (fun c_13 => ?_)
      · exact absurd c_13 (c13 _ (by omega))
      · refine b_iconst rfl ?_
        refine b_istore_n rfl (Nat.le_of_ble_eq_true rfl) ?_
        exact b_lp (inner I' hf hz') (le_e (le_e (le_e (le_q (by rw [nI_0]) le_0)))) rfl rfl
  refine b_aload_n rfl rfl ?_
  refine b_getR rfl (by first | rfl | assumption) rfl (by assumption) ?_
  refine b_callV rfl rfl hk_Net_slips rfl rfl rfl (by first | rfl | assumption) rfl (Nat.le_of_ble_eq_true rfl) (q_Net_slips hNt n0 n8) (Nat.le_of_ble_eq_true rfl) (fun r_4 D_4 q_4 => ?_)
  obtain ⟨rfl, rfl⟩ := q_4
  rw [nk]
  refine b_istore_n rfl (Nat.le_of_ble_eq_true rfl) ?_
  refine b_iconst rfl ?_
  refine b_istore_n rfl (Nat.le_of_ble_eq_true rfl) ?_
  exact b_lp (outer I (fun _ _ => rfl) hz) (le_e (le_e (le_q (by rw [nI_0]) (le_n le_0)))) rfl rfl
end HNheld
