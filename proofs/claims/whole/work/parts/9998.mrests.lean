section HNmrests
variable {I I' : Nat → Nat → Int32} {J J' : Nat → Nat → Int64} {R : Nat → Nat → Option Nat}
theorem hs_us {α : Type} {f : Nat → Nat → α} {a k : Nat} {v : α} : hn_u f a k v a k = v := by rw [hn_u_eq, va_up, if_pos rfl]
theorem q_M_gain {x : Int32} : hn_F 0 hm_M_within [.int x, .int 0, .int 9] (I, J, R) (fun r D' => D' = (I, J, R) ∧ r = some (.int (if sp_9 x then 1 else 0))) := by
  refine (q_M_within (x := x) (lo := 0) (hi := 9)).mono (fun r D' h => ⟨h.1, ?_⟩)
  rw [h.2]
  by_cases c : sp_9 x
  · rw [if_pos c, if_pos ⟨Int32.le_iff_toInt_le.mp c.1, Int32.le_iff_toInt_le.mp c.2⟩]
  · rw [if_neg c, if_neg (fun z => c ⟨Int32.le_iff_toInt_le.mpr z.1, Int32.le_iff_toInt_le.mpr z.2⟩)]
theorem rs_f_or {u v w q : Int32} : ∀ k, rs_f u v w q k = -1 ∨ ∃ j, j < k ∧ rs_f u v w q k = nI j
  | 0 => Or.inl rfl
  | k + 1 => by
    by_cases h : sp_rs k u v w ∧ nI (rs_c u v w k) = q
    · exact Or.inr ⟨k, by omega, if_pos h⟩
    · have e : rs_f u v w q (k + 1) = rs_f u v w q k := if_neg h
      rw [e]
      rcases rs_f_or k with g | ⟨j, g1, g2⟩
      · exact Or.inl g
      · exact Or.inr ⟨j, by omega, g2⟩
theorem q_lt0 {q : Int32} (h : -1 ≤ q) (h1 : ¬ q = -1) : ¬ q < 0 := fun z => h1 (by
  have a := Int32.le_iff_toInt_le.mp h
  have b := Int32.lt_iff_toInt_lt.mp z
  have e1 : (-1 : Int32).toInt = -1 := by decide
  have e0 : (0 : Int32).toInt = 0 := by decide
  exact Int32.toInt_inj.mp (by omega))

theorem mr_0 {P : Option Value → hnD → Prop} {u v w q : Int32} (ih : hn_B 1 hm_M_rests P 52 [.ref 188, .int u, .int v, .int w, .int q, .int 1, .int (nI (rs_c u v w (0 + 1))), .int (rs_f u v w q (0 + 1)), .int (nI (0 + 1)), .null, .null, .null] [] (I, J, R)) : hn_B 1 hm_M_rests P 52 [.ref 188, .int u, .int v, .int w, .int q, .int 1, .int (nI (rs_c u v w 0)), .int (rs_f u v w q 0), .int (nI 0), .null, .null, .null] [] (I, J, R) := by
  have e : sp_rs 0 u v w ↔ (gn (1 - nI 0 / 2) (nI 0 % 2) u v w ≤ gn (nI 0 / 2) (nI 0 % 2) u v w ∧ gn (1 - nI 0 % 2) (nI 0 / 2) u v w ≤ gn (nI 0 % 2) (nI 0 / 2) u v w) := by
    rw [show (1 : Int32) - nI 0 / 2 = nI (1 - 0 / 2) by decide, show nI 0 / 2 = nI (0 / 2) by decide, show (1 : Int32) - nI 0 % 2 = nI (1 - 0 % 2) by decide, show nI 0 % 2 = nI (0 % 2) by decide]
  by_cases hr : sp_rs 0 u v w
  · by_cases hm : nI (rs_c u v w 0) = q
    · have hc : nI (rs_c u v w (0 + 1)) = nI (rs_c u v w 0) + 1 := by rw [show rs_c u v w (0 + 1) = rs_c u v w 0 + 1 by show rs_c u v w 0 + _ = _; rw [if_pos hr], nI_succ]
      have hf : rs_f u v w q (0 + 1) = nI 0 := if_pos ⟨hr, hm⟩
      refine b_iload rfl rfl ?_
      refine b_iconst rfl ?_
      refine b_icmp_ge rfl (fun c_55 => ?_) (fun c_55 => ?_)
      · exact absurd c_55 (by decide)
      · refine b_iload rfl rfl ?_
        refine b_if_eq rfl (fun c_60 => ?_) (fun c_60 => ?_)
        · exact absurd c_60 (by decide)
        · refine b_iload rfl rfl ?_
          refine b_iconst rfl ?_
          refine b_idiv rfl (by decide) ?_
          refine b_istore rfl (Nat.le_of_ble_eq_true rfl) ?_
          refine b_iload rfl rfl ?_
          refine b_iconst rfl ?_
          refine b_irem rfl (by decide) ?_
          refine b_istore rfl (Nat.le_of_ble_eq_true rfl) ?_
          refine b_iconst rfl ?_
          refine b_iload rfl rfl ?_
          refine b_isub rfl ?_
          refine b_iload rfl rfl ?_
          refine b_iload_n rfl rfl ?_
          refine b_iload_n rfl rfl ?_
          refine b_iload_n rfl rfl ?_
          refine b_callS rfl rfl hk_M_getsBy rfl rfl rfl (Nat.le_of_ble_eq_true rfl) (q_M_getsBy) (Nat.le_of_ble_eq_true rfl) (fun r_84 D_84 q_84 => ?_)
          obtain ⟨rfl, rfl⟩ := q_84
          refine b_iload rfl rfl ?_
          refine b_iload rfl rfl ?_
          refine b_iload_n rfl rfl ?_
          refine b_iload_n rfl rfl ?_
          refine b_iload_n rfl rfl ?_
          refine b_callS rfl rfl hk_M_getsBy rfl rfl rfl (Nat.le_of_ble_eq_true rfl) (q_M_getsBy) (Nat.le_of_ble_eq_true rfl) (fun r_94 D_94 q_94 => ?_)
          obtain ⟨rfl, rfl⟩ := q_94
          refine b_icmp_gt rfl (fun c_97 => ?_) (fun c_97 => ?_)
          · exact absurd (e.mp hr).1 (Int32.not_le.mpr c_97)
          · refine b_iconst rfl ?_
            refine b_iload rfl rfl ?_
            refine b_isub rfl ?_
            refine b_iload rfl rfl ?_
            refine b_iload_n rfl rfl ?_
            refine b_iload_n rfl rfl ?_
            refine b_iload_n rfl rfl ?_
            refine b_callS rfl rfl hk_M_getsBy rfl rfl rfl (Nat.le_of_ble_eq_true rfl) (q_M_getsBy) (Nat.le_of_ble_eq_true rfl) (fun r_109 D_109 q_109 => ?_)
            obtain ⟨rfl, rfl⟩ := q_109
            refine b_iload rfl rfl ?_
            refine b_iload rfl rfl ?_
            refine b_iload_n rfl rfl ?_
            refine b_iload_n rfl rfl ?_
            refine b_iload_n rfl rfl ?_
            refine b_callS rfl rfl hk_M_getsBy rfl rfl rfl (Nat.le_of_ble_eq_true rfl) (q_M_getsBy) (Nat.le_of_ble_eq_true rfl) (fun r_119 D_119 q_119 => ?_)
            obtain ⟨rfl, rfl⟩ := q_119
            refine b_icmp_gt rfl (fun c_122 => ?_) (fun c_122 => ?_)
            · exact absurd (e.mp hr).2 (Int32.not_le.mpr c_122)
            · refine b_iconst rfl ?_
              refine b_goto rfl ?_
              refine b_istore rfl (Nat.le_of_ble_eq_true rfl) ?_
              refine b_iload rfl rfl ?_
              refine b_if_eq rfl (fun c_134 => ?_) (fun c_134 => ?_)
              · exact absurd c_134 (by decide)
              · refine b_iload rfl rfl ?_
                refine b_iload rfl rfl ?_
                refine b_icmp_ne rfl (fun c_141 => ?_) (fun c_141 => ?_)
                · exact absurd hm c_141
                · refine b_iload rfl rfl ?_
                  refine b_goto rfl ?_
                  refine b_istore rfl (Nat.le_of_ble_eq_true rfl) ?_
                  refine b_iload rfl rfl ?_
                  refine b_iload rfl rfl ?_
                  refine b_if_eq rfl (fun c_157 => ?_) (fun c_157 => ?_)
                  · exact absurd c_157 (by decide)
                  · refine b_iconst rfl ?_
                    refine b_goto rfl ?_
                    refine b_iadd rfl ?_
                    refine b_istore rfl (Nat.le_of_ble_eq_true rfl) ?_
                    refine b_iinc rfl rfl (Nat.le_of_ble_eq_true rfl) ?_
                    refine b_goto rfl ?_
                    exact b_lp ih (le_e (le_e (le_e (le_e (le_e (le_e (le_q (by rw [hc]) (le_q (by rw [hf]) (le_q (by rw [nI_succ]) (le_n (le_n (le_n le_0)))))))))))) rfl rfl
    · have hc : nI (rs_c u v w (0 + 1)) = nI (rs_c u v w 0) + 1 := by rw [show rs_c u v w (0 + 1) = rs_c u v w 0 + 1 by show rs_c u v w 0 + _ = _; rw [if_pos hr], nI_succ]
      have hf : rs_f u v w q (0 + 1) = rs_f u v w q 0 := if_neg (fun z => hm z.2)
      refine b_iload rfl rfl ?_
      refine b_iconst rfl ?_
      refine b_icmp_ge rfl (fun c_55 => ?_) (fun c_55 => ?_)
      · exact absurd c_55 (by decide)
      · refine b_iload rfl rfl ?_
        refine b_if_eq rfl (fun c_60 => ?_) (fun c_60 => ?_)
        · exact absurd c_60 (by decide)
        · refine b_iload rfl rfl ?_
          refine b_iconst rfl ?_
          refine b_idiv rfl (by decide) ?_
          refine b_istore rfl (Nat.le_of_ble_eq_true rfl) ?_
          refine b_iload rfl rfl ?_
          refine b_iconst rfl ?_
          refine b_irem rfl (by decide) ?_
          refine b_istore rfl (Nat.le_of_ble_eq_true rfl) ?_
          refine b_iconst rfl ?_
          refine b_iload rfl rfl ?_
          refine b_isub rfl ?_
          refine b_iload rfl rfl ?_
          refine b_iload_n rfl rfl ?_
          refine b_iload_n rfl rfl ?_
          refine b_iload_n rfl rfl ?_
          refine b_callS rfl rfl hk_M_getsBy rfl rfl rfl (Nat.le_of_ble_eq_true rfl) (q_M_getsBy) (Nat.le_of_ble_eq_true rfl) (fun r_84 D_84 q_84 => ?_)
          obtain ⟨rfl, rfl⟩ := q_84
          refine b_iload rfl rfl ?_
          refine b_iload rfl rfl ?_
          refine b_iload_n rfl rfl ?_
          refine b_iload_n rfl rfl ?_
          refine b_iload_n rfl rfl ?_
          refine b_callS rfl rfl hk_M_getsBy rfl rfl rfl (Nat.le_of_ble_eq_true rfl) (q_M_getsBy) (Nat.le_of_ble_eq_true rfl) (fun r_94 D_94 q_94 => ?_)
          obtain ⟨rfl, rfl⟩ := q_94
          refine b_icmp_gt rfl (fun c_97 => ?_) (fun c_97 => ?_)
          · exact absurd (e.mp hr).1 (Int32.not_le.mpr c_97)
          · refine b_iconst rfl ?_
            refine b_iload rfl rfl ?_
            refine b_isub rfl ?_
            refine b_iload rfl rfl ?_
            refine b_iload_n rfl rfl ?_
            refine b_iload_n rfl rfl ?_
            refine b_iload_n rfl rfl ?_
            refine b_callS rfl rfl hk_M_getsBy rfl rfl rfl (Nat.le_of_ble_eq_true rfl) (q_M_getsBy) (Nat.le_of_ble_eq_true rfl) (fun r_109 D_109 q_109 => ?_)
            obtain ⟨rfl, rfl⟩ := q_109
            refine b_iload rfl rfl ?_
            refine b_iload rfl rfl ?_
            refine b_iload_n rfl rfl ?_
            refine b_iload_n rfl rfl ?_
            refine b_iload_n rfl rfl ?_
            refine b_callS rfl rfl hk_M_getsBy rfl rfl rfl (Nat.le_of_ble_eq_true rfl) (q_M_getsBy) (Nat.le_of_ble_eq_true rfl) (fun r_119 D_119 q_119 => ?_)
            obtain ⟨rfl, rfl⟩ := q_119
            refine b_icmp_gt rfl (fun c_122 => ?_) (fun c_122 => ?_)
            · exact absurd (e.mp hr).2 (Int32.not_le.mpr c_122)
            · refine b_iconst rfl ?_
              refine b_goto rfl ?_
              refine b_istore rfl (Nat.le_of_ble_eq_true rfl) ?_
              refine b_iload rfl rfl ?_
              refine b_if_eq rfl (fun c_134 => ?_) (fun c_134 => ?_)
              · exact absurd c_134 (by decide)
              · refine b_iload rfl rfl ?_
                refine b_iload rfl rfl ?_
                refine b_icmp_ne rfl (fun c_141 => ?_) (fun c_141 => ?_)
                · refine b_iload rfl rfl ?_
                  refine b_istore rfl (Nat.le_of_ble_eq_true rfl) ?_
                  refine b_iload rfl rfl ?_
                  refine b_iload rfl rfl ?_
                  refine b_if_eq rfl (fun c_157 => ?_) (fun c_157 => ?_)
                  · exact absurd c_157 (by decide)
                  · refine b_iconst rfl ?_
                    refine b_goto rfl ?_
                    refine b_iadd rfl ?_
                    refine b_istore rfl (Nat.le_of_ble_eq_true rfl) ?_
                    refine b_iinc rfl rfl (Nat.le_of_ble_eq_true rfl) ?_
                    refine b_goto rfl ?_
                    exact b_lp ih (le_e (le_e (le_e (le_e (le_e (le_e (le_q (by rw [hc]) (le_q (by rw [hf]) (le_q (by rw [nI_succ]) (le_n (le_n (le_n le_0)))))))))))) rfl rfl
                · exact absurd c_141 hm
  · have hc : nI (rs_c u v w (0 + 1)) = nI (rs_c u v w 0) + 0 := by rw [show rs_c u v w (0 + 1) = rs_c u v w 0 by show rs_c u v w 0 + _ = _; rw [if_neg hr]; rfl]; exact (Int32.add_zero _).symm
    have hf : rs_f u v w q (0 + 1) = rs_f u v w q 0 := if_neg (fun z => hr z.1)
    refine b_iload rfl rfl ?_
    refine b_iconst rfl ?_
    refine b_icmp_ge rfl (fun c_55 => ?_) (fun c_55 => ?_)
    · exact absurd c_55 (by decide)
    · refine b_iload rfl rfl ?_
      refine b_if_eq rfl (fun c_60 => ?_) (fun c_60 => ?_)
      · exact absurd c_60 (by decide)
      · refine b_iload rfl rfl ?_
        refine b_iconst rfl ?_
        refine b_idiv rfl (by decide) ?_
        refine b_istore rfl (Nat.le_of_ble_eq_true rfl) ?_
        refine b_iload rfl rfl ?_
        refine b_iconst rfl ?_
        refine b_irem rfl (by decide) ?_
        refine b_istore rfl (Nat.le_of_ble_eq_true rfl) ?_
        refine b_iconst rfl ?_
        refine b_iload rfl rfl ?_
        refine b_isub rfl ?_
        refine b_iload rfl rfl ?_
        refine b_iload_n rfl rfl ?_
        refine b_iload_n rfl rfl ?_
        refine b_iload_n rfl rfl ?_
        refine b_callS rfl rfl hk_M_getsBy rfl rfl rfl (Nat.le_of_ble_eq_true rfl) (q_M_getsBy) (Nat.le_of_ble_eq_true rfl) (fun r_84 D_84 q_84 => ?_)
        obtain ⟨rfl, rfl⟩ := q_84
        refine b_iload rfl rfl ?_
        refine b_iload rfl rfl ?_
        refine b_iload_n rfl rfl ?_
        refine b_iload_n rfl rfl ?_
        refine b_iload_n rfl rfl ?_
        refine b_callS rfl rfl hk_M_getsBy rfl rfl rfl (Nat.le_of_ble_eq_true rfl) (q_M_getsBy) (Nat.le_of_ble_eq_true rfl) (fun r_94 D_94 q_94 => ?_)
        obtain ⟨rfl, rfl⟩ := q_94
        refine b_icmp_gt rfl (fun c_97 => ?_) (fun c_97 => ?_)
        · refine b_iconst rfl ?_
          refine b_istore rfl (Nat.le_of_ble_eq_true rfl) ?_
          refine b_iload rfl rfl ?_
          refine b_if_eq rfl (fun c_134 => ?_) (fun c_134 => ?_)
          · refine b_iload rfl rfl ?_
            refine b_istore rfl (Nat.le_of_ble_eq_true rfl) ?_
            refine b_iload rfl rfl ?_
            refine b_iload rfl rfl ?_
            refine b_if_eq rfl (fun c_157 => ?_) (fun c_157 => ?_)
            · refine b_iconst rfl ?_
              refine b_iadd rfl ?_
              refine b_istore rfl (Nat.le_of_ble_eq_true rfl) ?_
              refine b_iinc rfl rfl (Nat.le_of_ble_eq_true rfl) ?_
              refine b_goto rfl ?_
              exact b_lp ih (le_e (le_e (le_e (le_e (le_e (le_e (le_q (by rw [hc]) (le_q (by rw [hf]) (le_q (by rw [nI_succ]) (le_n (le_n (le_n le_0)))))))))))) rfl rfl
            · exact absurd rfl c_157
          · exact absurd rfl c_134
        · refine b_iconst rfl ?_
          refine b_iload rfl rfl ?_
          refine b_isub rfl ?_
          refine b_iload rfl rfl ?_
          refine b_iload_n rfl rfl ?_
          refine b_iload_n rfl rfl ?_
          refine b_iload_n rfl rfl ?_
          refine b_callS rfl rfl hk_M_getsBy rfl rfl rfl (Nat.le_of_ble_eq_true rfl) (q_M_getsBy) (Nat.le_of_ble_eq_true rfl) (fun r_109 D_109 q_109 => ?_)
          obtain ⟨rfl, rfl⟩ := q_109
          refine b_iload rfl rfl ?_
          refine b_iload rfl rfl ?_
          refine b_iload_n rfl rfl ?_
          refine b_iload_n rfl rfl ?_
          refine b_iload_n rfl rfl ?_
          refine b_callS rfl rfl hk_M_getsBy rfl rfl rfl (Nat.le_of_ble_eq_true rfl) (q_M_getsBy) (Nat.le_of_ble_eq_true rfl) (fun r_119 D_119 q_119 => ?_)
          obtain ⟨rfl, rfl⟩ := q_119
          refine b_icmp_gt rfl (fun c_122 => ?_) (fun c_122 => ?_)
          · refine b_iconst rfl ?_
            refine b_istore rfl (Nat.le_of_ble_eq_true rfl) ?_
            refine b_iload rfl rfl ?_
            refine b_if_eq rfl (fun c_134 => ?_) (fun c_134 => ?_)
            · refine b_iload rfl rfl ?_
              refine b_istore rfl (Nat.le_of_ble_eq_true rfl) ?_
              refine b_iload rfl rfl ?_
              refine b_iload rfl rfl ?_
              refine b_if_eq rfl (fun c_157 => ?_) (fun c_157 => ?_)
              · refine b_iconst rfl ?_
                refine b_iadd rfl ?_
                refine b_istore rfl (Nat.le_of_ble_eq_true rfl) ?_
                refine b_iinc rfl rfl (Nat.le_of_ble_eq_true rfl) ?_
                refine b_goto rfl ?_
                exact b_lp ih (le_e (le_e (le_e (le_e (le_e (le_e (le_q (by rw [hc]) (le_q (by rw [hf]) (le_q (by rw [nI_succ]) (le_n (le_n (le_n le_0)))))))))))) rfl rfl
              · exact absurd rfl c_157
            · exact absurd rfl c_134
          · exact absurd (e.mpr ⟨Int32.not_lt.mp c_97, Int32.not_lt.mp c_122⟩) hr
theorem mr_1 {P : Option Value → hnD → Prop} {u v w q : Int32} (ih : hn_B 1 hm_M_rests P 52 [.ref 188, .int u, .int v, .int w, .int q, .int 1, .int (nI (rs_c u v w (1 + 1))), .int (rs_f u v w q (1 + 1)), .int (nI (1 + 1)), .null, .null, .null] [] (I, J, R)) : hn_B 1 hm_M_rests P 52 [.ref 188, .int u, .int v, .int w, .int q, .int 1, .int (nI (rs_c u v w 1)), .int (rs_f u v w q 1), .int (nI 1), .null, .null, .null] [] (I, J, R) := by
  have e : sp_rs 1 u v w ↔ (gn (1 - nI 1 / 2) (nI 1 % 2) u v w ≤ gn (nI 1 / 2) (nI 1 % 2) u v w ∧ gn (1 - nI 1 % 2) (nI 1 / 2) u v w ≤ gn (nI 1 % 2) (nI 1 / 2) u v w) := by
    rw [show (1 : Int32) - nI 1 / 2 = nI (1 - 1 / 2) by decide, show nI 1 / 2 = nI (1 / 2) by decide, show (1 : Int32) - nI 1 % 2 = nI (1 - 1 % 2) by decide, show nI 1 % 2 = nI (1 % 2) by decide]
  by_cases hr : sp_rs 1 u v w
  · by_cases hm : nI (rs_c u v w 1) = q
    · have hc : nI (rs_c u v w (1 + 1)) = nI (rs_c u v w 1) + 1 := by rw [show rs_c u v w (1 + 1) = rs_c u v w 1 + 1 by show rs_c u v w 1 + _ = _; rw [if_pos hr], nI_succ]
      have hf : rs_f u v w q (1 + 1) = nI 1 := if_pos ⟨hr, hm⟩
      refine b_iload rfl rfl ?_
      refine b_iconst rfl ?_
      refine b_icmp_ge rfl (fun c_55 => ?_) (fun c_55 => ?_)
      · exact absurd c_55 (by decide)
      · refine b_iload rfl rfl ?_
        refine b_if_eq rfl (fun c_60 => ?_) (fun c_60 => ?_)
        · exact absurd c_60 (by decide)
        · refine b_iload rfl rfl ?_
          refine b_iconst rfl ?_
          refine b_idiv rfl (by decide) ?_
          refine b_istore rfl (Nat.le_of_ble_eq_true rfl) ?_
          refine b_iload rfl rfl ?_
          refine b_iconst rfl ?_
          refine b_irem rfl (by decide) ?_
          refine b_istore rfl (Nat.le_of_ble_eq_true rfl) ?_
          refine b_iconst rfl ?_
          refine b_iload rfl rfl ?_
          refine b_isub rfl ?_
          refine b_iload rfl rfl ?_
          refine b_iload_n rfl rfl ?_
          refine b_iload_n rfl rfl ?_
          refine b_iload_n rfl rfl ?_
          refine b_callS rfl rfl hk_M_getsBy rfl rfl rfl (Nat.le_of_ble_eq_true rfl) (q_M_getsBy) (Nat.le_of_ble_eq_true rfl) (fun r_84 D_84 q_84 => ?_)
          obtain ⟨rfl, rfl⟩ := q_84
          refine b_iload rfl rfl ?_
          refine b_iload rfl rfl ?_
          refine b_iload_n rfl rfl ?_
          refine b_iload_n rfl rfl ?_
          refine b_iload_n rfl rfl ?_
          refine b_callS rfl rfl hk_M_getsBy rfl rfl rfl (Nat.le_of_ble_eq_true rfl) (q_M_getsBy) (Nat.le_of_ble_eq_true rfl) (fun r_94 D_94 q_94 => ?_)
          obtain ⟨rfl, rfl⟩ := q_94
          refine b_icmp_gt rfl (fun c_97 => ?_) (fun c_97 => ?_)
          · exact absurd (e.mp hr).1 (Int32.not_le.mpr c_97)
          · refine b_iconst rfl ?_
            refine b_iload rfl rfl ?_
            refine b_isub rfl ?_
            refine b_iload rfl rfl ?_
            refine b_iload_n rfl rfl ?_
            refine b_iload_n rfl rfl ?_
            refine b_iload_n rfl rfl ?_
            refine b_callS rfl rfl hk_M_getsBy rfl rfl rfl (Nat.le_of_ble_eq_true rfl) (q_M_getsBy) (Nat.le_of_ble_eq_true rfl) (fun r_109 D_109 q_109 => ?_)
            obtain ⟨rfl, rfl⟩ := q_109
            refine b_iload rfl rfl ?_
            refine b_iload rfl rfl ?_
            refine b_iload_n rfl rfl ?_
            refine b_iload_n rfl rfl ?_
            refine b_iload_n rfl rfl ?_
            refine b_callS rfl rfl hk_M_getsBy rfl rfl rfl (Nat.le_of_ble_eq_true rfl) (q_M_getsBy) (Nat.le_of_ble_eq_true rfl) (fun r_119 D_119 q_119 => ?_)
            obtain ⟨rfl, rfl⟩ := q_119
            refine b_icmp_gt rfl (fun c_122 => ?_) (fun c_122 => ?_)
            · exact absurd (e.mp hr).2 (Int32.not_le.mpr c_122)
            · refine b_iconst rfl ?_
              refine b_goto rfl ?_
              refine b_istore rfl (Nat.le_of_ble_eq_true rfl) ?_
              refine b_iload rfl rfl ?_
              refine b_if_eq rfl (fun c_134 => ?_) (fun c_134 => ?_)
              · exact absurd c_134 (by decide)
              · refine b_iload rfl rfl ?_
                refine b_iload rfl rfl ?_
                refine b_icmp_ne rfl (fun c_141 => ?_) (fun c_141 => ?_)
                · exact absurd hm c_141
                · refine b_iload rfl rfl ?_
                  refine b_goto rfl ?_
                  refine b_istore rfl (Nat.le_of_ble_eq_true rfl) ?_
                  refine b_iload rfl rfl ?_
                  refine b_iload rfl rfl ?_
                  refine b_if_eq rfl (fun c_157 => ?_) (fun c_157 => ?_)
                  · exact absurd c_157 (by decide)
                  · refine b_iconst rfl ?_
                    refine b_goto rfl ?_
                    refine b_iadd rfl ?_
                    refine b_istore rfl (Nat.le_of_ble_eq_true rfl) ?_
                    refine b_iinc rfl rfl (Nat.le_of_ble_eq_true rfl) ?_
                    refine b_goto rfl ?_
                    exact b_lp ih (le_e (le_e (le_e (le_e (le_e (le_e (le_q (by rw [hc]) (le_q (by rw [hf]) (le_q (by rw [nI_succ]) (le_n (le_n (le_n le_0)))))))))))) rfl rfl
    · have hc : nI (rs_c u v w (1 + 1)) = nI (rs_c u v w 1) + 1 := by rw [show rs_c u v w (1 + 1) = rs_c u v w 1 + 1 by show rs_c u v w 1 + _ = _; rw [if_pos hr], nI_succ]
      have hf : rs_f u v w q (1 + 1) = rs_f u v w q 1 := if_neg (fun z => hm z.2)
      refine b_iload rfl rfl ?_
      refine b_iconst rfl ?_
      refine b_icmp_ge rfl (fun c_55 => ?_) (fun c_55 => ?_)
      · exact absurd c_55 (by decide)
      · refine b_iload rfl rfl ?_
        refine b_if_eq rfl (fun c_60 => ?_) (fun c_60 => ?_)
        · exact absurd c_60 (by decide)
        · refine b_iload rfl rfl ?_
          refine b_iconst rfl ?_
          refine b_idiv rfl (by decide) ?_
          refine b_istore rfl (Nat.le_of_ble_eq_true rfl) ?_
          refine b_iload rfl rfl ?_
          refine b_iconst rfl ?_
          refine b_irem rfl (by decide) ?_
          refine b_istore rfl (Nat.le_of_ble_eq_true rfl) ?_
          refine b_iconst rfl ?_
          refine b_iload rfl rfl ?_
          refine b_isub rfl ?_
          refine b_iload rfl rfl ?_
          refine b_iload_n rfl rfl ?_
          refine b_iload_n rfl rfl ?_
          refine b_iload_n rfl rfl ?_
          refine b_callS rfl rfl hk_M_getsBy rfl rfl rfl (Nat.le_of_ble_eq_true rfl) (q_M_getsBy) (Nat.le_of_ble_eq_true rfl) (fun r_84 D_84 q_84 => ?_)
          obtain ⟨rfl, rfl⟩ := q_84
          refine b_iload rfl rfl ?_
          refine b_iload rfl rfl ?_
          refine b_iload_n rfl rfl ?_
          refine b_iload_n rfl rfl ?_
          refine b_iload_n rfl rfl ?_
          refine b_callS rfl rfl hk_M_getsBy rfl rfl rfl (Nat.le_of_ble_eq_true rfl) (q_M_getsBy) (Nat.le_of_ble_eq_true rfl) (fun r_94 D_94 q_94 => ?_)
          obtain ⟨rfl, rfl⟩ := q_94
          refine b_icmp_gt rfl (fun c_97 => ?_) (fun c_97 => ?_)
          · exact absurd (e.mp hr).1 (Int32.not_le.mpr c_97)
          · refine b_iconst rfl ?_
            refine b_iload rfl rfl ?_
            refine b_isub rfl ?_
            refine b_iload rfl rfl ?_
            refine b_iload_n rfl rfl ?_
            refine b_iload_n rfl rfl ?_
            refine b_iload_n rfl rfl ?_
            refine b_callS rfl rfl hk_M_getsBy rfl rfl rfl (Nat.le_of_ble_eq_true rfl) (q_M_getsBy) (Nat.le_of_ble_eq_true rfl) (fun r_109 D_109 q_109 => ?_)
            obtain ⟨rfl, rfl⟩ := q_109
            refine b_iload rfl rfl ?_
            refine b_iload rfl rfl ?_
            refine b_iload_n rfl rfl ?_
            refine b_iload_n rfl rfl ?_
            refine b_iload_n rfl rfl ?_
            refine b_callS rfl rfl hk_M_getsBy rfl rfl rfl (Nat.le_of_ble_eq_true rfl) (q_M_getsBy) (Nat.le_of_ble_eq_true rfl) (fun r_119 D_119 q_119 => ?_)
            obtain ⟨rfl, rfl⟩ := q_119
            refine b_icmp_gt rfl (fun c_122 => ?_) (fun c_122 => ?_)
            · exact absurd (e.mp hr).2 (Int32.not_le.mpr c_122)
            · refine b_iconst rfl ?_
              refine b_goto rfl ?_
              refine b_istore rfl (Nat.le_of_ble_eq_true rfl) ?_
              refine b_iload rfl rfl ?_
              refine b_if_eq rfl (fun c_134 => ?_) (fun c_134 => ?_)
              · exact absurd c_134 (by decide)
              · refine b_iload rfl rfl ?_
                refine b_iload rfl rfl ?_
                refine b_icmp_ne rfl (fun c_141 => ?_) (fun c_141 => ?_)
                · refine b_iload rfl rfl ?_
                  refine b_istore rfl (Nat.le_of_ble_eq_true rfl) ?_
                  refine b_iload rfl rfl ?_
                  refine b_iload rfl rfl ?_
                  refine b_if_eq rfl (fun c_157 => ?_) (fun c_157 => ?_)
                  · exact absurd c_157 (by decide)
                  · refine b_iconst rfl ?_
                    refine b_goto rfl ?_
                    refine b_iadd rfl ?_
                    refine b_istore rfl (Nat.le_of_ble_eq_true rfl) ?_
                    refine b_iinc rfl rfl (Nat.le_of_ble_eq_true rfl) ?_
                    refine b_goto rfl ?_
                    exact b_lp ih (le_e (le_e (le_e (le_e (le_e (le_e (le_q (by rw [hc]) (le_q (by rw [hf]) (le_q (by rw [nI_succ]) (le_n (le_n (le_n le_0)))))))))))) rfl rfl
                · exact absurd c_141 hm
  · have hc : nI (rs_c u v w (1 + 1)) = nI (rs_c u v w 1) + 0 := by rw [show rs_c u v w (1 + 1) = rs_c u v w 1 by show rs_c u v w 1 + _ = _; rw [if_neg hr]; rfl]; exact (Int32.add_zero _).symm
    have hf : rs_f u v w q (1 + 1) = rs_f u v w q 1 := if_neg (fun z => hr z.1)
    refine b_iload rfl rfl ?_
    refine b_iconst rfl ?_
    refine b_icmp_ge rfl (fun c_55 => ?_) (fun c_55 => ?_)
    · exact absurd c_55 (by decide)
    · refine b_iload rfl rfl ?_
      refine b_if_eq rfl (fun c_60 => ?_) (fun c_60 => ?_)
      · exact absurd c_60 (by decide)
      · refine b_iload rfl rfl ?_
        refine b_iconst rfl ?_
        refine b_idiv rfl (by decide) ?_
        refine b_istore rfl (Nat.le_of_ble_eq_true rfl) ?_
        refine b_iload rfl rfl ?_
        refine b_iconst rfl ?_
        refine b_irem rfl (by decide) ?_
        refine b_istore rfl (Nat.le_of_ble_eq_true rfl) ?_
        refine b_iconst rfl ?_
        refine b_iload rfl rfl ?_
        refine b_isub rfl ?_
        refine b_iload rfl rfl ?_
        refine b_iload_n rfl rfl ?_
        refine b_iload_n rfl rfl ?_
        refine b_iload_n rfl rfl ?_
        refine b_callS rfl rfl hk_M_getsBy rfl rfl rfl (Nat.le_of_ble_eq_true rfl) (q_M_getsBy) (Nat.le_of_ble_eq_true rfl) (fun r_84 D_84 q_84 => ?_)
        obtain ⟨rfl, rfl⟩ := q_84
        refine b_iload rfl rfl ?_
        refine b_iload rfl rfl ?_
        refine b_iload_n rfl rfl ?_
        refine b_iload_n rfl rfl ?_
        refine b_iload_n rfl rfl ?_
        refine b_callS rfl rfl hk_M_getsBy rfl rfl rfl (Nat.le_of_ble_eq_true rfl) (q_M_getsBy) (Nat.le_of_ble_eq_true rfl) (fun r_94 D_94 q_94 => ?_)
        obtain ⟨rfl, rfl⟩ := q_94
        refine b_icmp_gt rfl (fun c_97 => ?_) (fun c_97 => ?_)
        · refine b_iconst rfl ?_
          refine b_istore rfl (Nat.le_of_ble_eq_true rfl) ?_
          refine b_iload rfl rfl ?_
          refine b_if_eq rfl (fun c_134 => ?_) (fun c_134 => ?_)
          · refine b_iload rfl rfl ?_
            refine b_istore rfl (Nat.le_of_ble_eq_true rfl) ?_
            refine b_iload rfl rfl ?_
            refine b_iload rfl rfl ?_
            refine b_if_eq rfl (fun c_157 => ?_) (fun c_157 => ?_)
            · refine b_iconst rfl ?_
              refine b_iadd rfl ?_
              refine b_istore rfl (Nat.le_of_ble_eq_true rfl) ?_
              refine b_iinc rfl rfl (Nat.le_of_ble_eq_true rfl) ?_
              refine b_goto rfl ?_
              exact b_lp ih (le_e (le_e (le_e (le_e (le_e (le_e (le_q (by rw [hc]) (le_q (by rw [hf]) (le_q (by rw [nI_succ]) (le_n (le_n (le_n le_0)))))))))))) rfl rfl
            · exact absurd rfl c_157
          · exact absurd rfl c_134
        · refine b_iconst rfl ?_
          refine b_iload rfl rfl ?_
          refine b_isub rfl ?_
          refine b_iload rfl rfl ?_
          refine b_iload_n rfl rfl ?_
          refine b_iload_n rfl rfl ?_
          refine b_iload_n rfl rfl ?_
          refine b_callS rfl rfl hk_M_getsBy rfl rfl rfl (Nat.le_of_ble_eq_true rfl) (q_M_getsBy) (Nat.le_of_ble_eq_true rfl) (fun r_109 D_109 q_109 => ?_)
          obtain ⟨rfl, rfl⟩ := q_109
          refine b_iload rfl rfl ?_
          refine b_iload rfl rfl ?_
          refine b_iload_n rfl rfl ?_
          refine b_iload_n rfl rfl ?_
          refine b_iload_n rfl rfl ?_
          refine b_callS rfl rfl hk_M_getsBy rfl rfl rfl (Nat.le_of_ble_eq_true rfl) (q_M_getsBy) (Nat.le_of_ble_eq_true rfl) (fun r_119 D_119 q_119 => ?_)
          obtain ⟨rfl, rfl⟩ := q_119
          refine b_icmp_gt rfl (fun c_122 => ?_) (fun c_122 => ?_)
          · refine b_iconst rfl ?_
            refine b_istore rfl (Nat.le_of_ble_eq_true rfl) ?_
            refine b_iload rfl rfl ?_
            refine b_if_eq rfl (fun c_134 => ?_) (fun c_134 => ?_)
            · refine b_iload rfl rfl ?_
              refine b_istore rfl (Nat.le_of_ble_eq_true rfl) ?_
              refine b_iload rfl rfl ?_
              refine b_iload rfl rfl ?_
              refine b_if_eq rfl (fun c_157 => ?_) (fun c_157 => ?_)
              · refine b_iconst rfl ?_
                refine b_iadd rfl ?_
                refine b_istore rfl (Nat.le_of_ble_eq_true rfl) ?_
                refine b_iinc rfl rfl (Nat.le_of_ble_eq_true rfl) ?_
                refine b_goto rfl ?_
                exact b_lp ih (le_e (le_e (le_e (le_e (le_e (le_e (le_q (by rw [hc]) (le_q (by rw [hf]) (le_q (by rw [nI_succ]) (le_n (le_n (le_n le_0)))))))))))) rfl rfl
              · exact absurd rfl c_157
            · exact absurd rfl c_134
          · exact absurd (e.mpr ⟨Int32.not_lt.mp c_97, Int32.not_lt.mp c_122⟩) hr
theorem mr_2 {P : Option Value → hnD → Prop} {u v w q : Int32} (ih : hn_B 1 hm_M_rests P 52 [.ref 188, .int u, .int v, .int w, .int q, .int 1, .int (nI (rs_c u v w (2 + 1))), .int (rs_f u v w q (2 + 1)), .int (nI (2 + 1)), .null, .null, .null] [] (I, J, R)) : hn_B 1 hm_M_rests P 52 [.ref 188, .int u, .int v, .int w, .int q, .int 1, .int (nI (rs_c u v w 2)), .int (rs_f u v w q 2), .int (nI 2), .null, .null, .null] [] (I, J, R) := by
  have e : sp_rs 2 u v w ↔ (gn (1 - nI 2 / 2) (nI 2 % 2) u v w ≤ gn (nI 2 / 2) (nI 2 % 2) u v w ∧ gn (1 - nI 2 % 2) (nI 2 / 2) u v w ≤ gn (nI 2 % 2) (nI 2 / 2) u v w) := by
    rw [show (1 : Int32) - nI 2 / 2 = nI (1 - 2 / 2) by decide, show nI 2 / 2 = nI (2 / 2) by decide, show (1 : Int32) - nI 2 % 2 = nI (1 - 2 % 2) by decide, show nI 2 % 2 = nI (2 % 2) by decide]
  by_cases hr : sp_rs 2 u v w
  · by_cases hm : nI (rs_c u v w 2) = q
    · have hc : nI (rs_c u v w (2 + 1)) = nI (rs_c u v w 2) + 1 := by rw [show rs_c u v w (2 + 1) = rs_c u v w 2 + 1 by show rs_c u v w 2 + _ = _; rw [if_pos hr], nI_succ]
      have hf : rs_f u v w q (2 + 1) = nI 2 := if_pos ⟨hr, hm⟩
      refine b_iload rfl rfl ?_
      refine b_iconst rfl ?_
      refine b_icmp_ge rfl (fun c_55 => ?_) (fun c_55 => ?_)
      · exact absurd c_55 (by decide)
      · refine b_iload rfl rfl ?_
        refine b_if_eq rfl (fun c_60 => ?_) (fun c_60 => ?_)
        · exact absurd c_60 (by decide)
        · refine b_iload rfl rfl ?_
          refine b_iconst rfl ?_
          refine b_idiv rfl (by decide) ?_
          refine b_istore rfl (Nat.le_of_ble_eq_true rfl) ?_
          refine b_iload rfl rfl ?_
          refine b_iconst rfl ?_
          refine b_irem rfl (by decide) ?_
          refine b_istore rfl (Nat.le_of_ble_eq_true rfl) ?_
          refine b_iconst rfl ?_
          refine b_iload rfl rfl ?_
          refine b_isub rfl ?_
          refine b_iload rfl rfl ?_
          refine b_iload_n rfl rfl ?_
          refine b_iload_n rfl rfl ?_
          refine b_iload_n rfl rfl ?_
          refine b_callS rfl rfl hk_M_getsBy rfl rfl rfl (Nat.le_of_ble_eq_true rfl) (q_M_getsBy) (Nat.le_of_ble_eq_true rfl) (fun r_84 D_84 q_84 => ?_)
          obtain ⟨rfl, rfl⟩ := q_84
          refine b_iload rfl rfl ?_
          refine b_iload rfl rfl ?_
          refine b_iload_n rfl rfl ?_
          refine b_iload_n rfl rfl ?_
          refine b_iload_n rfl rfl ?_
          refine b_callS rfl rfl hk_M_getsBy rfl rfl rfl (Nat.le_of_ble_eq_true rfl) (q_M_getsBy) (Nat.le_of_ble_eq_true rfl) (fun r_94 D_94 q_94 => ?_)
          obtain ⟨rfl, rfl⟩ := q_94
          refine b_icmp_gt rfl (fun c_97 => ?_) (fun c_97 => ?_)
          · exact absurd (e.mp hr).1 (Int32.not_le.mpr c_97)
          · refine b_iconst rfl ?_
            refine b_iload rfl rfl ?_
            refine b_isub rfl ?_
            refine b_iload rfl rfl ?_
            refine b_iload_n rfl rfl ?_
            refine b_iload_n rfl rfl ?_
            refine b_iload_n rfl rfl ?_
            refine b_callS rfl rfl hk_M_getsBy rfl rfl rfl (Nat.le_of_ble_eq_true rfl) (q_M_getsBy) (Nat.le_of_ble_eq_true rfl) (fun r_109 D_109 q_109 => ?_)
            obtain ⟨rfl, rfl⟩ := q_109
            refine b_iload rfl rfl ?_
            refine b_iload rfl rfl ?_
            refine b_iload_n rfl rfl ?_
            refine b_iload_n rfl rfl ?_
            refine b_iload_n rfl rfl ?_
            refine b_callS rfl rfl hk_M_getsBy rfl rfl rfl (Nat.le_of_ble_eq_true rfl) (q_M_getsBy) (Nat.le_of_ble_eq_true rfl) (fun r_119 D_119 q_119 => ?_)
            obtain ⟨rfl, rfl⟩ := q_119
            refine b_icmp_gt rfl (fun c_122 => ?_) (fun c_122 => ?_)
            · exact absurd (e.mp hr).2 (Int32.not_le.mpr c_122)
            · refine b_iconst rfl ?_
              refine b_goto rfl ?_
              refine b_istore rfl (Nat.le_of_ble_eq_true rfl) ?_
              refine b_iload rfl rfl ?_
              refine b_if_eq rfl (fun c_134 => ?_) (fun c_134 => ?_)
              · exact absurd c_134 (by decide)
              · refine b_iload rfl rfl ?_
                refine b_iload rfl rfl ?_
                refine b_icmp_ne rfl (fun c_141 => ?_) (fun c_141 => ?_)
                · exact absurd hm c_141
                · refine b_iload rfl rfl ?_
                  refine b_goto rfl ?_
                  refine b_istore rfl (Nat.le_of_ble_eq_true rfl) ?_
                  refine b_iload rfl rfl ?_
                  refine b_iload rfl rfl ?_
                  refine b_if_eq rfl (fun c_157 => ?_) (fun c_157 => ?_)
                  · exact absurd c_157 (by decide)
                  · refine b_iconst rfl ?_
                    refine b_goto rfl ?_
                    refine b_iadd rfl ?_
                    refine b_istore rfl (Nat.le_of_ble_eq_true rfl) ?_
                    refine b_iinc rfl rfl (Nat.le_of_ble_eq_true rfl) ?_
                    refine b_goto rfl ?_
                    exact b_lp ih (le_e (le_e (le_e (le_e (le_e (le_e (le_q (by rw [hc]) (le_q (by rw [hf]) (le_q (by rw [nI_succ]) (le_n (le_n (le_n le_0)))))))))))) rfl rfl
    · have hc : nI (rs_c u v w (2 + 1)) = nI (rs_c u v w 2) + 1 := by rw [show rs_c u v w (2 + 1) = rs_c u v w 2 + 1 by show rs_c u v w 2 + _ = _; rw [if_pos hr], nI_succ]
      have hf : rs_f u v w q (2 + 1) = rs_f u v w q 2 := if_neg (fun z => hm z.2)
      refine b_iload rfl rfl ?_
      refine b_iconst rfl ?_
      refine b_icmp_ge rfl (fun c_55 => ?_) (fun c_55 => ?_)
      · exact absurd c_55 (by decide)
      · refine b_iload rfl rfl ?_
        refine b_if_eq rfl (fun c_60 => ?_) (fun c_60 => ?_)
        · exact absurd c_60 (by decide)
        · refine b_iload rfl rfl ?_
          refine b_iconst rfl ?_
          refine b_idiv rfl (by decide) ?_
          refine b_istore rfl (Nat.le_of_ble_eq_true rfl) ?_
          refine b_iload rfl rfl ?_
          refine b_iconst rfl ?_
          refine b_irem rfl (by decide) ?_
          refine b_istore rfl (Nat.le_of_ble_eq_true rfl) ?_
          refine b_iconst rfl ?_
          refine b_iload rfl rfl ?_
          refine b_isub rfl ?_
          refine b_iload rfl rfl ?_
          refine b_iload_n rfl rfl ?_
          refine b_iload_n rfl rfl ?_
          refine b_iload_n rfl rfl ?_
          refine b_callS rfl rfl hk_M_getsBy rfl rfl rfl (Nat.le_of_ble_eq_true rfl) (q_M_getsBy) (Nat.le_of_ble_eq_true rfl) (fun r_84 D_84 q_84 => ?_)
          obtain ⟨rfl, rfl⟩ := q_84
          refine b_iload rfl rfl ?_
          refine b_iload rfl rfl ?_
          refine b_iload_n rfl rfl ?_
          refine b_iload_n rfl rfl ?_
          refine b_iload_n rfl rfl ?_
          refine b_callS rfl rfl hk_M_getsBy rfl rfl rfl (Nat.le_of_ble_eq_true rfl) (q_M_getsBy) (Nat.le_of_ble_eq_true rfl) (fun r_94 D_94 q_94 => ?_)
          obtain ⟨rfl, rfl⟩ := q_94
          refine b_icmp_gt rfl (fun c_97 => ?_) (fun c_97 => ?_)
          · exact absurd (e.mp hr).1 (Int32.not_le.mpr c_97)
          · refine b_iconst rfl ?_
            refine b_iload rfl rfl ?_
            refine b_isub rfl ?_
            refine b_iload rfl rfl ?_
            refine b_iload_n rfl rfl ?_
            refine b_iload_n rfl rfl ?_
            refine b_iload_n rfl rfl ?_
            refine b_callS rfl rfl hk_M_getsBy rfl rfl rfl (Nat.le_of_ble_eq_true rfl) (q_M_getsBy) (Nat.le_of_ble_eq_true rfl) (fun r_109 D_109 q_109 => ?_)
            obtain ⟨rfl, rfl⟩ := q_109
            refine b_iload rfl rfl ?_
            refine b_iload rfl rfl ?_
            refine b_iload_n rfl rfl ?_
            refine b_iload_n rfl rfl ?_
            refine b_iload_n rfl rfl ?_
            refine b_callS rfl rfl hk_M_getsBy rfl rfl rfl (Nat.le_of_ble_eq_true rfl) (q_M_getsBy) (Nat.le_of_ble_eq_true rfl) (fun r_119 D_119 q_119 => ?_)
            obtain ⟨rfl, rfl⟩ := q_119
            refine b_icmp_gt rfl (fun c_122 => ?_) (fun c_122 => ?_)
            · exact absurd (e.mp hr).2 (Int32.not_le.mpr c_122)
            · refine b_iconst rfl ?_
              refine b_goto rfl ?_
              refine b_istore rfl (Nat.le_of_ble_eq_true rfl) ?_
              refine b_iload rfl rfl ?_
              refine b_if_eq rfl (fun c_134 => ?_) (fun c_134 => ?_)
              · exact absurd c_134 (by decide)
              · refine b_iload rfl rfl ?_
                refine b_iload rfl rfl ?_
                refine b_icmp_ne rfl (fun c_141 => ?_) (fun c_141 => ?_)
                · refine b_iload rfl rfl ?_
                  refine b_istore rfl (Nat.le_of_ble_eq_true rfl) ?_
                  refine b_iload rfl rfl ?_
                  refine b_iload rfl rfl ?_
                  refine b_if_eq rfl (fun c_157 => ?_) (fun c_157 => ?_)
                  · exact absurd c_157 (by decide)
                  · refine b_iconst rfl ?_
                    refine b_goto rfl ?_
                    refine b_iadd rfl ?_
                    refine b_istore rfl (Nat.le_of_ble_eq_true rfl) ?_
                    refine b_iinc rfl rfl (Nat.le_of_ble_eq_true rfl) ?_
                    refine b_goto rfl ?_
                    exact b_lp ih (le_e (le_e (le_e (le_e (le_e (le_e (le_q (by rw [hc]) (le_q (by rw [hf]) (le_q (by rw [nI_succ]) (le_n (le_n (le_n le_0)))))))))))) rfl rfl
                · exact absurd c_141 hm
  · have hc : nI (rs_c u v w (2 + 1)) = nI (rs_c u v w 2) + 0 := by rw [show rs_c u v w (2 + 1) = rs_c u v w 2 by show rs_c u v w 2 + _ = _; rw [if_neg hr]; rfl]; exact (Int32.add_zero _).symm
    have hf : rs_f u v w q (2 + 1) = rs_f u v w q 2 := if_neg (fun z => hr z.1)
    refine b_iload rfl rfl ?_
    refine b_iconst rfl ?_
    refine b_icmp_ge rfl (fun c_55 => ?_) (fun c_55 => ?_)
    · exact absurd c_55 (by decide)
    · refine b_iload rfl rfl ?_
      refine b_if_eq rfl (fun c_60 => ?_) (fun c_60 => ?_)
      · exact absurd c_60 (by decide)
      · refine b_iload rfl rfl ?_
        refine b_iconst rfl ?_
        refine b_idiv rfl (by decide) ?_
        refine b_istore rfl (Nat.le_of_ble_eq_true rfl) ?_
        refine b_iload rfl rfl ?_
        refine b_iconst rfl ?_
        refine b_irem rfl (by decide) ?_
        refine b_istore rfl (Nat.le_of_ble_eq_true rfl) ?_
        refine b_iconst rfl ?_
        refine b_iload rfl rfl ?_
        refine b_isub rfl ?_
        refine b_iload rfl rfl ?_
        refine b_iload_n rfl rfl ?_
        refine b_iload_n rfl rfl ?_
        refine b_iload_n rfl rfl ?_
        refine b_callS rfl rfl hk_M_getsBy rfl rfl rfl (Nat.le_of_ble_eq_true rfl) (q_M_getsBy) (Nat.le_of_ble_eq_true rfl) (fun r_84 D_84 q_84 => ?_)
        obtain ⟨rfl, rfl⟩ := q_84
        refine b_iload rfl rfl ?_
        refine b_iload rfl rfl ?_
        refine b_iload_n rfl rfl ?_
        refine b_iload_n rfl rfl ?_
        refine b_iload_n rfl rfl ?_
        refine b_callS rfl rfl hk_M_getsBy rfl rfl rfl (Nat.le_of_ble_eq_true rfl) (q_M_getsBy) (Nat.le_of_ble_eq_true rfl) (fun r_94 D_94 q_94 => ?_)
        obtain ⟨rfl, rfl⟩ := q_94
        refine b_icmp_gt rfl (fun c_97 => ?_) (fun c_97 => ?_)
        · refine b_iconst rfl ?_
          refine b_istore rfl (Nat.le_of_ble_eq_true rfl) ?_
          refine b_iload rfl rfl ?_
          refine b_if_eq rfl (fun c_134 => ?_) (fun c_134 => ?_)
          · refine b_iload rfl rfl ?_
            refine b_istore rfl (Nat.le_of_ble_eq_true rfl) ?_
            refine b_iload rfl rfl ?_
            refine b_iload rfl rfl ?_
            refine b_if_eq rfl (fun c_157 => ?_) (fun c_157 => ?_)
            · refine b_iconst rfl ?_
              refine b_iadd rfl ?_
              refine b_istore rfl (Nat.le_of_ble_eq_true rfl) ?_
              refine b_iinc rfl rfl (Nat.le_of_ble_eq_true rfl) ?_
              refine b_goto rfl ?_
              exact b_lp ih (le_e (le_e (le_e (le_e (le_e (le_e (le_q (by rw [hc]) (le_q (by rw [hf]) (le_q (by rw [nI_succ]) (le_n (le_n (le_n le_0)))))))))))) rfl rfl
            · exact absurd rfl c_157
          · exact absurd rfl c_134
        · refine b_iconst rfl ?_
          refine b_iload rfl rfl ?_
          refine b_isub rfl ?_
          refine b_iload rfl rfl ?_
          refine b_iload_n rfl rfl ?_
          refine b_iload_n rfl rfl ?_
          refine b_iload_n rfl rfl ?_
          refine b_callS rfl rfl hk_M_getsBy rfl rfl rfl (Nat.le_of_ble_eq_true rfl) (q_M_getsBy) (Nat.le_of_ble_eq_true rfl) (fun r_109 D_109 q_109 => ?_)
          obtain ⟨rfl, rfl⟩ := q_109
          refine b_iload rfl rfl ?_
          refine b_iload rfl rfl ?_
          refine b_iload_n rfl rfl ?_
          refine b_iload_n rfl rfl ?_
          refine b_iload_n rfl rfl ?_
          refine b_callS rfl rfl hk_M_getsBy rfl rfl rfl (Nat.le_of_ble_eq_true rfl) (q_M_getsBy) (Nat.le_of_ble_eq_true rfl) (fun r_119 D_119 q_119 => ?_)
          obtain ⟨rfl, rfl⟩ := q_119
          refine b_icmp_gt rfl (fun c_122 => ?_) (fun c_122 => ?_)
          · refine b_iconst rfl ?_
            refine b_istore rfl (Nat.le_of_ble_eq_true rfl) ?_
            refine b_iload rfl rfl ?_
            refine b_if_eq rfl (fun c_134 => ?_) (fun c_134 => ?_)
            · refine b_iload rfl rfl ?_
              refine b_istore rfl (Nat.le_of_ble_eq_true rfl) ?_
              refine b_iload rfl rfl ?_
              refine b_iload rfl rfl ?_
              refine b_if_eq rfl (fun c_157 => ?_) (fun c_157 => ?_)
              · refine b_iconst rfl ?_
                refine b_iadd rfl ?_
                refine b_istore rfl (Nat.le_of_ble_eq_true rfl) ?_
                refine b_iinc rfl rfl (Nat.le_of_ble_eq_true rfl) ?_
                refine b_goto rfl ?_
                exact b_lp ih (le_e (le_e (le_e (le_e (le_e (le_e (le_q (by rw [hc]) (le_q (by rw [hf]) (le_q (by rw [nI_succ]) (le_n (le_n (le_n le_0)))))))))))) rfl rfl
              · exact absurd rfl c_157
            · exact absurd rfl c_134
          · exact absurd (e.mpr ⟨Int32.not_lt.mp c_97, Int32.not_lt.mp c_122⟩) hr
theorem mr_3 {P : Option Value → hnD → Prop} {u v w q : Int32} (ih : hn_B 1 hm_M_rests P 52 [.ref 188, .int u, .int v, .int w, .int q, .int 1, .int (nI (rs_c u v w (3 + 1))), .int (rs_f u v w q (3 + 1)), .int (nI (3 + 1)), .null, .null, .null] [] (I, J, R)) : hn_B 1 hm_M_rests P 52 [.ref 188, .int u, .int v, .int w, .int q, .int 1, .int (nI (rs_c u v w 3)), .int (rs_f u v w q 3), .int (nI 3), .null, .null, .null] [] (I, J, R) := by
  have e : sp_rs 3 u v w ↔ (gn (1 - nI 3 / 2) (nI 3 % 2) u v w ≤ gn (nI 3 / 2) (nI 3 % 2) u v w ∧ gn (1 - nI 3 % 2) (nI 3 / 2) u v w ≤ gn (nI 3 % 2) (nI 3 / 2) u v w) := by
    rw [show (1 : Int32) - nI 3 / 2 = nI (1 - 3 / 2) by decide, show nI 3 / 2 = nI (3 / 2) by decide, show (1 : Int32) - nI 3 % 2 = nI (1 - 3 % 2) by decide, show nI 3 % 2 = nI (3 % 2) by decide]
  by_cases hr : sp_rs 3 u v w
  · by_cases hm : nI (rs_c u v w 3) = q
    · have hc : nI (rs_c u v w (3 + 1)) = nI (rs_c u v w 3) + 1 := by rw [show rs_c u v w (3 + 1) = rs_c u v w 3 + 1 by show rs_c u v w 3 + _ = _; rw [if_pos hr], nI_succ]
      have hf : rs_f u v w q (3 + 1) = nI 3 := if_pos ⟨hr, hm⟩
      refine b_iload rfl rfl ?_
      refine b_iconst rfl ?_
      refine b_icmp_ge rfl (fun c_55 => ?_) (fun c_55 => ?_)
      · exact absurd c_55 (by decide)
      · refine b_iload rfl rfl ?_
        refine b_if_eq rfl (fun c_60 => ?_) (fun c_60 => ?_)
        · exact absurd c_60 (by decide)
        · refine b_iload rfl rfl ?_
          refine b_iconst rfl ?_
          refine b_idiv rfl (by decide) ?_
          refine b_istore rfl (Nat.le_of_ble_eq_true rfl) ?_
          refine b_iload rfl rfl ?_
          refine b_iconst rfl ?_
          refine b_irem rfl (by decide) ?_
          refine b_istore rfl (Nat.le_of_ble_eq_true rfl) ?_
          refine b_iconst rfl ?_
          refine b_iload rfl rfl ?_
          refine b_isub rfl ?_
          refine b_iload rfl rfl ?_
          refine b_iload_n rfl rfl ?_
          refine b_iload_n rfl rfl ?_
          refine b_iload_n rfl rfl ?_
          refine b_callS rfl rfl hk_M_getsBy rfl rfl rfl (Nat.le_of_ble_eq_true rfl) (q_M_getsBy) (Nat.le_of_ble_eq_true rfl) (fun r_84 D_84 q_84 => ?_)
          obtain ⟨rfl, rfl⟩ := q_84
          refine b_iload rfl rfl ?_
          refine b_iload rfl rfl ?_
          refine b_iload_n rfl rfl ?_
          refine b_iload_n rfl rfl ?_
          refine b_iload_n rfl rfl ?_
          refine b_callS rfl rfl hk_M_getsBy rfl rfl rfl (Nat.le_of_ble_eq_true rfl) (q_M_getsBy) (Nat.le_of_ble_eq_true rfl) (fun r_94 D_94 q_94 => ?_)
          obtain ⟨rfl, rfl⟩ := q_94
          refine b_icmp_gt rfl (fun c_97 => ?_) (fun c_97 => ?_)
          · exact absurd (e.mp hr).1 (Int32.not_le.mpr c_97)
          · refine b_iconst rfl ?_
            refine b_iload rfl rfl ?_
            refine b_isub rfl ?_
            refine b_iload rfl rfl ?_
            refine b_iload_n rfl rfl ?_
            refine b_iload_n rfl rfl ?_
            refine b_iload_n rfl rfl ?_
            refine b_callS rfl rfl hk_M_getsBy rfl rfl rfl (Nat.le_of_ble_eq_true rfl) (q_M_getsBy) (Nat.le_of_ble_eq_true rfl) (fun r_109 D_109 q_109 => ?_)
            obtain ⟨rfl, rfl⟩ := q_109
            refine b_iload rfl rfl ?_
            refine b_iload rfl rfl ?_
            refine b_iload_n rfl rfl ?_
            refine b_iload_n rfl rfl ?_
            refine b_iload_n rfl rfl ?_
            refine b_callS rfl rfl hk_M_getsBy rfl rfl rfl (Nat.le_of_ble_eq_true rfl) (q_M_getsBy) (Nat.le_of_ble_eq_true rfl) (fun r_119 D_119 q_119 => ?_)
            obtain ⟨rfl, rfl⟩ := q_119
            refine b_icmp_gt rfl (fun c_122 => ?_) (fun c_122 => ?_)
            · exact absurd (e.mp hr).2 (Int32.not_le.mpr c_122)
            · refine b_iconst rfl ?_
              refine b_goto rfl ?_
              refine b_istore rfl (Nat.le_of_ble_eq_true rfl) ?_
              refine b_iload rfl rfl ?_
              refine b_if_eq rfl (fun c_134 => ?_) (fun c_134 => ?_)
              · exact absurd c_134 (by decide)
              · refine b_iload rfl rfl ?_
                refine b_iload rfl rfl ?_
                refine b_icmp_ne rfl (fun c_141 => ?_) (fun c_141 => ?_)
                · exact absurd hm c_141
                · refine b_iload rfl rfl ?_
                  refine b_goto rfl ?_
                  refine b_istore rfl (Nat.le_of_ble_eq_true rfl) ?_
                  refine b_iload rfl rfl ?_
                  refine b_iload rfl rfl ?_
                  refine b_if_eq rfl (fun c_157 => ?_) (fun c_157 => ?_)
                  · exact absurd c_157 (by decide)
                  · refine b_iconst rfl ?_
                    refine b_goto rfl ?_
                    refine b_iadd rfl ?_
                    refine b_istore rfl (Nat.le_of_ble_eq_true rfl) ?_
                    refine b_iinc rfl rfl (Nat.le_of_ble_eq_true rfl) ?_
                    refine b_goto rfl ?_
                    exact b_lp ih (le_e (le_e (le_e (le_e (le_e (le_e (le_q (by rw [hc]) (le_q (by rw [hf]) (le_q (by rw [nI_succ]) (le_n (le_n (le_n le_0)))))))))))) rfl rfl
    · have hc : nI (rs_c u v w (3 + 1)) = nI (rs_c u v w 3) + 1 := by rw [show rs_c u v w (3 + 1) = rs_c u v w 3 + 1 by show rs_c u v w 3 + _ = _; rw [if_pos hr], nI_succ]
      have hf : rs_f u v w q (3 + 1) = rs_f u v w q 3 := if_neg (fun z => hm z.2)
      refine b_iload rfl rfl ?_
      refine b_iconst rfl ?_
      refine b_icmp_ge rfl (fun c_55 => ?_) (fun c_55 => ?_)
      · exact absurd c_55 (by decide)
      · refine b_iload rfl rfl ?_
        refine b_if_eq rfl (fun c_60 => ?_) (fun c_60 => ?_)
        · exact absurd c_60 (by decide)
        · refine b_iload rfl rfl ?_
          refine b_iconst rfl ?_
          refine b_idiv rfl (by decide) ?_
          refine b_istore rfl (Nat.le_of_ble_eq_true rfl) ?_
          refine b_iload rfl rfl ?_
          refine b_iconst rfl ?_
          refine b_irem rfl (by decide) ?_
          refine b_istore rfl (Nat.le_of_ble_eq_true rfl) ?_
          refine b_iconst rfl ?_
          refine b_iload rfl rfl ?_
          refine b_isub rfl ?_
          refine b_iload rfl rfl ?_
          refine b_iload_n rfl rfl ?_
          refine b_iload_n rfl rfl ?_
          refine b_iload_n rfl rfl ?_
          refine b_callS rfl rfl hk_M_getsBy rfl rfl rfl (Nat.le_of_ble_eq_true rfl) (q_M_getsBy) (Nat.le_of_ble_eq_true rfl) (fun r_84 D_84 q_84 => ?_)
          obtain ⟨rfl, rfl⟩ := q_84
          refine b_iload rfl rfl ?_
          refine b_iload rfl rfl ?_
          refine b_iload_n rfl rfl ?_
          refine b_iload_n rfl rfl ?_
          refine b_iload_n rfl rfl ?_
          refine b_callS rfl rfl hk_M_getsBy rfl rfl rfl (Nat.le_of_ble_eq_true rfl) (q_M_getsBy) (Nat.le_of_ble_eq_true rfl) (fun r_94 D_94 q_94 => ?_)
          obtain ⟨rfl, rfl⟩ := q_94
          refine b_icmp_gt rfl (fun c_97 => ?_) (fun c_97 => ?_)
          · exact absurd (e.mp hr).1 (Int32.not_le.mpr c_97)
          · refine b_iconst rfl ?_
            refine b_iload rfl rfl ?_
            refine b_isub rfl ?_
            refine b_iload rfl rfl ?_
            refine b_iload_n rfl rfl ?_
            refine b_iload_n rfl rfl ?_
            refine b_iload_n rfl rfl ?_
            refine b_callS rfl rfl hk_M_getsBy rfl rfl rfl (Nat.le_of_ble_eq_true rfl) (q_M_getsBy) (Nat.le_of_ble_eq_true rfl) (fun r_109 D_109 q_109 => ?_)
            obtain ⟨rfl, rfl⟩ := q_109
            refine b_iload rfl rfl ?_
            refine b_iload rfl rfl ?_
            refine b_iload_n rfl rfl ?_
            refine b_iload_n rfl rfl ?_
            refine b_iload_n rfl rfl ?_
            refine b_callS rfl rfl hk_M_getsBy rfl rfl rfl (Nat.le_of_ble_eq_true rfl) (q_M_getsBy) (Nat.le_of_ble_eq_true rfl) (fun r_119 D_119 q_119 => ?_)
            obtain ⟨rfl, rfl⟩ := q_119
            refine b_icmp_gt rfl (fun c_122 => ?_) (fun c_122 => ?_)
            · exact absurd (e.mp hr).2 (Int32.not_le.mpr c_122)
            · refine b_iconst rfl ?_
              refine b_goto rfl ?_
              refine b_istore rfl (Nat.le_of_ble_eq_true rfl) ?_
              refine b_iload rfl rfl ?_
              refine b_if_eq rfl (fun c_134 => ?_) (fun c_134 => ?_)
              · exact absurd c_134 (by decide)
              · refine b_iload rfl rfl ?_
                refine b_iload rfl rfl ?_
                refine b_icmp_ne rfl (fun c_141 => ?_) (fun c_141 => ?_)
                · refine b_iload rfl rfl ?_
                  refine b_istore rfl (Nat.le_of_ble_eq_true rfl) ?_
                  refine b_iload rfl rfl ?_
                  refine b_iload rfl rfl ?_
                  refine b_if_eq rfl (fun c_157 => ?_) (fun c_157 => ?_)
                  · exact absurd c_157 (by decide)
                  · refine b_iconst rfl ?_
                    refine b_goto rfl ?_
                    refine b_iadd rfl ?_
                    refine b_istore rfl (Nat.le_of_ble_eq_true rfl) ?_
                    refine b_iinc rfl rfl (Nat.le_of_ble_eq_true rfl) ?_
                    refine b_goto rfl ?_
                    exact b_lp ih (le_e (le_e (le_e (le_e (le_e (le_e (le_q (by rw [hc]) (le_q (by rw [hf]) (le_q (by rw [nI_succ]) (le_n (le_n (le_n le_0)))))))))))) rfl rfl
                · exact absurd c_141 hm
  · have hc : nI (rs_c u v w (3 + 1)) = nI (rs_c u v w 3) + 0 := by rw [show rs_c u v w (3 + 1) = rs_c u v w 3 by show rs_c u v w 3 + _ = _; rw [if_neg hr]; rfl]; exact (Int32.add_zero _).symm
    have hf : rs_f u v w q (3 + 1) = rs_f u v w q 3 := if_neg (fun z => hr z.1)
    refine b_iload rfl rfl ?_
    refine b_iconst rfl ?_
    refine b_icmp_ge rfl (fun c_55 => ?_) (fun c_55 => ?_)
    · exact absurd c_55 (by decide)
    · refine b_iload rfl rfl ?_
      refine b_if_eq rfl (fun c_60 => ?_) (fun c_60 => ?_)
      · exact absurd c_60 (by decide)
      · refine b_iload rfl rfl ?_
        refine b_iconst rfl ?_
        refine b_idiv rfl (by decide) ?_
        refine b_istore rfl (Nat.le_of_ble_eq_true rfl) ?_
        refine b_iload rfl rfl ?_
        refine b_iconst rfl ?_
        refine b_irem rfl (by decide) ?_
        refine b_istore rfl (Nat.le_of_ble_eq_true rfl) ?_
        refine b_iconst rfl ?_
        refine b_iload rfl rfl ?_
        refine b_isub rfl ?_
        refine b_iload rfl rfl ?_
        refine b_iload_n rfl rfl ?_
        refine b_iload_n rfl rfl ?_
        refine b_iload_n rfl rfl ?_
        refine b_callS rfl rfl hk_M_getsBy rfl rfl rfl (Nat.le_of_ble_eq_true rfl) (q_M_getsBy) (Nat.le_of_ble_eq_true rfl) (fun r_84 D_84 q_84 => ?_)
        obtain ⟨rfl, rfl⟩ := q_84
        refine b_iload rfl rfl ?_
        refine b_iload rfl rfl ?_
        refine b_iload_n rfl rfl ?_
        refine b_iload_n rfl rfl ?_
        refine b_iload_n rfl rfl ?_
        refine b_callS rfl rfl hk_M_getsBy rfl rfl rfl (Nat.le_of_ble_eq_true rfl) (q_M_getsBy) (Nat.le_of_ble_eq_true rfl) (fun r_94 D_94 q_94 => ?_)
        obtain ⟨rfl, rfl⟩ := q_94
        refine b_icmp_gt rfl (fun c_97 => ?_) (fun c_97 => ?_)
        · refine b_iconst rfl ?_
          refine b_istore rfl (Nat.le_of_ble_eq_true rfl) ?_
          refine b_iload rfl rfl ?_
          refine b_if_eq rfl (fun c_134 => ?_) (fun c_134 => ?_)
          · refine b_iload rfl rfl ?_
            refine b_istore rfl (Nat.le_of_ble_eq_true rfl) ?_
            refine b_iload rfl rfl ?_
            refine b_iload rfl rfl ?_
            refine b_if_eq rfl (fun c_157 => ?_) (fun c_157 => ?_)
            · refine b_iconst rfl ?_
              refine b_iadd rfl ?_
              refine b_istore rfl (Nat.le_of_ble_eq_true rfl) ?_
              refine b_iinc rfl rfl (Nat.le_of_ble_eq_true rfl) ?_
              refine b_goto rfl ?_
              exact b_lp ih (le_e (le_e (le_e (le_e (le_e (le_e (le_q (by rw [hc]) (le_q (by rw [hf]) (le_q (by rw [nI_succ]) (le_n (le_n (le_n le_0)))))))))))) rfl rfl
            · exact absurd rfl c_157
          · exact absurd rfl c_134
        · refine b_iconst rfl ?_
          refine b_iload rfl rfl ?_
          refine b_isub rfl ?_
          refine b_iload rfl rfl ?_
          refine b_iload_n rfl rfl ?_
          refine b_iload_n rfl rfl ?_
          refine b_iload_n rfl rfl ?_
          refine b_callS rfl rfl hk_M_getsBy rfl rfl rfl (Nat.le_of_ble_eq_true rfl) (q_M_getsBy) (Nat.le_of_ble_eq_true rfl) (fun r_109 D_109 q_109 => ?_)
          obtain ⟨rfl, rfl⟩ := q_109
          refine b_iload rfl rfl ?_
          refine b_iload rfl rfl ?_
          refine b_iload_n rfl rfl ?_
          refine b_iload_n rfl rfl ?_
          refine b_iload_n rfl rfl ?_
          refine b_callS rfl rfl hk_M_getsBy rfl rfl rfl (Nat.le_of_ble_eq_true rfl) (q_M_getsBy) (Nat.le_of_ble_eq_true rfl) (fun r_119 D_119 q_119 => ?_)
          obtain ⟨rfl, rfl⟩ := q_119
          refine b_icmp_gt rfl (fun c_122 => ?_) (fun c_122 => ?_)
          · refine b_iconst rfl ?_
            refine b_istore rfl (Nat.le_of_ble_eq_true rfl) ?_
            refine b_iload rfl rfl ?_
            refine b_if_eq rfl (fun c_134 => ?_) (fun c_134 => ?_)
            · refine b_iload rfl rfl ?_
              refine b_istore rfl (Nat.le_of_ble_eq_true rfl) ?_
              refine b_iload rfl rfl ?_
              refine b_iload rfl rfl ?_
              refine b_if_eq rfl (fun c_157 => ?_) (fun c_157 => ?_)
              · refine b_iconst rfl ?_
                refine b_iadd rfl ?_
                refine b_istore rfl (Nat.le_of_ble_eq_true rfl) ?_
                refine b_iinc rfl rfl (Nat.le_of_ble_eq_true rfl) ?_
                refine b_goto rfl ?_
                exact b_lp ih (le_e (le_e (le_e (le_e (le_e (le_e (le_q (by rw [hc]) (le_q (by rw [hf]) (le_q (by rw [nI_succ]) (le_n (le_n (le_n le_0)))))))))))) rfl rfl
              · exact absurd rfl c_157
            · exact absurd rfl c_134
          · exact absurd (e.mpr ⟨Int32.not_lt.mp c_97, Int32.not_lt.mp c_122⟩) hr
theorem q_M_rests {u v w q : Int32} : hn_F 1 hm_M_rests [.ref 188, .int u, .int v, .int w, .int q] (I, J, R) (fun r D' => D' = (hn_u I 188 0 (if v_thr u v w q then 1 else 0), J, R) ∧ r = some (.int (if v_thr u v w q then 0 else v_rests u v w q))) := by
  refine hn_F_of _ hk_M_rests rfl (Nat.le_of_ble_eq_true rfl) ?_
  obtain ⟨P, hP⟩ : ∃ P : Option Value → hnD → Prop, P = (fun r D' => D' = (hn_u I 188 0 (if v_thr u v w q then 1 else 0), J, R) ∧ r = some (.int (if v_thr u v w q then 0 else v_rests u v w q))) := ⟨_, rfl⟩
  rw [← hP]
  by_cases hok : rs_ok u v w q
  · have fin : hn_B 1 hm_M_rests P 174 [.ref 188, .int u, .int v, .int w, .int q, .int 1, .int (nI (rs_c u v w 4)), .int (rs_f u v w q 4), .int (nI 4), .null, .null, .null] [] (I, J, R) := by
      by_cases hq1 : q = -1
      · have ht : ¬ v_thr u v w q := fun z => z ⟨hok, Or.inl hq1⟩
        have f1 : P (some (.int (nI (rs_c u v w 4)))) (hn_u I 188 0 0, J, R) := by rw [hP]; exact ⟨by rw [if_neg ht], by rw [if_neg ht, v_rests, if_pos hq1]⟩
        refine b_aload_n rfl rfl ?_
        refine b_iload rfl rfl ?_
        refine b_if_eq rfl (fun c_177 => ?_) (fun c_177 => ?_)
        · exact absurd c_177 (by decide)
        · refine b_iload rfl rfl ?_
          refine b_if_lt rfl (fun c_182 => ?_) (fun c_182 => ?_)
          · refine b_iconst rfl ?_
            refine b_goto rfl ?_
            refine b_putI rfl (by first | rfl | assumption) rfl rfl ⟨rfl, rfl⟩ ?_
            refine b_aload_n rfl rfl ?_
            refine b_getI rfl (by first | rfl | assumption) rfl ?_
            rw [hs_us]
            refine b_if_le rfl (fun c_202 => ?_) (fun c_202 => ?_)
            · refine b_iload rfl rfl ?_
              refine b_if_ge rfl (fun c_211 => ?_) (fun c_211 => ?_)
              · exact absurd c_211 (by rw [hq1]; decide)
              · refine b_iload rfl rfl ?_
                refine b_goto rfl ?_
                exact b_ireturn rfl trivial (f1)
            · exact absurd (by decide) c_202
          · exact absurd (show q < 0 by rw [hq1]; decide) c_182
      · have hq0 := q_lt0 hok.2.2.2 hq1
        rcases rs_f_or (u := u) (v := v) (w := w) (q := q) 4 with hf | ⟨j, hj, hf⟩
        · have ht : v_thr u v w q := fun z => z.2.elim hq1 (fun g => g hf)
          have f1 : P (some (.int 0)) (hn_u I 188 0 1, J, R) := by rw [hP]; exact ⟨by rw [if_pos ht], by rw [if_pos ht]⟩
          refine b_aload_n rfl rfl ?_
          refine b_iload rfl rfl ?_
          refine b_if_eq rfl (fun c_177 => ?_) (fun c_177 => ?_)
          · exact absurd c_177 (by decide)
          · refine b_iload rfl rfl ?_
            refine b_if_lt rfl (fun c_182 => ?_) (fun c_182 => ?_)
            · exact absurd c_182 hq0
            · refine b_iload rfl rfl ?_
              refine b_if_lt rfl (fun c_187 => ?_) (fun c_187 => ?_)
              · refine b_iconst rfl ?_
                refine b_putI rfl (by first | rfl | assumption) rfl rfl ⟨rfl, rfl⟩ ?_
                refine b_aload_n rfl rfl ?_
                refine b_getI rfl (by first | rfl | assumption) rfl ?_
                rw [hs_us]
                refine b_if_le rfl (fun c_202 => ?_) (fun c_202 => ?_)
                · exact absurd c_202 (by decide)
                · refine b_iconst rfl ?_
                  refine b_goto rfl ?_
                  exact b_ireturn rfl trivial (f1)
              · exact absurd (show rs_f u v w q 4 < 0 by rw [hf]; decide) c_187
        · have hf0 : ¬ rs_f u v w q 4 < 0 := by rcases (show j = 0 ∨ j = 1 ∨ j = 2 ∨ j = 3 by omega) with rfl | rfl | rfl | rfl <;> rw [hf] <;> decide
          have hf1 : ¬ rs_f u v w q 4 = -1 := fun z => hf0 (by rw [z]; decide)
          have ht : ¬ v_thr u v w q := fun z => z ⟨hok, Or.inr hf1⟩
          have f1 : P (some (.int (rs_f u v w q 4))) (hn_u I 188 0 0, J, R) := by rw [hP]; exact ⟨by rw [if_neg ht], by rw [if_neg ht, v_rests, if_neg hq1]⟩
          refine b_aload_n rfl rfl ?_
          refine b_iload rfl rfl ?_
          refine b_if_eq rfl (fun c_177 => ?_) (fun c_177 => ?_)
          · exact absurd c_177 (by decide)
          · refine b_iload rfl rfl ?_
            refine b_if_lt rfl (fun c_182 => ?_) (fun c_182 => ?_)
            · exact absurd c_182 hq0
            · refine b_iload rfl rfl ?_
              refine b_if_lt rfl (fun c_187 => ?_) (fun c_187 => ?_)
              · exact absurd c_187 hf0
              · refine b_iconst rfl ?_
                refine b_goto rfl ?_
                refine b_putI rfl (by first | rfl | assumption) rfl rfl ⟨rfl, rfl⟩ ?_
                refine b_aload_n rfl rfl ?_
                refine b_getI rfl (by first | rfl | assumption) rfl ?_
                rw [hs_us]
                refine b_if_le rfl (fun c_202 => ?_) (fun c_202 => ?_)
                · refine b_iload rfl rfl ?_
                  refine b_if_ge rfl (fun c_211 => ?_) (fun c_211 => ?_)
                  · refine b_iload rfl rfl ?_
                    exact b_ireturn rfl trivial (f1)
                  · exact absurd (Int32.not_lt.mp hq0) c_211
                · exact absurd (by decide) c_202
    have lp : hn_B 1 hm_M_rests P 52 [.ref 188, .int u, .int v, .int w, .int q, .int 1, .int (nI (rs_c u v w 0)), .int (rs_f u v w q 0), .int (nI 0), .null, .null, .null] [] (I, J, R) := by
      refine sp_ind 4 (fun k => hn_B 1 hm_M_rests P 52 [.ref 188, .int u, .int v, .int w, .int q, .int 1, .int (nI (rs_c u v w k)), .int (rs_f u v w q k), .int (nI k), .null, .null, .null] [] (I, J, R)) ?_ ?_
      · refine b_iload rfl rfl ?_
        refine b_iconst rfl ?_
        refine b_icmp_ge rfl (fun c_55 => ?_) (fun c_55 => ?_)
        · exact fin
        · exact absurd (by decide) c_55
      · intro k hk ih
        rcases (show k = 0 ∨ k = 1 ∨ k = 2 ∨ k = 3 by omega) with rfl | rfl | rfl | rfl
        · exact mr_0 ih
        · exact mr_1 ih
        · exact mr_2 ih
        · exact mr_3 ih
    have g1 : (if sp_9 u then (1 : Int32) else 0) = 1 := if_pos hok.1
    have g2 : (if sp_9 v then (1 : Int32) else 0) = 1 := if_pos hok.2.1
    have g3 : (if sp_9 w then (1 : Int32) else 0) = 1 := if_pos hok.2.2.1
    refine b_iload_n rfl rfl ?_
    refine b_iconst rfl ?_
    refine b_bipush rfl ?_
    refine b_callS rfl rfl hk_M_within rfl rfl rfl (Nat.le_of_ble_eq_true rfl) (q_M_gain) (Nat.le_of_ble_eq_true rfl) (fun r_4 D_4 q_4 => ?_)
    obtain ⟨rfl, hq⟩ := q_4
    rw [g1] at hq
    subst hq
    refine b_if_eq rfl (fun c_7 => ?_) (fun c_7 => ?_)
    · exact absurd c_7 (by decide)
    · refine b_iload_n rfl rfl ?_
      refine b_iconst rfl ?_
      refine b_bipush rfl ?_
      refine b_callS rfl rfl hk_M_within rfl rfl rfl (Nat.le_of_ble_eq_true rfl) (q_M_gain) (Nat.le_of_ble_eq_true rfl) (fun r_14 D_14 q_14 => ?_)
      obtain ⟨rfl, hq⟩ := q_14
      rw [g2] at hq
      subst hq
      refine b_if_eq rfl (fun c_17 => ?_) (fun c_17 => ?_)
      · exact absurd c_17 (by decide)
      · refine b_iload_n rfl rfl ?_
        refine b_iconst rfl ?_
        refine b_bipush rfl ?_
        refine b_callS rfl rfl hk_M_within rfl rfl rfl (Nat.le_of_ble_eq_true rfl) (q_M_gain) (Nat.le_of_ble_eq_true rfl) (fun r_24 D_24 q_24 => ?_)
        obtain ⟨rfl, hq⟩ := q_24
        rw [g3] at hq
        subst hq
        refine b_if_eq rfl (fun c_27 => ?_) (fun c_27 => ?_)
        · exact absurd c_27 (by decide)
        · refine b_iload rfl rfl ?_
          refine b_iconst rfl ?_
          refine b_icmp_lt rfl (fun c_33 => ?_) (fun c_33 => ?_)
          · exact absurd hok.2.2.2 (Int32.not_le.mpr c_33)
          · refine b_iconst rfl ?_
            refine b_goto rfl ?_
            refine b_istore rfl (Nat.le_of_ble_eq_true rfl) ?_
            refine b_iconst rfl ?_
            refine b_istore rfl (Nat.le_of_ble_eq_true rfl) ?_
            refine b_iconst rfl ?_
            refine b_istore rfl (Nat.le_of_ble_eq_true rfl) ?_
            refine b_iconst rfl ?_
            refine b_istore rfl (Nat.le_of_ble_eq_true rfl) ?_
            exact b_lp lp (le_e (le_e (le_e (le_e (le_e (le_e (le_q (by rfl) (le_q (by rfl) (le_q (by rw [nI_0]) (le_n (le_n (le_n le_0)))))))))))) rfl rfl
  · have ht : v_thr u v w q := fun z => hok z.1
    have f1 : P (some (.int 0)) (hn_u I 188 0 1, J, R) := by rw [hP]; exact ⟨by rw [if_pos ht], by rw [if_pos ht]⟩
    have fin : hn_B 1 hm_M_rests P 52 [.ref 188, .int u, .int v, .int w, .int q, .int 0, .int 0, .int (-1), .int 0, .null, .null, .null] [] (I, J, R) := by
      refine b_iload rfl rfl ?_
      refine b_iconst rfl ?_
      refine b_icmp_ge rfl (fun c_55 => ?_) (fun c_55 => ?_)
      · exact absurd c_55 (by decide)
      · refine b_iload rfl rfl ?_
        refine b_if_eq rfl (fun c_60 => ?_) (fun c_60 => ?_)
        · refine b_aload_n rfl rfl ?_
          refine b_iload rfl rfl ?_
          refine b_if_eq rfl (fun c_177 => ?_) (fun c_177 => ?_)
          · refine b_iconst rfl ?_
            refine b_putI rfl (by first | rfl | assumption) rfl rfl ⟨rfl, rfl⟩ ?_
            refine b_aload_n rfl rfl ?_
            refine b_getI rfl (by first | rfl | assumption) rfl ?_
            rw [hs_us]
            refine b_if_le rfl (fun c_202 => ?_) (fun c_202 => ?_)
            · exact absurd c_202 (by decide)
            · refine b_iconst rfl ?_
              refine b_goto rfl ?_
              exact b_ireturn rfl trivial (f1)
          · exact absurd rfl c_177
        · exact absurd rfl c_60
    refine b_iload_n rfl rfl ?_
    refine b_iconst rfl ?_
    refine b_bipush rfl ?_
    refine b_callS rfl rfl hk_M_within rfl rfl rfl (Nat.le_of_ble_eq_true rfl) (q_M_gain) (Nat.le_of_ble_eq_true rfl) (fun r_4 D_4 q_4 => ?_)
    obtain ⟨rfl, hq⟩ := q_4
    subst hq
    refine b_if_eq rfl (fun c_7 => ?_) (fun c_7 => ?_)
    · refine b_iconst rfl ?_
      refine b_istore rfl (Nat.le_of_ble_eq_true rfl) ?_
      refine b_iconst rfl ?_
      refine b_istore rfl (Nat.le_of_ble_eq_true rfl) ?_
      refine b_iconst rfl ?_
      refine b_istore rfl (Nat.le_of_ble_eq_true rfl) ?_
      refine b_iconst rfl ?_
      refine b_istore rfl (Nat.le_of_ble_eq_true rfl) ?_
      exact b_lp fin (le_e (le_e (le_e (le_e (le_e (le_e (le_e (le_e (le_e (le_n (le_n (le_n le_0)))))))))))) rfl rfl
    · refine b_iload_n rfl rfl ?_
      refine b_iconst rfl ?_
      refine b_bipush rfl ?_
      refine b_callS rfl rfl hk_M_within rfl rfl rfl (Nat.le_of_ble_eq_true rfl) (q_M_gain) (Nat.le_of_ble_eq_true rfl) (fun r_14 D_14 q_14 => ?_)
      obtain ⟨rfl, hq⟩ := q_14
      subst hq
      refine b_if_eq rfl (fun c_17 => ?_) (fun c_17 => ?_)
      · refine b_iconst rfl ?_
        refine b_istore rfl (Nat.le_of_ble_eq_true rfl) ?_
        refine b_iconst rfl ?_
        refine b_istore rfl (Nat.le_of_ble_eq_true rfl) ?_
        refine b_iconst rfl ?_
        refine b_istore rfl (Nat.le_of_ble_eq_true rfl) ?_
        refine b_iconst rfl ?_
        refine b_istore rfl (Nat.le_of_ble_eq_true rfl) ?_
        exact b_lp fin (le_e (le_e (le_e (le_e (le_e (le_e (le_e (le_e (le_e (le_n (le_n (le_n le_0)))))))))))) rfl rfl
      · refine b_iload_n rfl rfl ?_
        refine b_iconst rfl ?_
        refine b_bipush rfl ?_
        refine b_callS rfl rfl hk_M_within rfl rfl rfl (Nat.le_of_ble_eq_true rfl) (q_M_gain) (Nat.le_of_ble_eq_true rfl) (fun r_24 D_24 q_24 => ?_)
        obtain ⟨rfl, hq⟩ := q_24
        subst hq
        refine b_if_eq rfl (fun c_27 => ?_) (fun c_27 => ?_)
        · refine b_iconst rfl ?_
          refine b_istore rfl (Nat.le_of_ble_eq_true rfl) ?_
          refine b_iconst rfl ?_
          refine b_istore rfl (Nat.le_of_ble_eq_true rfl) ?_
          refine b_iconst rfl ?_
          refine b_istore rfl (Nat.le_of_ble_eq_true rfl) ?_
          refine b_iconst rfl ?_
          refine b_istore rfl (Nat.le_of_ble_eq_true rfl) ?_
          exact b_lp fin (le_e (le_e (le_e (le_e (le_e (le_e (le_e (le_e (le_e (le_n (le_n (le_n le_0)))))))))))) rfl rfl
        · refine b_iload rfl rfl ?_
          refine b_iconst rfl ?_
          refine b_icmp_lt rfl (fun c_33 => ?_) (fun c_33 => ?_)
          · refine b_iconst rfl ?_
            refine b_istore rfl (Nat.le_of_ble_eq_true rfl) ?_
            refine b_iconst rfl ?_
            refine b_istore rfl (Nat.le_of_ble_eq_true rfl) ?_
            refine b_iconst rfl ?_
            refine b_istore rfl (Nat.le_of_ble_eq_true rfl) ?_
            refine b_iconst rfl ?_
            refine b_istore rfl (Nat.le_of_ble_eq_true rfl) ?_
            exact b_lp fin (le_e (le_e (le_e (le_e (le_e (le_e (le_e (le_e (le_e (le_n (le_n (le_n le_0)))))))))))) rfl rfl
          · exact (hok ⟨if01_n c_7, if01_n c_17, if01_n c_27, Int32.not_lt.mp c_33⟩).elim
end HNmrests
