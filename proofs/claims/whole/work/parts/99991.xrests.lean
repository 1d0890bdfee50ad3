/-! rests of the class, which throws -/
section HNxrests
variable {I : Nat → Nat → Int32} {J : Nat → Nat → Int64} {R : Nat → Nat → Option Nat}
theorem r_callS {d d1 kc ks : Nat} {M M1 : hnM} {P : Option Value → Nat → hnD → Prop} {P1 : Option Value → hnD → Prop} {pc : Nat} {ls st : List Value} {n : Nat} {D : hnD} {nx tg c k x : Nat} {v : Value} {as : List Value}
    (hr : hn_lk (hn_rows M) pc = some (.invokestatic x, 3, nx, tg, v, c, k)) (hy : hn_yl[c]? = some (hn_y M1)) (hok1 : hn_ok M1 = true) (hkd : hn_kd M1 = 0) (hav : (st.take k).reverse = as) (hna : as.length = hn_na M1) (hst : ((st.drop k).map fun v => v.category).sum ≤ 8)
    (hE : hn_F d1 M1 as D P1) (hdd : d1 < d) (hn : 212 ≤ n) (h : ∀ r D', P1 r D' → hn_R false d kc ks M P nx ls (r.toList ++ st.drop k) n D') : hn_R false d kc ks M P pc ls st n D :=
  hn_callS hr hy hok1 hkd hav hna hst (hE false n hn) hdd (Nat.zero_add _) (Nat.zero_add _) (fun _ _ _ _ q => nomatch q) (fun r n' D' q => by obtain ⟨q1, q2⟩ := q; subst q1; exact h r D' q2)
/-- its end -/
def x_P (n : Nat) (D : hnD) (u v w q : Int32) : Option Value → Nat → hnD → Prop := fun r n' D' => n' = n ∧ D' = D ∧ ((r = some .null ∧ v_thr u v w q) ∨ (r = some (.int (v_rests u v w q)) ∧ ¬ v_thr u v w q))
theorem x_thr (pc : Nat) (r : hnR) (h : hn_lk (hn_rows hm_X_rests) pc = some r) (hs : hn_st r = true) : (hn_y hm_X_rests).cls = "HammockNet" ∧ ∃ (k : Nat) (tx : String), ((k = 350 ∧ tx = "no such lull") ∨ (k = 359 ∧ tx = "no such rest")) ∧ decode (hn_b hm_X_rests) pc = .ok (.new 348, 3) ∧ decode (hn_b hm_X_rests) (pc + 3) = .ok (.dup, 1) ∧ decode (hn_b hm_X_rests) (pc + 4) = .ok (.ldc_w k, 3) ∧ decode (hn_b hm_X_rests) (pc + 7) = .ok (.invokespecial 352, 3) ∧ decode (hn_b hm_X_rests) (pc + 10) = .ok (.athrow, 1) := by
  have h1 : (hn_rows hm_X_rests).all (fun q => !hn_st q.2 || (q.1 == 27 || q.1 == 89)) = true := by decide +kernel
  have h2 := List.all_eq_true.mp h1 _ (hn_lk_mem h)
  simp only [hs, Bool.not_true, Bool.false_or, Bool.or_eq_true, beq_iff_eq] at h2
  rcases h2 with rfl | rfl
  · exact ⟨rfl, 350, "no such lull", Or.inl ⟨rfl, rfl⟩, by decide +kernel, by decide +kernel, by decide +kernel, by decide +kernel, by decide +kernel⟩
  · exact ⟨rfl, 359, "no such rest", Or.inr ⟨rfl, rfl⟩, by decide +kernel, by decide +kernel, by decide +kernel, by decide +kernel, by decide +kernel⟩
/-- its loop, from the knot k on -/
theorem x_lp {n : Nat} {u v w q : Int32} (hn : 212 ≤ n) (hok : rs_ok u v w q) : ∀ j k : Nat, j + k = 4 → (rs_f u v w q k = -1) → hn_R false 6 1 6 hm_X_rests (x_P n (I, J, R) u v w q) 44 [.ref 0, .int u, .int v, .int w, .int q, .int (nI (rs_c u v w k)), .int (nI k)] [] n (I, J, R)
  | 0, k, hj, hf => by
    have hk : k = 4 := by omega
    subst hk
    refine hn_iload rfl rfl ?_
    refine hn_iconst rfl ?_
    refine hn_icmp_ge rfl (fun c_47 => ?_) (fun c_47 => ?_)
    · refine hn_iload rfl rfl ?_
      refine hn_iconst rfl ?_
      refine hn_icmp_eq rfl (fun c_86 => ?_) (fun c_86 => ?_)
      · refine hn_iload rfl rfl ?_
        have e1 : v_rests u v w q = nI (rs_c u v w 4) := if_pos c_86
        exact hn_ireturn (st := []) rfl trivial ⟨rfl, rfl, Or.inr ⟨by rw [e1], fun z => z ⟨hok, Or.inl c_86⟩⟩⟩
      · exact hn_throw rfl rfl (by omega) (by omega) ⟨rfl, rfl, Or.inl ⟨rfl, fun z => z.2.elim c_86 (fun y => y hf)⟩⟩
    · exact absurd (show (4 : Int32) ≤ nI 4 by decide) c_47
  | j + 1, k, hj, hf => by
    have hk : k < 4 := by omega
    have ih := x_lp hn hok j (k + 1) (by omega)
    refine hn_iload rfl rfl ?_
    refine hn_iconst rfl ?_
    refine hn_icmp_ge rfl (fun c_47 => ?_) (fun c_47 => ?_)
    · exfalso
      rcases (show k = 0 ∨ k = 1 ∨ k = 2 ∨ k = 3 by omega) with rfl | rfl | rfl | rfl <;> exact absurd c_47 (by decide)
    · refine hn_iload rfl rfl ?_
      refine hn_iload_n rfl rfl ?_
      refine hn_iload_n rfl rfl ?_
      refine hn_iload_n rfl rfl ?_
      refine r_callS rfl rfl hk_X_isRest rfl rfl rfl (Nat.le_of_ble_eq_true rfl) (q_X_isRest hk) (Nat.le_of_ble_eq_true rfl) hn (fun r_55 D_55 q_55 => ?_)
      obtain ⟨rfl, rfl⟩ := q_55
      by_cases hr : sp_rs k u v w
      · have ec : nI (rs_c u v w (k + 1)) = nI (rs_c u v w k) + 1 := by rw [show rs_c u v w (k + 1) = rs_c u v w k + 1 by show rs_c u v w k + _ = _; rw [if_pos hr], nI_succ]
        refine hn_if_ne rfl (fun c_58 => ?_) (fun c_58 => ?_)
        · refine hn_iload rfl rfl ?_
          refine hn_iload rfl rfl ?_
          refine hn_icmp_ne rfl (fun c_68 => ?_) (fun c_68 => ?_)
          · refine hn_iinc (v := .null) rfl rfl (Nat.le_of_ble_eq_true rfl) ?_
            refine hn_iinc (v := .null) rfl rfl (Nat.le_of_ble_eq_true rfl) ?_
            refine hn_goto rfl ?_
            have ef : rs_f u v w q (k + 1) = -1 := by
              have e : rs_f u v w q (k + 1) = rs_f u v w q k := if_neg (fun z => c_68 z.2)
              rw [e]; exact hf
            refine hn_eq ?_ rfl rfl (ih ef)
            show [Value.ref 0, .int u, .int v, .int w, .int q, .int (nI (rs_c u v w k) + 1), .int (nI k + 1)] = _
            rw [ec, nI_succ k]
          · refine hn_iload rfl rfl ?_
            have e4 : rs_f u v w q 4 = nI k := by
              have := rs_f_stay ⟨hr, c_68⟩ (3 - k) (by omega)
              rwa [show k + 1 + (3 - k) = 4 by omega] at this
            have hk1 : ¬ nI k = (-1 : Int32) := by rcases (show k = 0 ∨ k = 1 ∨ k = 2 ∨ k = 3 by omega) with rfl | rfl | rfl | rfl <;> decide
            have hq1 : ¬ q = -1 := by
              intro e
              rw [e] at c_68
              have := rs_c_le (u := u) (v := v) (w := w) k
              rcases (show rs_c u v w k = 0 ∨ rs_c u v w k = 1 ∨ rs_c u v w k = 2 ∨ rs_c u v w k = 3 by omega) with h | h | h | h <;> (rw [h] at c_68; exact absurd c_68 (by decide))
            have e1 : v_rests u v w q = nI k := (if_neg hq1).trans e4
            exact hn_ireturn (st := []) rfl trivial ⟨rfl, rfl, Or.inr ⟨by rw [e1], fun z => z ⟨hok, Or.inr (by rw [e4]; exact hk1)⟩⟩⟩
        · rw [if_pos hr] at c_58
          exact absurd c_58 (by decide)
      · have ec : rs_c u v w (k + 1) = rs_c u v w k := by show rs_c u v w k + _ = _; rw [if_neg hr]; rfl
        refine hn_if_ne rfl (fun c_58 => ?_) (fun c_58 => ?_)
        · rw [if_neg hr] at c_58
          exact absurd rfl c_58
        · refine hn_goto rfl ?_
          refine hn_iinc (v := .null) rfl rfl (Nat.le_of_ble_eq_true rfl) ?_
          refine hn_goto rfl ?_
          have ef : rs_f u v w q (k + 1) = -1 := by
            have e : rs_f u v w q (k + 1) = rs_f u v w q k := if_neg (fun z => hr z.1)
            rw [e]; exact hf
          refine hn_eq ?_ rfl rfl (ih ef)
          show [Value.ref 0, .int u, .int v, .int w, .int q, .int (nI (rs_c u v w k)), .int (nI k + 1)] = _
          rw [ec, nI_succ k]
theorem q_X_rests {n : Nat} {u v w q : Int32} (hn : 212 ≤ n) : hn_EX 6 1 6 hm_X_rests [.ref 0, .int u, .int v, .int w, .int q] n (I, J, R) (x_P n (I, J, R) u v w q) := by
  refine hn_EX_of _ hk_X_rests rfl rfl (by omega) x_thr rfl (Nat.le_of_ble_eq_true rfl) ?_
  have thr : ¬ rs_ok u v w q → hn_R false 6 1 6 hm_X_rests (x_P n (I, J, R) u v w q) 27 [.ref 0, .int u, .int v, .int w, .int q, .null, .null] [] n (I, J, R) := fun h => hn_throw rfl rfl (by omega) (by omega) ⟨rfl, rfl, Or.inl ⟨rfl, fun z => h z.1⟩⟩
  refine hn_iload_n rfl rfl ?_
  refine r_callS rfl rfl hk_X_isGain rfl rfl rfl (Nat.le_of_ble_eq_true rfl) (q_X_isGain) (Nat.le_of_ble_eq_true rfl) hn (fun r_1 D_1 q_1 => ?_)
  obtain ⟨rfl, rfl⟩ := q_1
  refine hn_if_eq rfl (fun c_4 => ?_) (fun c_4 => ?_)
  · by_cases h9 : sp_9 u
    · rw [if_pos h9] at c_4; exact absurd c_4 (by decide)
    · exact thr (fun z => h9 z.1)
  by_cases h1 : sp_9 u
  case neg => rw [if_neg h1] at c_4; exact absurd rfl c_4
  refine hn_iload_n rfl rfl ?_
  refine r_callS rfl rfl hk_X_isGain rfl rfl rfl (Nat.le_of_ble_eq_true rfl) (q_X_isGain) (Nat.le_of_ble_eq_true rfl) hn (fun r_8 D_8 q_8 => ?_)
  obtain ⟨rfl, rfl⟩ := q_8
  refine hn_if_eq rfl (fun c_11 => ?_) (fun c_11 => ?_)
  · by_cases h9 : sp_9 v
    · rw [if_pos h9] at c_11; exact absurd c_11 (by decide)
    · exact thr (fun z => h9 z.2.1)
  by_cases h2 : sp_9 v
  case neg => rw [if_neg h2] at c_11; exact absurd rfl c_11
  refine hn_iload_n rfl rfl ?_
  refine r_callS rfl rfl hk_X_isGain rfl rfl rfl (Nat.le_of_ble_eq_true rfl) (q_X_isGain) (Nat.le_of_ble_eq_true rfl) hn (fun r_15 D_15 q_15 => ?_)
  obtain ⟨rfl, rfl⟩ := q_15
  refine hn_if_eq rfl (fun c_18 => ?_) (fun c_18 => ?_)
  · by_cases h9 : sp_9 w
    · rw [if_pos h9] at c_18; exact absurd c_18 (by decide)
    · exact thr (fun z => h9 z.2.2.1)
  by_cases h3 : sp_9 w
  case neg => rw [if_neg h3] at c_18; exact absurd rfl c_18
  refine hn_iload rfl rfl ?_
  refine hn_iconst rfl ?_
  refine hn_icmp_ge rfl (fun c_24 => ?_) (fun c_24 => ?_)
  · refine hn_iconst rfl ?_
    refine hn_istore rfl (Nat.le_of_ble_eq_true rfl) ?_
    refine hn_iconst rfl ?_
    refine hn_istore rfl (Nat.le_of_ble_eq_true rfl) ?_
    exact x_lp hn ⟨h1, h2, h3, c_24⟩ 4 0 rfl rfl
  · exact thr (fun z => c_24 z.2.2.2)
end HNxrests
