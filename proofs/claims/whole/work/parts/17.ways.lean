section HNways
variable {I : Nat → Nat → Int32} {J : Nat → Nat → Int64} {R : Nat → Nat → Option Nat}
/-- the union of what stands at the knots of a set -/
def sp_union (s : Nat → Int32) (m : Int32) (n : Nat) : Int32 := sp_up (fun k u => if sp_bit m k then u ||| s k else u) 0 n
def sp_reach (s : Nat → Int32) (k : Nat) : Int32 := sp_up (fun _ r => r ||| sp_union s r 8) (s k) 8
def sp_cnt (s : Nat → Int32) : Int32 := sp_up (fun k n => n + sp_pop (s k)) 0 8
def sp_farl (s : Nat → Int32) (o : Nat) : Nat → Nat → Int32 → Int32
  | 0, _, _ => -1
  | m + 1, f, r => if sp_bit r o then nI f else sp_farl s o m (f + 1) (r ||| sp_union s r 8)
/-- in how many ways, by so many strings -/
def sp_wto (s w : Nat → Int32) (j n : Nat) : Int32 := sp_up (fun i a => if sp_bit (s i) j then a + w i else a) 0 n
def sp_wk (s : Nat → Int32) (k : Nat) : Nat → Nat → Int32
  | 0 => fun j => if j = k then 1 else 0
  | n + 1 => fun j => sp_wto s (sp_wk s k n) j 8
/-- sets of at most eight knots -/
abbrev hs_b8 (s : Nat → Int32) : Prop := ∀ k, k < 8 → ∃ i : Fin 256, s k = nI i
theorem bc_b8 {x : Int32} (h : ∃ i : Fin 256, x = nI i) : bc_f x = sp_pop x := by
  obtain ⟨i, rfl⟩ := h
  exact bc_small i
theorem nI_8 : nI 8 = 8 := by decide
theorem q_Ways_unionOf {q : Nat} {m : Int32} (hq : hn_kind q = (1, 8)) : hn_F 0 hm_Ways_unionOf [.ref q, .int m] (I, J, R) (fun r D' => D' = (I, J, R) ∧ r = some (.int (sp_union (I q) m 8))) := by
  refine hn_F_of _ hk_Ways_unionOf rfl (Nat.le_of_ble_eq_true rfl) ?_
  refine b_iconst rfl ?_
  refine b_istore_n rfl (Nat.le_of_ble_eq_true rfl) ?_
  refine b_iconst rfl ?_
  refine b_istore_n rfl (Nat.le_of_ble_eq_true rfl) ?_
  refine b_eq (sp_ind 8 (fun k => hn_B 0 hm_Ways_unionOf _ 4 [.ref q, .int m, .int (sp_union (I q) m k), .int (nI k)] [] (I, J, R)) ?_ ?_) (by rw [nI_0]; rfl) rfl rfl
  · refine b_iload_n rfl rfl ?_
    refine b_bipush rfl ?_
    refine b_icmp_ge rfl (fun c_7 => ?_) (fun c_7 => ?_)
    · refine b_iload_n rfl rfl ?_
      exact b_ireturn rfl trivial (⟨rfl, rfl⟩)
    · exact absurd (by rw [← nI_8]; exact nI_le (Nat.le_refl _) (by omega)) c_7
  · intro p hp ih
    refine b_iload_n rfl rfl ?_
    refine b_bipush rfl ?_
    refine b_icmp_ge rfl (fun c_7 => ?_) (fun c_7 => ?_)
    · exact absurd (by rw [nI_8]; exact c_7) (nI_ge hp (by omega))
    · refine b_iload_n rfl rfl ?_
      refine b_iload_n rfl rfl ?_
      refine b_ishr rfl ?_
      refine b_iconst rfl ?_
      refine b_iand rfl ?_
      refine b_if_eq rfl (fun c_15 => ?_) (fun c_15 => ?_)
      · refine b_iinc rfl rfl (Nat.le_of_ble_eq_true rfl) ?_
        refine b_goto rfl ?_
        exact b_eq ih (by simp only [nI_succ, sp_union, sp_up, sp_bit, c_15, if_true, if_false, not_true_eq_false, not_false_eq_true]; rfl) rfl rfl
      · refine b_iload_n rfl rfl ?_
        refine b_aload_n rfl rfl ?_
        refine b_iload_n rfl rfl ?_
        refine b_iaload rfl (by first | rfl | assumption) (by first | assumption | exact nI_toInt (by omega) | exact hi_l0 | exact hi_l1 | exact hi_l2 | exact hi_l3 | exact hi_l4 | exact hi_l5 | exact hi_l6) (by omega) ?_
        refine b_ior rfl ?_
        refine b_istore_n rfl (Nat.le_of_ble_eq_true rfl) ?_
        refine b_iinc rfl rfl (Nat.le_of_ble_eq_true rfl) ?_
        refine b_goto rfl ?_
        exact b_eq ih (by simp only [nI_succ, sp_union, sp_up, sp_bit, c_15, if_true, if_false, not_true_eq_false, not_false_eq_true]; rfl) rfl rfl
theorem q_Ways_countAll {q : Nat} (hq : hn_kind q = (1, 8)) (h8 : hs_b8 (I q)) : hn_F 1 hm_Ways_countAll [.ref q] (I, J, R) (fun r D' => D' = (I, J, R) ∧ r = some (.int (sp_cnt (I q)))) := by
  refine hn_F_of _ hk_Ways_countAll rfl (Nat.le_of_ble_eq_true rfl) ?_
  refine b_iconst rfl ?_
  refine b_istore_n rfl (Nat.le_of_ble_eq_true rfl) ?_
  refine b_iconst rfl ?_
  refine b_istore_n rfl (Nat.le_of_ble_eq_true rfl) ?_
  refine b_eq (sp_ind 8 (fun k => hn_B 1 hm_Ways_countAll _ 4 [.ref q, .int (sp_up (fun k n => n + sp_pop (I q k)) 0 k), .int (nI k)] [] (I, J, R)) ?_ ?_) (by rw [nI_0]; rfl) rfl rfl
  · refine b_iload_n rfl rfl ?_
    refine b_bipush rfl ?_
    refine b_icmp_ge rfl (fun c_7 => ?_) (fun c_7 => ?_)
    · refine b_iload_n rfl rfl ?_
      exact b_ireturn rfl trivial (⟨rfl, rfl⟩)
    · exact absurd (by rw [← nI_8]; exact nI_le (Nat.le_refl _) (by omega)) c_7
  · intro p hp ih
    have hb := bc_b8 (h8 p hp)
    refine b_iload_n rfl rfl ?_
    refine b_bipush rfl ?_
    refine b_icmp_ge rfl (fun c_7 => ?_) (fun c_7 => ?_)
    · exact absurd (by rw [nI_8]; exact c_7) (nI_ge hp (by omega))
    · refine b_iload_n rfl rfl ?_
      refine b_aload_n rfl rfl ?_
      refine b_iload_n rfl rfl ?_
      refine b_iaload rfl (by first | rfl | assumption) (by first | assumption | exact nI_toInt (by omega) | exact hi_l0 | exact hi_l1 | exact hi_l2 | exact hi_l3 | exact hi_l4 | exact hi_l5 | exact hi_l6) (by omega) ?_
      refine b_callS rfl rfl hk_JI_bitCount rfl rfl rfl (Nat.le_of_ble_eq_true rfl) (q_bitCount) (Nat.le_of_ble_eq_true rfl) (fun r_14 D_14 q_14 => ?_)
      obtain ⟨rfl, hq5⟩ := q_14
      rw [hb] at hq5
      subst hq5
      refine b_iadd rfl ?_
      refine b_istore_n rfl (Nat.le_of_ble_eq_true rfl) ?_
      refine b_iinc rfl rfl (Nat.le_of_ble_eq_true rfl) ?_
      refine b_goto rfl ?_
      exact b_eq ih (by simp only [nI_succ, sp_up]; rfl) rfl rfl
theorem q_Ways_reachOf {q k : Nat} (hq : hn_kind q = (1, 8)) (hk : k < 8) : hn_F 1 hm_Ways_reachOf [.ref q, .int (nI k)] (I, J, R) (fun r D' => D' = (I, J, R) ∧ r = some (.int (sp_reach (I q) k))) := by
  refine hn_F_of _ hk_Ways_reachOf rfl (Nat.le_of_ble_eq_true rfl) ?_
  refine b_aload_n rfl rfl ?_
  refine b_iload_n rfl rfl ?_
  refine b_iaload rfl (by first | rfl | assumption) (by first | assumption | exact nI_toInt (by omega) | exact hi_l0 | exact hi_l1 | exact hi_l2 | exact hi_l3 | exact hi_l4 | exact hi_l5 | exact hi_l6) (by omega) ?_
  refine b_istore_n rfl (Nat.le_of_ble_eq_true rfl) ?_
  refine b_iconst rfl ?_
  refine b_istore_n rfl (Nat.le_of_ble_eq_true rfl) ?_
  refine b_eq (sp_ind 8 (fun i => hn_B 1 hm_Ways_reachOf _ 6 [.ref q, .int (nI k), .int (sp_up (fun _ r => r ||| sp_union (I q) r 8) (I q k) i), .int (nI i)] [] (I, J, R)) ?_ ?_) (by rw [nI_0]; rfl) rfl rfl
  · refine b_iload_n rfl rfl ?_
    refine b_bipush rfl ?_
    refine b_icmp_ge rfl (fun c_9 => ?_) (fun c_9 => ?_)
    · refine b_iload_n rfl rfl ?_
      exact b_ireturn rfl trivial (⟨rfl, rfl⟩)
    · exact absurd (by rw [← nI_8]; exact nI_le (Nat.le_refl _) (by omega)) c_9
  · intro p hp ih
    refine b_iload_n rfl rfl ?_
    refine b_bipush rfl ?_
    refine b_icmp_ge rfl (fun c_9 => ?_) (fun c_9 => ?_)
    · exact absurd (by rw [nI_8]; exact c_9) (nI_ge hp (by omega))
    · refine b_iload_n rfl rfl ?_
      refine b_aload_n rfl rfl ?_
      refine b_iload_n rfl rfl ?_
      refine b_callS rfl rfl hk_Ways_unionOf rfl rfl rfl (Nat.le_of_ble_eq_true rfl) (q_Ways_unionOf hq) (Nat.le_of_ble_eq_true rfl) (fun r_15 D_15 q_15 => ?_)
      obtain ⟨rfl, rfl⟩ := q_15
      refine b_ior rfl ?_
      refine b_istore_n rfl (Nat.le_of_ble_eq_true rfl) ?_
      refine b_iinc rfl rfl (Nat.le_of_ble_eq_true rfl) ?_
      refine b_goto rfl ?_
      exact b_eq ih (by simp only [nI_succ, sp_up]; rfl) rfl rfl
theorem q_Ways_stringsBetween {q k o : Nat} (hq : hn_kind q = (1, 8)) : hn_F 1 hm_Ways_stringsBetween [.ref q, .int (nI k), .int (nI o)] (I, J, R) (fun r D' => D' = (I, J, R) ∧ r = some (.int (sp_farl (I q) o 8 0 ((1 : Int32) <<< (nI k &&& 31))))) := by
  refine hn_F_of _ hk_Ways_stringsBetween rfl (Nat.le_of_ble_eq_true rfl) ?_
  obtain ⟨P, hPd⟩ : ∃ P : Option Value → hnD → Prop, P = (fun r D' => D' = (I, J, R) ∧ r = some (.int (sp_farl (I q) o 8 0 ((1 : Int32) <<< (nI k &&& 31))))) := ⟨_, rfl⟩
  rw [← hPd]
  have loop : ∀ r : Int32, sp_farl (I q) o (8 - 0) 0 r = sp_farl (I q) o 8 0 ((1 : Int32) <<< (nI k &&& 31)) → hn_B 1 hm_Ways_stringsBetween P 7 [.ref q, .int (nI k), .int (nI o), .int r, .int (nI 0)] [] (I, J, R) := by
    refine sp_ind 8 (fun f => ∀ r : Int32, sp_farl (I q) o (8 - f) f r = sp_farl (I q) o 8 0 ((1 : Int32) <<< (nI k &&& 31)) → hn_B 1 hm_Ways_stringsBetween P 7 [.ref q, .int (nI k), .int (nI o), .int r, .int (nI f)] [] (I, J, R)) ?_ ?_
    · intro r hr
      have fin : P (some (.int (-1))) (I, J, R) := by rw [hPd]; exact ⟨rfl, by rw [← hr]; rfl⟩
      refine b_iload rfl rfl ?_
      refine b_bipush rfl ?_
      refine b_icmp_ge rfl (fun c_11 => ?_) (fun c_11 => ?_)
      · refine b_iconst rfl ?_
        exact b_ireturn rfl trivial (fin)
      · exact absurd (by rw [← nI_8]; exact nI_le (Nat.le_refl _) (by omega)) c_11
    · intro f hf ih r hr
      rw [show 8 - f = (8 - (f + 1)) + 1 by omega, sp_farl] at hr
      by_cases hb : sp_bit r o
      · rw [if_pos hb] at hr
        have fin : P (some (.int (nI f))) (I, J, R) := by rw [hPd]; exact ⟨rfl, by rw [← hr]⟩
        refine b_iload rfl rfl ?_
        refine b_bipush rfl ?_
        refine b_icmp_ge rfl (fun c_11 => ?_) (fun c_11 => ?_)
        · exact absurd (by rw [nI_8]; exact c_11) (nI_ge hf (by omega))
        · refine b_iload_n rfl rfl ?_
          refine b_iload_n rfl rfl ?_
          refine b_ishr rfl ?_
          refine b_iconst rfl ?_
          refine b_iand rfl ?_
          refine b_if_eq rfl (fun c_19 => ?_) (fun c_19 => ?_)
          · exact absurd c_19 hb
          · refine b_iload rfl rfl ?_
            exact b_ireturn rfl trivial (fin)
      · rw [if_neg hb] at hr
        have ih := ih _ hr
        refine b_iload rfl rfl ?_
        refine b_bipush rfl ?_
        refine b_icmp_ge rfl (fun c_11 => ?_) (fun c_11 => ?_)
        · exact absurd (by rw [nI_8]; exact c_11) (nI_ge hf (by omega))
        · refine b_iload_n rfl rfl ?_
          refine b_iload_n rfl rfl ?_
          refine b_ishr rfl ?_
          refine b_iconst rfl ?_
          refine b_iand rfl ?_
          refine b_if_eq rfl (fun c_19 => ?_) (fun c_19 => ?_)
          · refine b_iload_n rfl rfl ?_
            refine b_aload_n rfl rfl ?_
            refine b_iload_n rfl rfl ?_
            refine b_callS rfl rfl hk_Ways_unionOf rfl rfl rfl (Nat.le_of_ble_eq_true rfl) (q_Ways_unionOf hq) (Nat.le_of_ble_eq_true rfl) (fun r_28 D_28 q_28 => ?_)
            obtain ⟨rfl, rfl⟩ := q_28
            refine b_ior rfl ?_
            refine b_istore_n rfl (Nat.le_of_ble_eq_true rfl) ?_
            refine b_iinc rfl rfl (Nat.le_of_ble_eq_true rfl) ?_
            refine b_goto rfl ?_
            exact b_eq ih (by rw [nI_succ]; rfl) rfl rfl
          · exact absurd c_19 hb
  refine b_iconst rfl ?_
  refine b_iload_n rfl rfl ?_
  refine b_ishl rfl ?_
  refine b_istore_n rfl (Nat.le_of_ble_eq_true rfl) ?_
  refine b_iconst rfl ?_
  refine b_istore rfl (Nat.le_of_ble_eq_true rfl) ?_
  exact b_eq (loop _ rfl) (by rw [nI_0]; rfl) rfl rfl
/-- the cells of Ways -/
def hs_Ways (R : Nat → Nat → Option Nat) : Prop := R 178 0 = some 179 ∧ R 178 1 = some 180 ∧ R 178 2 = some 181 ∧ R 178 3 = some 182
theorem q_Ways_walksTo {q j : Nat} (hq : hn_kind q = (1, 8)) (hw : hs_Ways R) : hn_F 0 hm_Ways_walksTo [.ref 178, .ref q, .int (nI j)] (I, J, R) (fun r D' => D' = (I, J, R) ∧ r = some (.int (sp_wto (I q) (I 181) j 8))) := by
  obtain ⟨r0, r1, r2, r3⟩ := hw
  refine hn_F_of _ hk_Ways_walksTo rfl (Nat.le_of_ble_eq_true rfl) ?_
  refine b_iconst rfl ?_
  refine b_istore_n rfl (Nat.le_of_ble_eq_true rfl) ?_
  refine b_iconst rfl ?_
  refine b_istore rfl (Nat.le_of_ble_eq_true rfl) ?_
  refine b_eq (sp_ind 8 (fun i => hn_B 0 hm_Ways_walksTo _ 5 [.ref 178, .ref q, .int (nI j), .int (sp_wto (I q) (I 181) j i), .int (nI i)] [] (I, J, R)) ?_ ?_) (by rw [nI_0]; rfl) rfl rfl
  · refine b_iload rfl rfl ?_
    refine b_bipush rfl ?_
    refine b_icmp_ge rfl (fun c_9 => ?_) (fun c_9 => ?_)
    · refine b_iload_n rfl rfl ?_
      exact b_ireturn rfl trivial (⟨rfl, rfl⟩)
    · exact absurd (by rw [← nI_8]; exact nI_le (Nat.le_refl _) (by omega)) c_9
  · intro p hp ih
    refine b_iload rfl rfl ?_
    refine b_bipush rfl ?_
    refine b_icmp_ge rfl (fun c_9 => ?_) (fun c_9 => ?_)
    · exact absurd (by rw [nI_8]; exact c_9) (nI_ge hp (by omega))
    · refine b_aload_n rfl rfl ?_
      refine b_iload rfl rfl ?_
      refine b_iaload rfl (by first | rfl | assumption) (by first | assumption | exact nI_toInt (by omega) | exact hi_l0 | exact hi_l1 | exact hi_l2 | exact hi_l3 | exact hi_l4 | exact hi_l5 | exact hi_l6) (by omega) ?_
      refine b_iload_n rfl rfl ?_
      refine b_ishr rfl ?_
      refine b_iconst rfl ?_
      refine b_iand rfl ?_
      refine b_if_eq rfl (fun c_20 => ?_) (fun c_20 => ?_)
      · refine b_iinc rfl rfl (Nat.le_of_ble_eq_true rfl) ?_
        refine b_goto rfl ?_
        exact b_eq ih (by simp only [nI_succ, sp_wto, sp_up, sp_bit, c_20, if_true, if_false, not_true_eq_false, not_false_eq_true]; rfl) rfl rfl
      · refine b_iload_n rfl rfl ?_
        refine b_aload_n rfl rfl ?_
        refine b_getR rfl (by first | rfl | assumption) rfl (by assumption) ?_
        refine b_iload rfl rfl ?_
        refine b_iaload rfl (by first | rfl | assumption) (by first | assumption | exact nI_toInt (by omega) | exact hi_l0 | exact hi_l1 | exact hi_l2 | exact hi_l3 | exact hi_l4 | exact hi_l5 | exact hi_l6) (by omega) ?_
        refine b_iadd rfl ?_
        refine b_istore_n rfl (Nat.le_of_ble_eq_true rfl) ?_
        refine b_iinc rfl rfl (Nat.le_of_ble_eq_true rfl) ?_
        refine b_goto rfl ?_
        exact b_eq ih (by simp only [nI_succ, sp_wto, sp_up, sp_bit, c_20, if_true, if_false, not_true_eq_false, not_false_eq_true]; rfl) rfl rfl
theorem q_Ways_knotsWith {o : Int32} (hw : hs_Ways R) : hn_F 0 hm_Ways_knotsWith [.ref 178, .int o] (I, J, R) (fun r D' => D' = (I, J, R) ∧ r = some (.int (sp_up (fun k s => if I 179 k = o then s ||| ((1 : Int32) <<< (nI k &&& 31)) else s) 0 8))) := by
  obtain ⟨r0, r1, r2, r3⟩ := hw
  refine hn_F_of _ hk_Ways_knotsWith rfl (Nat.le_of_ble_eq_true rfl) ?_
  refine b_iconst rfl ?_
  refine b_istore_n rfl (Nat.le_of_ble_eq_true rfl) ?_
  refine b_iconst rfl ?_
  refine b_istore_n rfl (Nat.le_of_ble_eq_true rfl) ?_
  refine b_eq (sp_ind 8 (fun i => hn_B 0 hm_Ways_knotsWith _ 4 [.ref 178, .int o, .int (sp_up (fun k s => if I 179 k = o then s ||| ((1 : Int32) <<< (nI k &&& 31)) else s) 0 i), .int (nI i)] [] (I, J, R)) ?_ ?_) (by rw [nI_0]; rfl) rfl rfl
  · refine b_iload_n rfl rfl ?_
    refine b_bipush rfl ?_
    refine b_icmp_ge rfl (fun c_7 => ?_) (fun c_7 => ?_)
    · refine b_iload_n rfl rfl ?_
      exact b_ireturn rfl trivial (⟨rfl, rfl⟩)
    · exact absurd (by rw [← nI_8]; exact nI_le (Nat.le_refl _) (by omega)) c_7
  · intro p hp ih
    refine b_iload_n rfl rfl ?_
    refine b_bipush rfl ?_
    refine b_icmp_ge rfl (fun c_7 => ?_) (fun c_7 => ?_)
    · exact absurd (by rw [nI_8]; exact c_7) (nI_ge hp (by omega))
    · refine b_aload_n rfl rfl ?_
      refine b_getR rfl (by first | rfl | assumption) rfl (by assumption) ?_
      refine b_iload_n rfl rfl ?_
      refine b_iaload rfl (by first | rfl | assumption) (by first | assumption | exact nI_toInt (by omega) | exact hi_l0 | exact hi_l1 | exact hi_l2 | exact hi_l3 | exact hi_l4 | exact hi_l5 | exact hi_l6) (by omega) ?_
      refine b_iload_n rfl rfl ?_
      refine b_icmp_ne rfl (fun c_17 => ?_) (fun c_17 => ?_)
      · refine b_iinc rfl rfl (Nat.le_of_ble_eq_true rfl) ?_
        refine b_goto rfl ?_
        exact b_eq ih (by simp only [nI_succ, sp_up, c_17, if_true, if_false]; rfl) rfl rfl
      · refine b_iload_n rfl rfl ?_
        refine b_iconst rfl ?_
        refine b_iload_n rfl rfl ?_
        refine b_ishl rfl ?_
        refine b_ior rfl ?_
        refine b_istore_n rfl (Nat.le_of_ble_eq_true rfl) ?_
        refine b_iinc rfl rfl (Nat.le_of_ble_eq_true rfl) ?_
        refine b_goto rfl ?_
        exact b_eq ih (by simp only [nI_succ, sp_up, c_17, if_true, if_false]; rfl) rfl rfl
/-! reasons -/
def sp_opp (ag : Nat → Int32) (m : Int32) (n : Nat) : Int32 := sp_up (fun k f => if ag k &&& m = 0 then f else f ||| ((1 : Int32) <<< (nI k &&& 31))) 0 n
abbrev sp_stand (ag : Nat → Int32) (n : Nat) (m : Int32) : Prop := sp_union ag m 8 &&& m = 0 ∧ sp_opp ag m n &&& (sp_union ag m 8 ^^^ -1) = 0
def sp_dfd (ag : Nat → Int32) (n : Nat) (m : Int32) (i : Nat) : Int32 := sp_up (fun k f => if sp_opp ag ((1 : Int32) <<< (nI k &&& 31)) n &&& (sp_union ag m 8 ^^^ -1) = 0 then f ||| ((1 : Int32) <<< (nI k &&& 31)) else f) 0 i
theorem q_Reasons_answeredBy {t : Nat} {m : Int32} (ht : hs_Net R t) : hn_F 1 hm_Reasons_answeredBy [.ref t, .int m] (I, J, R) (fun r D' => D' = (I, J, R) ∧ r = some (.int (sp_union (I (t + 4)) m 8))) := by
  obtain ⟨ht5, n0, n1, n2, n3, n4, n5, n6, n7, n8, n9, n10, s1, s2, s3, s4, s5, s7, s8, l0, l2, l6, l7⟩ := ht
  refine hn_F_of _ hk_Reasons_answeredBy rfl (Nat.le_of_ble_eq_true rfl) ?_
  refine b_aload_n rfl rfl ?_
  refine b_getR rfl (by first | rfl | assumption) rfl (by assumption) ?_
  refine b_iload_n rfl rfl ?_
  refine b_callS rfl rfl hk_Ways_unionOf rfl rfl rfl (Nat.le_of_ble_eq_true rfl) (q_Ways_unionOf n4) (Nat.le_of_ble_eq_true rfl) (fun r_5 D_5 q_5 => ?_)
  obtain ⟨rfl, rfl⟩ := q_5
  exact b_ireturn rfl trivial (⟨rfl, rfl⟩)
theorem q_Reasons_opposersOf {t n : Nat} {m : Int32} (ht : hs_Net R t) (hn : I t 0 = nI n) (hn8 : n ≤ 8) : hn_F 0 hm_Reasons_opposersOf [.ref t, .int m] (I, J, R) (fun r D' => D' = (I, J, R) ∧ r = some (.int (sp_opp (I (t + 4)) m n))) := by
  obtain ⟨ht5, n0, n1, n2, n3, n4, n5, n6, n7, n8, n9, n10, s1, s2, s3, s4, s5, s7, s8, l0, l2, l6, l7⟩ := ht
  refine hn_F_of _ hk_Reasons_opposersOf rfl (Nat.le_of_ble_eq_true rfl) ?_
  refine b_iconst rfl ?_
  refine b_istore_n rfl (Nat.le_of_ble_eq_true rfl) ?_
  refine b_iconst rfl ?_
  refine b_istore_n rfl (Nat.le_of_ble_eq_true rfl) ?_
  refine b_eq (sp_ind n (fun k => hn_B 0 hm_Reasons_opposersOf _ 4 [.ref t, .int m, .int (sp_opp (I (t + 4)) m k), .int (nI k)] [] (I, J, R)) ?_ ?_) (by rw [nI_0]; rfl) rfl rfl
  · refine b_iload_n rfl rfl ?_
    refine b_aload_n rfl rfl ?_
    refine b_getI rfl (by first | rfl | assumption) rfl ?_
    refine b_icmp_ge rfl (fun c_9 => ?_) (fun c_9 => ?_)
    · refine b_iload_n rfl rfl ?_
      exact b_ireturn rfl trivial (⟨rfl, rfl⟩)
    · exact absurd (by rw [hn]; exact nI_le (Nat.le_refl _) (by omega)) c_9
  · intro p hp ih
    refine b_iload_n rfl rfl ?_
    refine b_aload_n rfl rfl ?_
    refine b_getI rfl (by first | rfl | assumption) rfl ?_
    refine b_icmp_ge rfl (fun c_9 => ?_) (fun c_9 => ?_)
    · exact absurd (by rw [← hn]; exact c_9) (nI_ge hp (by omega))
    · refine b_aload_n rfl rfl ?_
      refine b_getR rfl (by first | rfl | assumption) rfl (by assumption) ?_
      refine b_iload_n rfl rfl ?_
      refine b_iaload rfl (by first | rfl | assumption) (by first | assumption | exact nI_toInt (by omega) | exact hi_l0 | exact hi_l1 | exact hi_l2 | exact hi_l3 | exact hi_l4 | exact hi_l5 | exact hi_l6) (by omega) ?_
      refine b_iload_n rfl rfl ?_
      refine b_iand rfl ?_
      refine b_if_eq rfl (fun c_20 => ?_) (fun c_20 => ?_)
      · refine b_iinc rfl rfl (Nat.le_of_ble_eq_true rfl) ?_
        refine b_goto rfl ?_
        exact b_eq ih (by simp only [nI_succ, sp_opp, sp_up, c_20, if_true, if_false]; rfl) rfl rfl
      · refine b_iload_n rfl rfl ?_
        refine b_iconst rfl ?_
        refine b_iload_n rfl rfl ?_
        refine b_ishl rfl ?_
        refine b_ior rfl ?_
        refine b_istore_n rfl (Nat.le_of_ble_eq_true rfl) ?_
        refine b_iinc rfl rfl (Nat.le_of_ble_eq_true rfl) ?_
        refine b_goto rfl ?_
        exact b_eq ih (by simp only [nI_succ, sp_opp, sp_up, c_20, if_true, if_false]; rfl) rfl rfl
theorem q_Reasons_isStanding {t n : Nat} {m : Int32} (ht : hs_Net R t) (hn : I t 0 = nI n) (hn8 : n ≤ 8) : hn_F 2 hm_Reasons_isStanding [.ref t, .int m] (I, J, R) (fun r D' => D' = (I, J, R) ∧ r = some (.int (if sp_stand (I (t + 4)) n m then 1 else 0))) := by
  refine hn_F_of _ hk_Reasons_isStanding rfl (Nat.le_of_ble_eq_true rfl) ?_
  refine b_aload_n rfl rfl ?_
  refine b_iload_n rfl rfl ?_
  refine b_callS rfl rfl hk_Reasons_answeredBy rfl rfl rfl (Nat.le_of_ble_eq_true rfl) (q_Reasons_answeredBy ht) (Nat.le_of_ble_eq_true rfl) (fun r_2 D_2 q_2 => ?_)
  obtain ⟨rfl, rfl⟩ := q_2
  refine b_istore_n rfl (Nat.le_of_ble_eq_true rfl) ?_
  refine b_iload_n rfl rfl ?_
  refine b_iload_n rfl rfl ?_
  refine b_iand rfl ?_
  refine b_if_ne rfl (fun c_9 => ?_) (fun c_9 => ?_)
  · refine b_iconst rfl ?_
    exact b_ireturn rfl (by first | exact Or.inl rfl | exact Or.inr rfl | exact trivial) (⟨rfl, by first | rw [if_neg (fun z => c_9 z.1)] | rw [if_neg (fun z => c_21 z.2)] | rw [if_pos ⟨c_9, c_21⟩]⟩)
  · refine b_aload_n rfl rfl ?_
    refine b_iload_n rfl rfl ?_
    refine b_callS rfl rfl hk_Reasons_opposersOf rfl rfl rfl (Nat.le_of_ble_eq_true rfl) (q_Reasons_opposersOf ht hn hn8) (Nat.le_of_ble_eq_true rfl) (fun r_14 D_14 q_14 => ?_)
    obtain ⟨rfl, rfl⟩ := q_14
    refine b_iload_n rfl rfl ?_
    refine b_iconst rfl ?_
    refine b_ixor rfl ?_
    refine b_iand rfl ?_
    refine b_if_ne rfl (fun c_21 => ?_) (fun c_21 => ?_)
    · refine b_iconst rfl ?_
      exact b_ireturn rfl (by first | exact Or.inl rfl | exact Or.inr rfl | exact trivial) (⟨rfl, by first | rw [if_neg (fun z => c_9 z.1)] | rw [if_neg (fun z => c_21 z.2)] | rw [if_pos ⟨c_9, c_21⟩]⟩)
    · refine b_iconst rfl ?_
      refine b_goto rfl ?_
      exact b_ireturn rfl (by first | exact Or.inl rfl | exact Or.inr rfl | exact trivial) (⟨rfl, by first | rw [if_neg (fun z => c_9 z.1)] | rw [if_neg (fun z => c_21 z.2)] | rw [if_pos ⟨c_9, c_21⟩]⟩)
theorem q_Reasons_defendedBy {t n : Nat} {m : Int32} (ht : hs_Net R t) (hn : I t 0 = nI n) (hn8 : n ≤ 8) : hn_F 2 hm_Reasons_defendedBy [.ref t, .int m] (I, J, R) (fun r D' => D' = (I, J, R) ∧ r = some (.int (sp_dfd (I (t + 4)) n m n))) := by
  have ht0 := ht
  obtain ⟨ht5, n0, n1, n2, n3, n4, n5, n6, n7, n8, n9, n10, s1, s2, s3, s4, s5, s7, s8, l0, l2, l6, l7⟩ := ht
  refine hn_F_of _ hk_Reasons_defendedBy rfl (Nat.le_of_ble_eq_true rfl) ?_
  refine b_aload_n rfl rfl ?_
  refine b_iload_n rfl rfl ?_
  refine b_callS rfl rfl hk_Reasons_answeredBy rfl rfl rfl (Nat.le_of_ble_eq_true rfl) (q_Reasons_answeredBy ht0) (Nat.le_of_ble_eq_true rfl) (fun r_2 D_2 q_2 => ?_)
  obtain ⟨rfl, rfl⟩ := q_2
  refine b_istore_n rfl (Nat.le_of_ble_eq_true rfl) ?_
  refine b_iconst rfl ?_
  refine b_istore_n rfl (Nat.le_of_ble_eq_true rfl) ?_
  refine b_iconst rfl ?_
  refine b_istore rfl (Nat.le_of_ble_eq_true rfl) ?_
  refine b_eq (sp_ind n (fun k => hn_B 2 hm_Reasons_defendedBy _ 11 [.ref t, .int m, .int (sp_union (I (t + 4)) m 8), .int (sp_dfd (I (t + 4)) n m k), .int (nI k)] [] (I, J, R)) ?_ ?_) (by rw [nI_0]; rfl) rfl rfl
  · refine b_iload rfl rfl ?_
    refine b_aload_n rfl rfl ?_
    refine b_getI rfl (by first | rfl | assumption) rfl ?_
    refine b_icmp_ge rfl (fun c_17 => ?_) (fun c_17 => ?_)
    · refine b_iload_n rfl rfl ?_
      exact b_ireturn rfl trivial (⟨rfl, rfl⟩)
    · exact absurd (by rw [hn]; exact nI_le (Nat.le_refl _) (by omega)) c_17
  · intro p hp ih
    refine b_iload rfl rfl ?_
    refine b_aload_n rfl rfl ?_
    refine b_getI rfl (by first | rfl | assumption) rfl ?_
    refine b_icmp_ge rfl (fun c_17 => ?_) (fun c_17 => ?_)
    · exact absurd (by rw [← hn]; exact c_17) (nI_ge hp (by omega))
    · refine b_aload_n rfl rfl ?_
      refine b_iconst rfl ?_
      refine b_iload rfl rfl ?_
      refine b_ishl rfl ?_
      refine b_callS rfl rfl hk_Reasons_opposersOf rfl rfl rfl (Nat.le_of_ble_eq_true rfl) (q_Reasons_opposersOf ht0 hn hn8) (Nat.le_of_ble_eq_true rfl) (fun r_25 D_25 q_25 => ?_)
      obtain ⟨rfl, rfl⟩ := q_25
      refine b_iload_n rfl rfl ?_
      refine b_iconst rfl ?_
      refine b_ixor rfl ?_
      refine b_iand rfl ?_
      refine b_if_ne rfl (fun c_32 => ?_) (fun c_32 => ?_)
      · refine b_iinc rfl rfl (Nat.le_of_ble_eq_true rfl) ?_
        refine b_goto rfl ?_
        exact b_eq ih (by simp only [nI_succ, sp_dfd, sp_up, c_32, if_true, if_false]; rfl) rfl rfl
      · refine b_iload_n rfl rfl ?_
        refine b_iconst rfl ?_
        refine b_iload rfl rfl ?_
        refine b_ishl rfl ?_
        refine b_ior rfl ?_
        refine b_istore_n rfl (Nat.le_of_ble_eq_true rfl) ?_
        refine b_iinc rfl rfl (Nat.le_of_ble_eq_true rfl) ?_
        refine b_goto rfl ?_
        exact b_eq ih (by simp only [nI_succ, sp_dfd, sp_up, c_32, if_true, if_false]; rfl) rfl rfl
end HNways
