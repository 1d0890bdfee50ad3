section HNawait
variable {I I' : Nat → Nat → Int32} {J J' : Nat → Nat → Int64} {R R' : Nat → Nat → Option Nat}
theorem q_Lulls_await {t z : Nat} {v : Int32} (hN : hs_Net R t) (hz : I (t + 6) 3 = nI z) (h : z < 64) : hn_F 0 hm_Lulls_await [.ref (t + 6), .int v] (I, J, R) (fun r D' => r = none ∧ D' = (hn_u (hn_u I (t + 8) z v) (t + 6) 3 (nI (z + 1)), J, R)) := by
  refine hn_F_of _ hk_Lulls_await rfl (Nat.le_of_ble_eq_true rfl) ?_
  obtain ⟨tt5, tn0, tn1, tn2, tn3, tn4, tn5, tn6, tn7, tn8, tn9, tn10, ts1, ts2, ts3, ts4, ts5, ts7, ts8, tl0, tl2, tl6, tl7⟩ := hN
  have hz2 : hn_u I (t + 8) z v (t + 6) 3 = nI z := by rw [hn_u_ne _ _ _ (show t + 6 ≠ t + 8 by omega)]; exact hz
  refine b_aload_n rfl rfl ?_
  refine b_getI rfl (by first | rfl | assumption) rfl ?_
  rw [hz]
  refine b_bipush rfl ?_
  refine b_icmp_ge rfl (fun c_6 => ?_) (fun c_6 => ?_)
  · exact absurd c_6 (nI_ge (b := 64) h (by omega))
  · refine b_aload_n rfl rfl ?_
    refine b_getR rfl (by first | rfl | assumption) rfl (by assumption) ?_
    refine b_aload_n rfl rfl ?_
    refine b_getI rfl (by first | rfl | assumption) rfl ?_
    rw [hz]
    refine b_iload_n rfl rfl ?_
    refine b_iastore rfl (by first | rfl | assumption) (nI_toInt (n := z) (by omega)) (by omega) ?_
    refine b_aload_n rfl rfl ?_
    refine b_dup rfl rfl ?_
    refine b_getI rfl (by first | rfl | assumption) rfl ?_
    rw [hz2]
    refine b_iconst rfl ?_
    refine b_iadd rfl ?_
    rw [← nI_succ]
    refine b_putI rfl (by first | rfl | assumption) rfl rfl ⟨rfl, rfl⟩ ?_
    exact b_return_ rfl trivial (⟨rfl, rfl⟩)
/-- the part that a token is, as a code -/
def pt (x : tk) : Int32 := if x.1 = 2 then nI x.2.2.2 else if p_isS x 40 then 10012 else if ¬ hn_wnum.getD (wx x) 0 < 10000 ∧ ¬ 10004 < hn_wnum.getD (wx x) 0 then hn_wnum.getD (wx x) 0 else -1
theorem q_Lulls_partOf {n : Nat} {x : tk} (h : hs_Tk I J R n x) (hx : x.1 ≤ 4) (hv : x.1 = 3 → x.2.2.2 < 128) : hn_F 1 hm_Lulls_partOf [.ref 1] (I, J, R) (fun r D' => r = some (.int (pt x)) ∧ D' = (I, J, R)) := by
  refine hn_F_of _ hk_Lulls_partOf rfl (Nat.le_of_ble_eq_true rfl) ?_
  have hh := h
  obtain ⟨_, _, _, h4, h5, _, h7, _⟩ := h
  have hwx := wx_lt x
  by_cases h2 : x.1 = 2
  · have e : pt x = nI x.2.2.2 := if_pos h2
    rw [e]
    refine b_aload_n rfl rfl ?_
    refine b_getI rfl (by first | rfl | assumption) rfl ?_
    rw [h4, h2]
    refine b_iconst rfl ?_
    refine b_icmp_ne rfl (fun c_5 => ?_) (fun c_5 => ?_)
    · exact absurd rfl c_5
    · refine b_aload_n rfl rfl ?_
      refine b_getI rfl (by first | rfl | assumption) rfl ?_
      rw [h7 h2]
      exact b_ireturn rfl trivial (⟨rfl, rfl⟩)
  · have d5 : ¬ nI x.1 = 2 := fun z => h2 ((hi_nIe (k := 2) (by omega) (by omega)).mp z)
    by_cases h3 : p_isS x 40
    · have e : pt x = 10012 := by unfold pt; rw [if_neg h2, if_pos h3]
      rw [e]
      refine b_aload_n rfl rfl ?_
      refine b_getI rfl (by first | rfl | assumption) rfl ?_
      rw [h4]
      refine b_iconst rfl ?_
      refine b_icmp_ne rfl (fun c_5 => ?_) (fun c_5 => ?_)
      · refine b_aload_n rfl rfl ?_
        refine b_bipush rfl ?_
        refine b_callV rfl rfl hk_Tape_isSign rfl rfl rfl (by first | rfl | assumption) rfl (Nat.le_of_ble_eq_true rfl) (q_Tape_isSign (c := 40) hh hx (by omega) hv) (Nat.le_of_ble_eq_true rfl) (fun r_16 D_16 q_16 => ?_)
        obtain ⟨b, rfl, hb, rfl⟩ := q_16
        rcases hb with ⟨_, rfl⟩ | ⟨hy, _⟩
        rotate_left
        exact absurd h3 hy
        refine b_if_eq rfl (fun c_19 => ?_) (fun c_19 => ?_)
        · exact absurd c_19 (by decide)
        · refine b_sipush rfl ?_
          exact b_ireturn rfl trivial (⟨rfl, rfl⟩)
      · exact absurd c_5 d5
    · obtain ⟨w, hw⟩ : ∃ w, w = hn_wnum.getD (wx x) 0 := ⟨_, rfl⟩
      have h6 : hn_wnum.getD (5000 + wx x - 5000) 0 = w := by rw [show 5000 + wx x - 5000 = wx x by omega, hw]
      have e : pt x = if ¬ w < 10000 ∧ ¬ 10004 < w then w else -1 := by unfold pt; rw [if_neg h2, if_neg h3, hw]
      rw [e]
      have e1 : ¬ w < 10000 → ¬ 10004 < w → (if ¬ w < 10000 ∧ ¬ 10004 < w then w else -1) = w := fun y z => if_pos ⟨y, z⟩
      have e2 : w < 10000 → (if ¬ w < 10000 ∧ ¬ 10004 < w then w else -1) = -1 := fun y => if_neg (fun z => z.1 y)
      have e3 : 10004 < w → (if ¬ w < 10000 ∧ ¬ 10004 < w then w else -1) = -1 := fun y => if_neg (fun z => z.2 y)
      have f1 : ¬ w < 10000 → ¬ 10004 < w → some (Value.int w) = some (Value.int (if ¬ w < 10000 ∧ ¬ 10004 < w then w else -1)) := fun y z => by rw [e1 y z]
      have f2 : w < 10000 → some (Value.int (-1)) = some (Value.int (if ¬ w < 10000 ∧ ¬ 10004 < w then w else -1)) := fun y => by rw [e2 y]
      have f3 : 10004 < w → some (Value.int (-1)) = some (Value.int (if ¬ w < 10000 ∧ ¬ 10004 < w then w else -1)) := fun y => by rw [e3 y]
      refine b_aload_n rfl rfl ?_
      refine b_getI rfl (by first | rfl | assumption) rfl ?_
      rw [h4]
      refine b_iconst rfl ?_
      refine b_icmp_ne rfl (fun c_5 => ?_) (fun c_5 => ?_)
      · refine b_aload_n rfl rfl ?_
        refine b_bipush rfl ?_
        refine b_callV rfl rfl hk_Tape_isSign rfl rfl rfl (by first | rfl | assumption) rfl (Nat.le_of_ble_eq_true rfl) (q_Tape_isSign (c := 40) hh hx (by omega) hv) (Nat.le_of_ble_eq_true rfl) (fun r_16 D_16 q_16 => ?_)
        obtain ⟨b, rfl, hb, rfl⟩ := q_16
        rcases hb with ⟨hy, _⟩ | ⟨_, rfl⟩
        exact absurd hy h3
        refine b_if_eq rfl (fun c_19 => ?_) (fun c_19 => ?_)
        · refine b_aload_n rfl rfl ?_
          refine b_getR rfl (by first | rfl | assumption) rfl h5 ?_
          refine b_getW rfl (by decide) (by omega) ?_
          show hn_B _ _ _ _ _ (Value.int (hn_wnum.getD (5000 + wx x - 5000) 0) :: _) _
          rw [h6]
          refine b_istore_n rfl (Nat.le_of_ble_eq_true rfl) ?_
          refine b_iload_n rfl rfl ?_
          refine b_sipush rfl ?_
          refine b_icmp_lt rfl (fun c_38 => ?_) (fun c_38 => ?_)
          · refine b_iconst rfl ?_
            exact b_ireturn rfl trivial ((by first | exact ⟨f1 c_38 c_45, rfl⟩ | exact ⟨f2 c_38, rfl⟩ | exact ⟨f3 c_45, rfl⟩))
          · refine b_iload_n rfl rfl ?_
            refine b_sipush rfl ?_
            refine b_icmp_gt rfl (fun c_45 => ?_) (fun c_45 => ?_)
            · refine b_iconst rfl ?_
              exact b_ireturn rfl trivial ((by first | exact ⟨f1 c_38 c_45, rfl⟩ | exact ⟨f2 c_38, rfl⟩ | exact ⟨f3 c_45, rfl⟩))
            · refine b_iload_n rfl rfl ?_
              refine b_goto rfl ?_
              exact b_ireturn rfl trivial ((by first | exact ⟨f1 c_38 c_45, rfl⟩ | exact ⟨f2 c_38, rfl⟩ | exact ⟨f3 c_45, rfl⟩))
        · exact absurd rfl c_19
      · exact absurd c_5 d5
end HNawait
