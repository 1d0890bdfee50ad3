section HNrests
variable {I I' : Nat → Nat → Int32} {J J' : Nat → Nat → Int64} {R : Nat → Nat → Option Nat}
/-! a lull at rest -/
def gn (a b u v w : Int32) : Int32 := if a = 1 then (if b = 1 then u else -v) else (if b = 1 then w else 0)
abbrev sp_9 (x : Int32) : Prop := 0 ≤ x ∧ x ≤ 9
abbrev sp_rs (k : Nat) (u v w : Int32) : Prop := gn (nI (1 - k / 2)) (nI (k % 2)) u v w ≤ gn (nI (k / 2)) (nI (k % 2)) u v w ∧ gn (nI (1 - k % 2)) (nI (k / 2)) u v w ≤ gn (nI (k % 2)) (nI (k / 2)) u v w
def rs_c (u v w : Int32) : Nat → Nat
  | 0 => 0
  | k + 1 => rs_c u v w k + if sp_rs k u v w then 1 else 0
def rs_f (u v w q : Int32) : Nat → Int32
  | 0 => -1
  | k + 1 => if sp_rs k u v w ∧ nI (rs_c u v w k) = q then nI k else rs_f u v w q k
abbrev rs_ok (u v w q : Int32) : Prop := sp_9 u ∧ sp_9 v ∧ sp_9 w ∧ -1 ≤ q
abbrev v_thr (u v w q : Int32) : Prop := ¬ (rs_ok u v w q ∧ (q = -1 ∨ ¬ rs_f u v w q 4 = -1))
def v_rests (u v w q : Int32) : Int32 := if q = -1 then nI (rs_c u v w 4) else rs_f u v w q 4
theorem rs_c_le {u v w : Int32} : ∀ k, rs_c u v w k ≤ k
  | 0 => Nat.le_refl _
  | k + 1 => by have := rs_c_le (u := u) (v := v) (w := w) k; unfold rs_c; split <;> omega
theorem rs_c_mono {u v w : Int32} {i : Nat} : ∀ j, rs_c u v w i ≤ rs_c u v w (i + j)
  | 0 => Nat.le_refl _
  | j + 1 => Nat.le_trans (rs_c_mono j) (by show _ ≤ rs_c u v w (i + j) + _; omega)
/-- what is found stays found -/
theorem rs_f_stay {u v w q : Int32} {k : Nat} (hk : sp_rs k u v w ∧ nI (rs_c u v w k) = q) : ∀ j, k + 1 + j ≤ 100 → rs_f u v w q (k + 1 + j) = nI k
  | 0, _ => if_pos hk
  | j + 1, hj => by
    have ih := rs_f_stay hk j (by omega)
    show (if sp_rs (k + 1 + j) u v w ∧ nI (rs_c u v w (k + 1 + j)) = q then nI (k + 1 + j) else rs_f u v w q (k + 1 + j)) = nI k
    rw [if_neg, ih]
    rintro ⟨_, e⟩
    have h1 : rs_c u v w (k + 1) ≤ rs_c u v w (k + 1 + j) := rs_c_mono j
    have h2 : rs_c u v w (k + 1) = rs_c u v w k + 1 := by show rs_c u v w k + _ = _; rw [if_pos hk.1]
    have h3 := rs_c_le (u := u) (v := v) (w := w) (k + 1 + j)
    have h4 := rs_c_le (u := u) (v := v) (w := w) k
    have := (hi_nIe (by omega) (by omega)).mp (show nI (rs_c u v w (k + 1 + j)) = nI (rs_c u v w k) from e.trans hk.2.symm)
    omega
theorem q_X_isGain {x : Int32} : hn_F 0 hm_X_isGain [.int x] (I, J, R) (fun r D' => D' = (I, J, R) ∧ r = some (.int (if sp_9 x then 1 else 0))) := by
  refine hn_F_of _ hk_X_isGain rfl (Nat.le_of_ble_eq_true rfl) ?_
  refine b_iload_n rfl rfl ?_
  refine b_if_lt rfl (fun c_1 => ?_) (fun c_1 => ?_)
  · refine b_iconst rfl ?_
    exact b_ireturn rfl (by first | exact Or.inl rfl | exact Or.inr rfl | exact trivial) ((by first | exact ⟨rfl, congrArg (fun z => some (Value.int z)) (if_pos ⟨Int32.not_lt.mp c_1, Int32.not_lt.mp c_7⟩).symm⟩ | exact ⟨rfl, congrArg (fun z => some (Value.int z)) (if_neg (fun z => absurd c_7 (Int32.not_lt.mpr z.2))).symm⟩ | exact ⟨rfl, congrArg (fun z => some (Value.int z)) (if_neg (fun z => absurd c_1 (Int32.not_lt.mpr z.1))).symm⟩))
  · refine b_iload_n rfl rfl ?_
    refine b_bipush rfl ?_
    refine b_icmp_gt rfl (fun c_7 => ?_) (fun c_7 => ?_)
    · refine b_iconst rfl ?_
      exact b_ireturn rfl (by first | exact Or.inl rfl | exact Or.inr rfl | exact trivial) ((by first | exact ⟨rfl, congrArg (fun z => some (Value.int z)) (if_pos ⟨Int32.not_lt.mp c_1, Int32.not_lt.mp c_7⟩).symm⟩ | exact ⟨rfl, congrArg (fun z => some (Value.int z)) (if_neg (fun z => absurd c_7 (Int32.not_lt.mpr z.2))).symm⟩ | exact ⟨rfl, congrArg (fun z => some (Value.int z)) (if_neg (fun z => absurd c_1 (Int32.not_lt.mpr z.1))).symm⟩))
    · refine b_iconst rfl ?_
      refine b_goto rfl ?_
      exact b_ireturn rfl (by first | exact Or.inl rfl | exact Or.inr rfl | exact trivial) ((by first | exact ⟨rfl, congrArg (fun z => some (Value.int z)) (if_pos ⟨Int32.not_lt.mp c_1, Int32.not_lt.mp c_7⟩).symm⟩ | exact ⟨rfl, congrArg (fun z => some (Value.int z)) (if_neg (fun z => absurd c_7 (Int32.not_lt.mpr z.2))).symm⟩ | exact ⟨rfl, congrArg (fun z => some (Value.int z)) (if_neg (fun z => absurd c_1 (Int32.not_lt.mpr z.1))).symm⟩))
theorem q_X_gainOf {a b u v w : Int32} (ha : a = 0 ∨ a = 1) (hb : b = 0 ∨ b = 1) : hn_F 0 hm_X_gainOf [.int a, .int b, .int u, .int v, .int w] (I, J, R) (fun r D' => D' = (I, J, R) ∧ r = some (.int (gn a b u v w))) := by
  refine hn_F_of _ hk_X_gainOf rfl (Nat.le_of_ble_eq_true rfl) ?_
  refine b_iload_n rfl rfl ?_
  refine b_if_eq rfl (fun c_1 => ?_) (fun c_1 => ?_)
  · refine b_iload_n rfl rfl ?_
    refine b_if_eq rfl (fun c_16 => ?_) (fun c_16 => ?_)
    · refine b_iconst rfl ?_
      exact b_ireturn rfl trivial (⟨rfl, by rcases ha with rfl | rfl <;> rcases hb with rfl | rfl <;> first | rfl | contradiction⟩)
    · refine b_iload rfl rfl ?_
      refine b_goto rfl ?_
      exact b_ireturn rfl trivial (⟨rfl, by rcases ha with rfl | rfl <;> rcases hb with rfl | rfl <;> first | rfl | contradiction⟩)
  · refine b_iload_n rfl rfl ?_
    refine b_if_eq rfl (fun c_5 => ?_) (fun c_5 => ?_)
    · refine b_iload_n rfl rfl ?_
      refine b_ineg rfl ?_
      exact b_ireturn rfl trivial (⟨rfl, by rcases ha with rfl | rfl <;> rcases hb with rfl | rfl <;> first | rfl | contradiction⟩)
    · refine b_iload_n rfl rfl ?_
      refine b_goto rfl ?_
      exact b_ireturn rfl trivial (⟨rfl, by rcases ha with rfl | rfl <;> rcases hb with rfl | rfl <;> first | rfl | contradiction⟩)
theorem q_M_getsBy {a b u v w : Int32} : hn_F 0 hm_M_getsBy [.int a, .int b, .int u, .int v, .int w] (I, J, R) (fun r D' => D' = (I, J, R) ∧ r = some (.int (gn a b u v w))) := by
  refine hn_F_of _ hk_M_getsBy rfl (Nat.le_of_ble_eq_true rfl) ?_
  refine b_iload_n rfl rfl ?_
  refine b_iconst rfl ?_
  refine b_icmp_ne rfl (fun c_2 => ?_) (fun c_2 => ?_)
  · refine b_iload_n rfl rfl ?_
    refine b_iconst rfl ?_
    refine b_icmp_ne rfl (fun c_21 => ?_) (fun c_21 => ?_)
    · refine b_iconst rfl ?_
      exact b_ireturn rfl trivial ((by unfold gn; first | exact ⟨rfl, by rw [if_pos c_2, if_pos c_7]⟩ | exact ⟨rfl, by rw [if_pos c_2, if_neg c_7]⟩ | exact ⟨rfl, by rw [if_neg c_2, if_pos c_21]⟩ | exact ⟨rfl, by rw [if_neg c_2, if_neg c_21]⟩))
    · refine b_iload rfl rfl ?_
      refine b_goto rfl ?_
      exact b_ireturn rfl trivial ((by unfold gn; first | exact ⟨rfl, by rw [if_pos c_2, if_pos c_7]⟩ | exact ⟨rfl, by rw [if_pos c_2, if_neg c_7]⟩ | exact ⟨rfl, by rw [if_neg c_2, if_pos c_21]⟩ | exact ⟨rfl, by rw [if_neg c_2, if_neg c_21]⟩))
  · refine b_iload_n rfl rfl ?_
    refine b_iconst rfl ?_
    refine b_icmp_ne rfl (fun c_7 => ?_) (fun c_7 => ?_)
    · refine b_iload_n rfl rfl ?_
      refine b_ineg rfl ?_
      refine b_goto rfl ?_
      exact b_ireturn rfl trivial ((by unfold gn; first | exact ⟨rfl, by rw [if_pos c_2, if_pos c_7]⟩ | exact ⟨rfl, by rw [if_pos c_2, if_neg c_7]⟩ | exact ⟨rfl, by rw [if_neg c_2, if_pos c_21]⟩ | exact ⟨rfl, by rw [if_neg c_2, if_neg c_21]⟩))
    · refine b_iload_n rfl rfl ?_
      refine b_goto rfl ?_
      exact b_ireturn rfl trivial ((by unfold gn; first | exact ⟨rfl, by rw [if_pos c_2, if_pos c_7]⟩ | exact ⟨rfl, by rw [if_pos c_2, if_neg c_7]⟩ | exact ⟨rfl, by rw [if_neg c_2, if_pos c_21]⟩ | exact ⟨rfl, by rw [if_neg c_2, if_neg c_21]⟩))
theorem q_M_thrown {x : Int32} (h : I 188 0 = x) : hn_F 0 hm_M_thrown [.ref 188] (I, J, R) (fun r D' => D' = (I, J, R) ∧ r = some (.int x)) := by
  refine hn_F_of _ hk_M_thrown rfl (Nat.le_of_ble_eq_true rfl) ?_
  refine b_aload_n rfl rfl ?_
  refine b_getI rfl (by first | rfl | assumption) rfl ?_
  exact b_ireturn rfl trivial (⟨rfl, by rw [h]⟩)
theorem q_X_isRest {k : Nat} {u v w : Int32} (hk : k < 4) : hn_F 1 hm_X_isRest [.int (nI k), .int u, .int v, .int w] (I, J, R) (fun r D' => D' = (I, J, R) ∧ r = some (.int (if sp_rs k u v w then 1 else 0))) := by
  have h01 : (0 : Int32) = 0 ∨ (0 : Int32) = 1 := Or.inl rfl
  have h11 : (1 : Int32) = 0 ∨ (1 : Int32) = 1 := Or.inr rfl
  rcases (show k = 0 ∨ k = 1 ∨ k = 2 ∨ k = 3 by omega) with rfl | rfl | rfl | rfl
  · have e : sp_rs 0 u v w ↔ (gn 1 0 u v w ≤ gn 0 0 u v w ∧ gn 1 0 u v w ≤ gn 0 0 u v w) := Iff.rfl
    refine hn_F_of _ hk_X_isRest rfl (Nat.le_of_ble_eq_true rfl) ?_
    refine b_iload_n rfl rfl ?_
    refine b_iconst rfl ?_
    refine b_ishr rfl ?_
    refine b_iconst rfl ?_
    refine b_icmp_ne rfl (fun c_4 => ?_) (fun c_4 => ?_)
    · refine b_iconst rfl ?_
      refine b_istore rfl (Nat.le_of_ble_eq_true rfl) ?_
      refine b_iload_n rfl rfl ?_
      refine b_iconst rfl ?_
      refine b_iand rfl ?_
      refine b_iconst rfl ?_
      refine b_icmp_ne rfl (fun c_18 => ?_) (fun c_18 => ?_)
      · refine b_iconst rfl ?_
        refine b_istore rfl (Nat.le_of_ble_eq_true rfl) ?_
        refine b_iload rfl rfl ?_
        refine b_iload rfl rfl ?_
        refine b_iload_n rfl rfl ?_
        refine b_iload_n rfl rfl ?_
        refine b_iload_n rfl rfl ?_
        refine b_callS rfl rfl hk_X_gainOf rfl rfl rfl (Nat.le_of_ble_eq_true rfl) (q_X_gainOf h01 h01) (Nat.le_of_ble_eq_true rfl) (fun r_35 D_35 q_35 => ?_)
        obtain ⟨rfl, rfl⟩ := q_35
        refine b_iload rfl rfl ?_
        refine b_if_ne rfl (fun c_40 => ?_) (fun c_40 => ?_)
        · exact absurd rfl c_40
        · refine b_iconst rfl ?_
          refine b_goto rfl ?_
          refine b_iload rfl rfl ?_
          refine b_iload_n rfl rfl ?_
          refine b_iload_n rfl rfl ?_
          refine b_iload_n rfl rfl ?_
          refine b_callS rfl rfl hk_X_gainOf rfl rfl rfl (Nat.le_of_ble_eq_true rfl) (q_X_gainOf h11 h01) (Nat.le_of_ble_eq_true rfl) (fun r_53 D_53 q_53 => ?_)
          obtain ⟨rfl, rfl⟩ := q_53
          refine b_icmp_lt rfl (fun c_56 => ?_) (fun c_56 => ?_)
          · refine b_iconst rfl ?_
            exact b_ireturn rfl (by first | exact Or.inl rfl | exact Or.inr rfl | exact trivial) ((by first | exact ⟨rfl, by rw [if_pos (e.mpr ⟨Int32.not_lt.mp c_56, Int32.not_lt.mp c_87⟩)]⟩ | exact ⟨rfl, by rw [if_neg (fun z => absurd c_87 (Int32.not_lt.mpr (e.mp z).2))]⟩ | exact ⟨rfl, by rw [if_neg (fun z => absurd c_56 (Int32.not_lt.mpr (e.mp z).1))]⟩))
          · refine b_iload rfl rfl ?_
            refine b_iload rfl rfl ?_
            refine b_iload_n rfl rfl ?_
            refine b_iload_n rfl rfl ?_
            refine b_iload_n rfl rfl ?_
            refine b_callS rfl rfl hk_X_gainOf rfl rfl rfl (Nat.le_of_ble_eq_true rfl) (q_X_gainOf h01 h01) (Nat.le_of_ble_eq_true rfl) (fun r_66 D_66 q_66 => ?_)
            obtain ⟨rfl, rfl⟩ := q_66
            refine b_iload rfl rfl ?_
            refine b_if_ne rfl (fun c_71 => ?_) (fun c_71 => ?_)
            · exact absurd rfl c_71
            · refine b_iconst rfl ?_
              refine b_goto rfl ?_
              refine b_iload rfl rfl ?_
              refine b_iload_n rfl rfl ?_
              refine b_iload_n rfl rfl ?_
              refine b_iload_n rfl rfl ?_
              refine b_callS rfl rfl hk_X_gainOf rfl rfl rfl (Nat.le_of_ble_eq_true rfl) (q_X_gainOf h11 h01) (Nat.le_of_ble_eq_true rfl) (fun r_84 D_84 q_84 => ?_)
              obtain ⟨rfl, rfl⟩ := q_84
              refine b_icmp_lt rfl (fun c_87 => ?_) (fun c_87 => ?_)
              · refine b_iconst rfl ?_
                exact b_ireturn rfl (by first | exact Or.inl rfl | exact Or.inr rfl | exact trivial) ((by first | exact ⟨rfl, by rw [if_pos (e.mpr ⟨Int32.not_lt.mp c_56, Int32.not_lt.mp c_87⟩)]⟩ | exact ⟨rfl, by rw [if_neg (fun z => absurd c_87 (Int32.not_lt.mpr (e.mp z).2))]⟩ | exact ⟨rfl, by rw [if_neg (fun z => absurd c_56 (Int32.not_lt.mpr (e.mp z).1))]⟩))
              · refine b_iconst rfl ?_
                refine b_goto rfl ?_
                exact b_ireturn rfl (by first | exact Or.inl rfl | exact Or.inr rfl | exact trivial) ((by first | exact ⟨rfl, by rw [if_pos (e.mpr ⟨Int32.not_lt.mp c_56, Int32.not_lt.mp c_87⟩)]⟩ | exact ⟨rfl, by rw [if_neg (fun z => absurd c_87 (Int32.not_lt.mpr (e.mp z).2))]⟩ | exact ⟨rfl, by rw [if_neg (fun z => absurd c_56 (Int32.not_lt.mpr (e.mp z).1))]⟩))
      · exact absurd c_18 (by decide)
    · exact absurd c_4 (by decide)
  · have e : sp_rs 1 u v w ↔ (gn 1 1 u v w ≤ gn 0 1 u v w ∧ gn 0 0 u v w ≤ gn 1 0 u v w) := Iff.rfl
    refine hn_F_of _ hk_X_isRest rfl (Nat.le_of_ble_eq_true rfl) ?_
    refine b_iload_n rfl rfl ?_
    refine b_iconst rfl ?_
    refine b_ishr rfl ?_
    refine b_iconst rfl ?_
    refine b_icmp_ne rfl (fun c_4 => ?_) (fun c_4 => ?_)
    · refine b_iconst rfl ?_
      refine b_istore rfl (Nat.le_of_ble_eq_true rfl) ?_
      refine b_iload_n rfl rfl ?_
      refine b_iconst rfl ?_
      refine b_iand rfl ?_
      refine b_iconst rfl ?_
      refine b_icmp_ne rfl (fun c_18 => ?_) (fun c_18 => ?_)
      · exact absurd (by decide) c_18
      · refine b_iconst rfl ?_
        refine b_goto rfl ?_
        refine b_istore rfl (Nat.le_of_ble_eq_true rfl) ?_
        refine b_iload rfl rfl ?_
        refine b_iload rfl rfl ?_
        refine b_iload_n rfl rfl ?_
        refine b_iload_n rfl rfl ?_
        refine b_iload_n rfl rfl ?_
        refine b_callS rfl rfl hk_X_gainOf rfl rfl rfl (Nat.le_of_ble_eq_true rfl) (q_X_gainOf h01 h11) (Nat.le_of_ble_eq_true rfl) (fun r_35 D_35 q_35 => ?_)
        obtain ⟨rfl, rfl⟩ := q_35
        refine b_iload rfl rfl ?_
        refine b_if_ne rfl (fun c_40 => ?_) (fun c_40 => ?_)
        · exact absurd rfl c_40
        · refine b_iconst rfl ?_
          refine b_goto rfl ?_
          refine b_iload rfl rfl ?_
          refine b_iload_n rfl rfl ?_
          refine b_iload_n rfl rfl ?_
          refine b_iload_n rfl rfl ?_
          refine b_callS rfl rfl hk_X_gainOf rfl rfl rfl (Nat.le_of_ble_eq_true rfl) (q_X_gainOf h11 h11) (Nat.le_of_ble_eq_true rfl) (fun r_53 D_53 q_53 => ?_)
          obtain ⟨rfl, rfl⟩ := q_53
          refine b_icmp_lt rfl (fun c_56 => ?_) (fun c_56 => ?_)
          · refine b_iconst rfl ?_
            exact b_ireturn rfl (by first | exact Or.inl rfl | exact Or.inr rfl | exact trivial) ((by first | exact ⟨rfl, by rw [if_pos (e.mpr ⟨Int32.not_lt.mp c_56, Int32.not_lt.mp c_87⟩)]⟩ | exact ⟨rfl, by rw [if_neg (fun z => absurd c_87 (Int32.not_lt.mpr (e.mp z).2))]⟩ | exact ⟨rfl, by rw [if_neg (fun z => absurd c_56 (Int32.not_lt.mpr (e.mp z).1))]⟩))
          · refine b_iload rfl rfl ?_
            refine b_iload rfl rfl ?_
            refine b_iload_n rfl rfl ?_
            refine b_iload_n rfl rfl ?_
            refine b_iload_n rfl rfl ?_
            refine b_callS rfl rfl hk_X_gainOf rfl rfl rfl (Nat.le_of_ble_eq_true rfl) (q_X_gainOf h11 h01) (Nat.le_of_ble_eq_true rfl) (fun r_66 D_66 q_66 => ?_)
            obtain ⟨rfl, rfl⟩ := q_66
            refine b_iload rfl rfl ?_
            refine b_if_ne rfl (fun c_71 => ?_) (fun c_71 => ?_)
            · refine b_iconst rfl ?_
              refine b_iload rfl rfl ?_
              refine b_iload_n rfl rfl ?_
              refine b_iload_n rfl rfl ?_
              refine b_iload_n rfl rfl ?_
              refine b_callS rfl rfl hk_X_gainOf rfl rfl rfl (Nat.le_of_ble_eq_true rfl) (q_X_gainOf h01 h01) (Nat.le_of_ble_eq_true rfl) (fun r_84 D_84 q_84 => ?_)
              obtain ⟨rfl, rfl⟩ := q_84
              refine b_icmp_lt rfl (fun c_87 => ?_) (fun c_87 => ?_)
              · refine b_iconst rfl ?_
                exact b_ireturn rfl (by first | exact Or.inl rfl | exact Or.inr rfl | exact trivial) ((by first | exact ⟨rfl, by rw [if_pos (e.mpr ⟨Int32.not_lt.mp c_56, Int32.not_lt.mp c_87⟩)]⟩ | exact ⟨rfl, by rw [if_neg (fun z => absurd c_87 (Int32.not_lt.mpr (e.mp z).2))]⟩ | exact ⟨rfl, by rw [if_neg (fun z => absurd c_56 (Int32.not_lt.mpr (e.mp z).1))]⟩))
              · refine b_iconst rfl ?_
                refine b_goto rfl ?_
                exact b_ireturn rfl (by first | exact Or.inl rfl | exact Or.inr rfl | exact trivial) ((by first | exact ⟨rfl, by rw [if_pos (e.mpr ⟨Int32.not_lt.mp c_56, Int32.not_lt.mp c_87⟩)]⟩ | exact ⟨rfl, by rw [if_neg (fun z => absurd c_87 (Int32.not_lt.mpr (e.mp z).2))]⟩ | exact ⟨rfl, by rw [if_neg (fun z => absurd c_56 (Int32.not_lt.mpr (e.mp z).1))]⟩))
            · exact absurd c_71 (by decide)
    · exact absurd c_4 (by decide)
  · have e : sp_rs 2 u v w ↔ (gn 0 0 u v w ≤ gn 1 0 u v w ∧ gn 1 1 u v w ≤ gn 0 1 u v w) := Iff.rfl
    refine hn_F_of _ hk_X_isRest rfl (Nat.le_of_ble_eq_true rfl) ?_
    refine b_iload_n rfl rfl ?_
    refine b_iconst rfl ?_
    refine b_ishr rfl ?_
    refine b_iconst rfl ?_
    refine b_icmp_ne rfl (fun c_4 => ?_) (fun c_4 => ?_)
    · exact absurd (by decide) c_4
    · refine b_iconst rfl ?_
      refine b_goto rfl ?_
      refine b_istore rfl (Nat.le_of_ble_eq_true rfl) ?_
      refine b_iload_n rfl rfl ?_
      refine b_iconst rfl ?_
      refine b_iand rfl ?_
      refine b_iconst rfl ?_
      refine b_icmp_ne rfl (fun c_18 => ?_) (fun c_18 => ?_)
      · refine b_iconst rfl ?_
        refine b_istore rfl (Nat.le_of_ble_eq_true rfl) ?_
        refine b_iload rfl rfl ?_
        refine b_iload rfl rfl ?_
        refine b_iload_n rfl rfl ?_
        refine b_iload_n rfl rfl ?_
        refine b_iload_n rfl rfl ?_
        refine b_callS rfl rfl hk_X_gainOf rfl rfl rfl (Nat.le_of_ble_eq_true rfl) (q_X_gainOf h11 h01) (Nat.le_of_ble_eq_true rfl) (fun r_35 D_35 q_35 => ?_)
        obtain ⟨rfl, rfl⟩ := q_35
        refine b_iload rfl rfl ?_
        refine b_if_ne rfl (fun c_40 => ?_) (fun c_40 => ?_)
        · refine b_iconst rfl ?_
          refine b_iload rfl rfl ?_
          refine b_iload_n rfl rfl ?_
          refine b_iload_n rfl rfl ?_
          refine b_iload_n rfl rfl ?_
          refine b_callS rfl rfl hk_X_gainOf rfl rfl rfl (Nat.le_of_ble_eq_true rfl) (q_X_gainOf h01 h01) (Nat.le_of_ble_eq_true rfl) (fun r_53 D_53 q_53 => ?_)
          obtain ⟨rfl, rfl⟩ := q_53
          refine b_icmp_lt rfl (fun c_56 => ?_) (fun c_56 => ?_)
          · refine b_iconst rfl ?_
            exact b_ireturn rfl (by first | exact Or.inl rfl | exact Or.inr rfl | exact trivial) ((by first | exact ⟨rfl, by rw [if_pos (e.mpr ⟨Int32.not_lt.mp c_56, Int32.not_lt.mp c_87⟩)]⟩ | exact ⟨rfl, by rw [if_neg (fun z => absurd c_87 (Int32.not_lt.mpr (e.mp z).2))]⟩ | exact ⟨rfl, by rw [if_neg (fun z => absurd c_56 (Int32.not_lt.mpr (e.mp z).1))]⟩))
          · refine b_iload rfl rfl ?_
            refine b_iload rfl rfl ?_
            refine b_iload_n rfl rfl ?_
            refine b_iload_n rfl rfl ?_
            refine b_iload_n rfl rfl ?_
            refine b_callS rfl rfl hk_X_gainOf rfl rfl rfl (Nat.le_of_ble_eq_true rfl) (q_X_gainOf h01 h11) (Nat.le_of_ble_eq_true rfl) (fun r_66 D_66 q_66 => ?_)
            obtain ⟨rfl, rfl⟩ := q_66
            refine b_iload rfl rfl ?_
            refine b_if_ne rfl (fun c_71 => ?_) (fun c_71 => ?_)
            · exact absurd rfl c_71
            · refine b_iconst rfl ?_
              refine b_goto rfl ?_
              refine b_iload rfl rfl ?_
              refine b_iload_n rfl rfl ?_
              refine b_iload_n rfl rfl ?_
              refine b_iload_n rfl rfl ?_
              refine b_callS rfl rfl hk_X_gainOf rfl rfl rfl (Nat.le_of_ble_eq_true rfl) (q_X_gainOf h11 h11) (Nat.le_of_ble_eq_true rfl) (fun r_84 D_84 q_84 => ?_)
              obtain ⟨rfl, rfl⟩ := q_84
              refine b_icmp_lt rfl (fun c_87 => ?_) (fun c_87 => ?_)
              · refine b_iconst rfl ?_
                exact b_ireturn rfl (by first | exact Or.inl rfl | exact Or.inr rfl | exact trivial) ((by first | exact ⟨rfl, by rw [if_pos (e.mpr ⟨Int32.not_lt.mp c_56, Int32.not_lt.mp c_87⟩)]⟩ | exact ⟨rfl, by rw [if_neg (fun z => absurd c_87 (Int32.not_lt.mpr (e.mp z).2))]⟩ | exact ⟨rfl, by rw [if_neg (fun z => absurd c_56 (Int32.not_lt.mpr (e.mp z).1))]⟩))
              · refine b_iconst rfl ?_
                refine b_goto rfl ?_
                exact b_ireturn rfl (by first | exact Or.inl rfl | exact Or.inr rfl | exact trivial) ((by first | exact ⟨rfl, by rw [if_pos (e.mpr ⟨Int32.not_lt.mp c_56, Int32.not_lt.mp c_87⟩)]⟩ | exact ⟨rfl, by rw [if_neg (fun z => absurd c_87 (Int32.not_lt.mpr (e.mp z).2))]⟩ | exact ⟨rfl, by rw [if_neg (fun z => absurd c_56 (Int32.not_lt.mpr (e.mp z).1))]⟩))
        · exact absurd c_40 (by decide)
      · exact absurd c_18 (by decide)
  · have e : sp_rs 3 u v w ↔ (gn 0 1 u v w ≤ gn 1 1 u v w ∧ gn 0 1 u v w ≤ gn 1 1 u v w) := Iff.rfl
    refine hn_F_of _ hk_X_isRest rfl (Nat.le_of_ble_eq_true rfl) ?_
    refine b_iload_n rfl rfl ?_
    refine b_iconst rfl ?_
    refine b_ishr rfl ?_
    refine b_iconst rfl ?_
    refine b_icmp_ne rfl (fun c_4 => ?_) (fun c_4 => ?_)
    · exact absurd (by decide) c_4
    · refine b_iconst rfl ?_
      refine b_goto rfl ?_
      refine b_istore rfl (Nat.le_of_ble_eq_true rfl) ?_
      refine b_iload_n rfl rfl ?_
      refine b_iconst rfl ?_
      refine b_iand rfl ?_
      refine b_iconst rfl ?_
      refine b_icmp_ne rfl (fun c_18 => ?_) (fun c_18 => ?_)
      · exact absurd (by decide) c_18
      · refine b_iconst rfl ?_
        refine b_goto rfl ?_
        refine b_istore rfl (Nat.le_of_ble_eq_true rfl) ?_
        refine b_iload rfl rfl ?_
        refine b_iload rfl rfl ?_
        refine b_iload_n rfl rfl ?_
        refine b_iload_n rfl rfl ?_
        refine b_iload_n rfl rfl ?_
        refine b_callS rfl rfl hk_X_gainOf rfl rfl rfl (Nat.le_of_ble_eq_true rfl) (q_X_gainOf h11 h11) (Nat.le_of_ble_eq_true rfl) (fun r_35 D_35 q_35 => ?_)
        obtain ⟨rfl, rfl⟩ := q_35
        refine b_iload rfl rfl ?_
        refine b_if_ne rfl (fun c_40 => ?_) (fun c_40 => ?_)
        · refine b_iconst rfl ?_
          refine b_iload rfl rfl ?_
          refine b_iload_n rfl rfl ?_
          refine b_iload_n rfl rfl ?_
          refine b_iload_n rfl rfl ?_
          refine b_callS rfl rfl hk_X_gainOf rfl rfl rfl (Nat.le_of_ble_eq_true rfl) (q_X_gainOf h01 h11) (Nat.le_of_ble_eq_true rfl) (fun r_53 D_53 q_53 => ?_)
          obtain ⟨rfl, rfl⟩ := q_53
          refine b_icmp_lt rfl (fun c_56 => ?_) (fun c_56 => ?_)
          · refine b_iconst rfl ?_
            exact b_ireturn rfl (by first | exact Or.inl rfl | exact Or.inr rfl | exact trivial) ((by first | exact ⟨rfl, by rw [if_pos (e.mpr ⟨Int32.not_lt.mp c_56, Int32.not_lt.mp c_87⟩)]⟩ | exact ⟨rfl, by rw [if_neg (fun z => absurd c_87 (Int32.not_lt.mpr (e.mp z).2))]⟩ | exact ⟨rfl, by rw [if_neg (fun z => absurd c_56 (Int32.not_lt.mpr (e.mp z).1))]⟩))
          · refine b_iload rfl rfl ?_
            refine b_iload rfl rfl ?_
            refine b_iload_n rfl rfl ?_
            refine b_iload_n rfl rfl ?_
            refine b_iload_n rfl rfl ?_
            refine b_callS rfl rfl hk_X_gainOf rfl rfl rfl (Nat.le_of_ble_eq_true rfl) (q_X_gainOf h11 h11) (Nat.le_of_ble_eq_true rfl) (fun r_66 D_66 q_66 => ?_)
            obtain ⟨rfl, rfl⟩ := q_66
            refine b_iload rfl rfl ?_
            refine b_if_ne rfl (fun c_71 => ?_) (fun c_71 => ?_)
            · refine b_iconst rfl ?_
              refine b_iload rfl rfl ?_
              refine b_iload_n rfl rfl ?_
              refine b_iload_n rfl rfl ?_
              refine b_iload_n rfl rfl ?_
              refine b_callS rfl rfl hk_X_gainOf rfl rfl rfl (Nat.le_of_ble_eq_true rfl) (q_X_gainOf h01 h11) (Nat.le_of_ble_eq_true rfl) (fun r_84 D_84 q_84 => ?_)
              obtain ⟨rfl, rfl⟩ := q_84
              refine b_icmp_lt rfl (fun c_87 => ?_) (fun c_87 => ?_)
              · refine b_iconst rfl ?_
                exact b_ireturn rfl (by first | exact Or.inl rfl | exact Or.inr rfl | exact trivial) ((by first | exact ⟨rfl, by rw [if_pos (e.mpr ⟨Int32.not_lt.mp c_56, Int32.not_lt.mp c_87⟩)]⟩ | exact ⟨rfl, by rw [if_neg (fun z => absurd c_87 (Int32.not_lt.mpr (e.mp z).2))]⟩ | exact ⟨rfl, by rw [if_neg (fun z => absurd c_56 (Int32.not_lt.mpr (e.mp z).1))]⟩))
              · refine b_iconst rfl ?_
                refine b_goto rfl ?_
                exact b_ireturn rfl (by first | exact Or.inl rfl | exact Or.inr rfl | exact trivial) ((by first | exact ⟨rfl, by rw [if_pos (e.mpr ⟨Int32.not_lt.mp c_56, Int32.not_lt.mp c_87⟩)]⟩ | exact ⟨rfl, by rw [if_neg (fun z => absurd c_87 (Int32.not_lt.mpr (e.mp z).2))]⟩ | exact ⟨rfl, by rw [if_neg (fun z => absurd c_56 (Int32.not_lt.mpr (e.mp z).1))]⟩))
            · exact absurd c_71 (by decide)
        · exact absurd c_40 (by decide)
end HNrests
