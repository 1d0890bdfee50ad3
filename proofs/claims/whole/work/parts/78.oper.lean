section HNoper
variable {I I' : Nat → Nat → Int32} {J J' : Nat → Nat → Int64} {R R' : Nat → Nat → Option Nat}
/-- how close an operator binds -/
def lu_rk (c : Int32) : Nat := if c = 10005 then 1 else if c = 10006 then 1 else if c = 10007 then 2 else if c = 10008 then 2 else if c = 10009 then 3 else if c = 10010 then 3 else if c = 10011 then 4 else 0
theorem lu_rk_le (c : Int32) : lu_rk c ≤ 4 := by
  unfold lu_rk
  repeat' split
  all_goals omega
theorem q_Lulls_rankOf {x : Int32} : hn_F 0 hm_Lulls_rankOf [.int x] (I, J, R) (fun r D' => r = some (.int (nI (lu_rk x))) ∧ D' = (I, J, R)) := by
  refine hn_F_of _ hk_Lulls_rankOf rfl (Nat.le_of_ble_eq_true rfl) ?_
  refine b_iload_n rfl rfl ?_
  have ec : ∀ z : Int32, x = z ↔ x.toInt = z.toInt := fun z => Int32.toInt_inj.symm
  by_cases h5 : x = 10005
  · subst h5
    refine b_tsw (q := 44) rfl rfl ?_
    refine b_iconst rfl ?_
    exact b_ireturn rfl trivial (⟨rfl, rfl⟩)
  by_cases h6 : x = 10006
  · subst h6
    refine b_tsw (q := 44) rfl rfl ?_
    refine b_iconst rfl ?_
    exact b_ireturn rfl trivial (⟨rfl, rfl⟩)
  by_cases h7 : x = 10007
  · subst h7
    refine b_tsw (q := 46) rfl rfl ?_
    refine b_iconst rfl ?_
    exact b_ireturn rfl trivial (⟨rfl, rfl⟩)
  by_cases h8 : x = 10008
  · subst h8
    refine b_tsw (q := 46) rfl rfl ?_
    refine b_iconst rfl ?_
    exact b_ireturn rfl trivial (⟨rfl, rfl⟩)
  by_cases h9 : x = 10009
  · subst h9
    refine b_tsw (q := 48) rfl rfl ?_
    refine b_iconst rfl ?_
    exact b_ireturn rfl trivial (⟨rfl, rfl⟩)
  by_cases h10 : x = 10010
  · subst h10
    refine b_tsw (q := 48) rfl rfl ?_
    refine b_iconst rfl ?_
    exact b_ireturn rfl trivial (⟨rfl, rfl⟩)
  by_cases h11 : x = 10011
  · subst h11
    refine b_tsw (q := 50) rfl rfl ?_
    refine b_iconst rfl ?_
    exact b_ireturn rfl trivial (⟨rfl, rfl⟩)
  have e0 : lu_rk x = 0 := by unfold lu_rk; rw [if_neg h5, if_neg h6, if_neg h7, if_neg h8, if_neg h9, if_neg h10, if_neg h11]
  have hbig : x.toInt < 10005 ∨ 10011 < x.toInt := by
    rw [ec] at h5 h6 h7 h8 h9 h10 h11
    rw [show (10005 : Int32).toInt = 10005 from rfl] at h5
    rw [show (10006 : Int32).toInt = 10006 from rfl] at h6
    rw [show (10007 : Int32).toInt = 10007 from rfl] at h7
    rw [show (10008 : Int32).toInt = 10008 from rfl] at h8
    rw [show (10009 : Int32).toInt = 10009 from rfl] at h9
    rw [show (10010 : Int32).toInt = 10010 from rfl] at h10
    rw [show (10011 : Int32).toInt = 10011 from rfl] at h11
    omega
  refine b_tsw (q := 52) rfl (by rw [if_pos hbig]; rfl) ?_
  refine b_iconst rfl ?_
  exact b_ireturn rfl trivial (⟨by rw [e0]; rfl, rfl⟩)
/-- the operator that a token is, as a code -/
def lu_op (x : tk) : Int32 := if wx x = 20 ∨ wx x = 21 then hn_wnum.getD (wx x) 0 else if p_isS x 60 then 10007 else if p_isS x 61 then 10008 else if p_isS x 43 then 10009 else if p_isS x 45 then 10010 else if p_isS x 42 then 10011 else -1
theorem q_Lulls_operatorOf {n : Nat} {x : tk} (h : hs_Tk I J R n x) (hx : x.1 ≤ 4) (hv : x.1 = 3 → x.2.2.2 < 128) : hn_F 1 hm_Lulls_operatorOf [.ref 1] (I, J, R) (fun r D' => r = some (.int (lu_op x)) ∧ D' = (I, J, R)) := by
  refine hn_F_of _ hk_Lulls_operatorOf rfl (Nat.le_of_ble_eq_true rfl) ?_
  have hh := h
  obtain ⟨_, _, _, h4, h5, _, h7, _⟩ := h
  have hwx := wx_lt x
  have hwn : hn_wnum.getD (5000 + wx x - 5000) 0 = hn_wnum.getD (wx x) 0 := by rw [show 5000 + wx x - 5000 = wx x by omega]
  by_cases hw : wx x = 20 ∨ wx x = 21
  · have e : lu_op x = hn_wnum.getD (wx x) 0 := if_pos hw
    rw [e]
    have S20 : hn_B 1 hm_Lulls_operatorOf (fun r D' => r = some (.int (hn_wnum.getD (wx x) 0)) ∧ D' = (I, J, R)) 20 [.ref 1] [] (I, J, R) := by
      refine b_aload_n rfl rfl ?_
      refine b_getR rfl (by first | rfl | assumption) rfl h5 ?_
      refine b_getW rfl (by decide) (by omega) ?_
      show hn_B _ _ _ _ _ (Value.int (hn_wnum.getD (5000 + wx x - 5000) 0) :: _) _
      rw [hwn]
      exact b_ireturn rfl trivial (⟨rfl, rfl⟩)
    by_cases h20 : wx x = 20
    · refine b_aload_n rfl rfl ?_
      refine b_getR rfl (by first | rfl | assumption) rfl h5 ?_
      refine b_getsW rfl ?_
      refine b_acmp_eq rfl (by omega) (by omega) (fun c_7 => ?_) (fun c_7 => ?_)
      · exact S20
      · exact absurd (show 5000 + wx x = 5020 by omega) c_7
    · refine b_aload_n rfl rfl ?_
      refine b_getR rfl (by first | rfl | assumption) rfl h5 ?_
      refine b_getsW rfl ?_
      refine b_acmp_eq rfl (by omega) (by omega) (fun c_7 => ?_) (fun c_7 => ?_)
      · exact absurd (show wx x = 20 by omega) h20
      · refine b_aload_n rfl rfl ?_
        refine b_getR rfl (by first | rfl | assumption) rfl h5 ?_
        refine b_getsW rfl ?_
        refine b_acmp_ne rfl (by omega) (by omega) (fun c_17 => ?_) (fun c_17 => ?_)
        · exact absurd (show 5000 + wx x = 5021 by omega) c_17
        · exact S20
  · have e : lu_op x = if p_isS x 60 then 10007 else if p_isS x 61 then 10008 else if p_isS x 43 then 10009 else if p_isS x 45 then 10010 else if p_isS x 42 then 10011 else -1 := if_neg hw
    rw [e]
    obtain ⟨P, hP⟩ : ∃ P : Option Value → hnD → Prop, P = (fun r D' => r = some (.int (if p_isS x 60 then 10007 else if p_isS x 61 then 10008 else if p_isS x 43 then 10009 else if p_isS x 45 then 10010 else if p_isS x 42 then 10011 else -1)) ∧ D' = (I, J, R)) := ⟨_, rfl⟩
    rw [← hP]
    have S28 : hn_B 1 hm_Lulls_operatorOf P 28 [.ref 1] [] (I, J, R) := by
      by_cases y1 : p_isS x 60
      · refine b_aload_n rfl rfl ?_
        refine b_bipush rfl ?_
        refine b_callV rfl rfl hk_Tape_isSign rfl rfl rfl (by first | rfl | assumption) rfl (Nat.le_of_ble_eq_true rfl) (q_Tape_isSign (c := 60) hh hx (by omega) hv) (Nat.le_of_ble_eq_true rfl) (fun r_31 D_31 q_31 => ?_)
        obtain ⟨b, rfl, hb, rfl⟩ := q_31
        rcases hb with ⟨_, rfl⟩ | ⟨hy, _⟩
        rotate_left
        exact absurd y1 hy
        refine b_if_eq rfl (fun c_34 => ?_) (fun c_34 => ?_)
        · exact absurd c_34 (by decide)
        · refine b_sipush rfl ?_
          exact b_ireturn rfl trivial ((by rw [hP]; exact ⟨by rw [if_pos y1], rfl⟩))
      by_cases y2 : p_isS x 61
      · refine b_aload_n rfl rfl ?_
        refine b_bipush rfl ?_
        refine b_callV rfl rfl hk_Tape_isSign rfl rfl rfl (by first | rfl | assumption) rfl (Nat.le_of_ble_eq_true rfl) (q_Tape_isSign (c := 60) hh hx (by omega) hv) (Nat.le_of_ble_eq_true rfl) (fun r_31 D_31 q_31 => ?_)
        obtain ⟨b, rfl, hb, rfl⟩ := q_31
        rcases hb with ⟨hy, _⟩ | ⟨_, rfl⟩
        exact absurd hy y1
        refine b_if_eq rfl (fun c_34 => ?_) (fun c_34 => ?_)
        · refine b_aload_n rfl rfl ?_
          refine b_bipush rfl ?_
          refine b_callV rfl rfl hk_Tape_isSign rfl rfl rfl (by first | rfl | assumption) rfl (Nat.le_of_ble_eq_true rfl) (q_Tape_isSign (c := 61) hh hx (by omega) hv) (Nat.le_of_ble_eq_true rfl) (fun r_44 D_44 q_44 => ?_)
          obtain ⟨b, rfl, hb, rfl⟩ := q_44
          rcases hb with ⟨_, rfl⟩ | ⟨hy, _⟩
          rotate_left
          exact absurd y2 hy
          refine b_if_eq rfl (fun c_47 => ?_) (fun c_47 => ?_)
          · exact absurd c_47 (by decide)
          · refine b_sipush rfl ?_
            exact b_ireturn rfl trivial ((by rw [hP]; exact ⟨by rw [if_neg y1, if_pos y2], rfl⟩))
        · exact absurd rfl c_34
      by_cases y3 : p_isS x 43
      · refine b_aload_n rfl rfl ?_
        refine b_bipush rfl ?_
        refine b_callV rfl rfl hk_Tape_isSign rfl rfl rfl (by first | rfl | assumption) rfl (Nat.le_of_ble_eq_true rfl) (q_Tape_isSign (c := 60) hh hx (by omega) hv) (Nat.le_of_ble_eq_true rfl) (fun r_31 D_31 q_31 => ?_)
        obtain ⟨b, rfl, hb, rfl⟩ := q_31
        rcases hb with ⟨hy, _⟩ | ⟨_, rfl⟩
        exact absurd hy y1
        refine b_if_eq rfl (fun c_34 => ?_) (fun c_34 => ?_)
        · refine b_aload_n rfl rfl ?_
          refine b_bipush rfl ?_
          refine b_callV rfl rfl hk_Tape_isSign rfl rfl rfl (by first | rfl | assumption) rfl (Nat.le_of_ble_eq_true rfl) (q_Tape_isSign (c := 61) hh hx (by omega) hv) (Nat.le_of_ble_eq_true rfl) (fun r_44 D_44 q_44 => ?_)
          obtain ⟨b, rfl, hb, rfl⟩ := q_44
          rcases hb with ⟨hy, _⟩ | ⟨_, rfl⟩
          exact absurd hy y2
          refine b_if_eq rfl (fun c_47 => ?_) (fun c_47 => ?_)
          · refine b_aload_n rfl rfl ?_
            refine b_bipush rfl ?_
            refine b_callV rfl rfl hk_Tape_isSign rfl rfl rfl (by first | rfl | assumption) rfl (Nat.le_of_ble_eq_true rfl) (q_Tape_isSign (c := 43) hh hx (by omega) hv) (Nat.le_of_ble_eq_true rfl) (fun r_57 D_57 q_57 => ?_)
            obtain ⟨b, rfl, hb, rfl⟩ := q_57
            rcases hb with ⟨_, rfl⟩ | ⟨hy, _⟩
            rotate_left
            exact absurd y3 hy
            refine b_if_eq rfl (fun c_60 => ?_) (fun c_60 => ?_)
            · exact absurd c_60 (by decide)
            · refine b_sipush rfl ?_
              exact b_ireturn rfl trivial ((by rw [hP]; exact ⟨by rw [if_neg y1, if_neg y2, if_pos y3], rfl⟩))
          · exact absurd rfl c_47
        · exact absurd rfl c_34
      by_cases y4 : p_isS x 45
      · refine b_aload_n rfl rfl ?_
        refine b_bipush rfl ?_
        refine b_callV rfl rfl hk_Tape_isSign rfl rfl rfl (by first | rfl | assumption) rfl (Nat.le_of_ble_eq_true rfl) (q_Tape_isSign (c := 60) hh hx (by omega) hv) (Nat.le_of_ble_eq_true rfl) (fun r_31 D_31 q_31 => ?_)
        obtain ⟨b, rfl, hb, rfl⟩ := q_31
        rcases hb with ⟨hy, _⟩ | ⟨_, rfl⟩
        exact absurd hy y1
        refine b_if_eq rfl (fun c_34 => ?_) (fun c_34 => ?_)
        · refine b_aload_n rfl rfl ?_
          refine b_bipush rfl ?_
          refine b_callV rfl rfl hk_Tape_isSign rfl rfl rfl (by first | rfl | assumption) rfl (Nat.le_of_ble_eq_true rfl) (q_Tape_isSign (c := 61) hh hx (by omega) hv) (Nat.le_of_ble_eq_true rfl) (fun r_44 D_44 q_44 => ?_)
          obtain ⟨b, rfl, hb, rfl⟩ := q_44
          rcases hb with ⟨hy, _⟩ | ⟨_, rfl⟩
          exact absurd hy y2
          refine b_if_eq rfl (fun c_47 => ?_) (fun c_47 => ?_)
          · refine b_aload_n rfl rfl ?_
            refine b_bipush rfl ?_
            refine b_callV rfl rfl hk_Tape_isSign rfl rfl rfl (by first | rfl | assumption) rfl (Nat.le_of_ble_eq_true rfl) (q_Tape_isSign (c := 43) hh hx (by omega) hv) (Nat.le_of_ble_eq_true rfl) (fun r_57 D_57 q_57 => ?_)
            obtain ⟨b, rfl, hb, rfl⟩ := q_57
            rcases hb with ⟨hy, _⟩ | ⟨_, rfl⟩
            exact absurd hy y3
            refine b_if_eq rfl (fun c_60 => ?_) (fun c_60 => ?_)
            · refine b_aload_n rfl rfl ?_
              refine b_bipush rfl ?_
              refine b_callV rfl rfl hk_Tape_isSign rfl rfl rfl (by first | rfl | assumption) rfl (Nat.le_of_ble_eq_true rfl) (q_Tape_isSign (c := 45) hh hx (by omega) hv) (Nat.le_of_ble_eq_true rfl) (fun r_70 D_70 q_70 => ?_)
              obtain ⟨b, rfl, hb, rfl⟩ := q_70
              rcases hb with ⟨_, rfl⟩ | ⟨hy, _⟩
              rotate_left
              exact absurd y4 hy
              refine b_if_eq rfl (fun c_73 => ?_) (fun c_73 => ?_)
              · exact absurd c_73 (by decide)
              · refine b_sipush rfl ?_
                exact b_ireturn rfl trivial ((by rw [hP]; exact ⟨by rw [if_neg y1, if_neg y2, if_neg y3, if_pos y4], rfl⟩))
            · exact absurd rfl c_60
          · exact absurd rfl c_47
        · exact absurd rfl c_34
      by_cases y5 : p_isS x 42
      · refine b_aload_n rfl rfl ?_
        refine b_bipush rfl ?_
        refine b_callV rfl rfl hk_Tape_isSign rfl rfl rfl (by first | rfl | assumption) rfl (Nat.le_of_ble_eq_true rfl) (q_Tape_isSign (c := 60) hh hx (by omega) hv) (Nat.le_of_ble_eq_true rfl) (fun r_31 D_31 q_31 => ?_)
        obtain ⟨b, rfl, hb, rfl⟩ := q_31
        rcases hb with ⟨hy, _⟩ | ⟨_, rfl⟩
        exact absurd hy y1
        refine b_if_eq rfl (fun c_34 => ?_) (fun c_34 => ?_)
        · refine b_aload_n rfl rfl ?_
          refine b_bipush rfl ?_
          refine b_callV rfl rfl hk_Tape_isSign rfl rfl rfl (by first | rfl | assumption) rfl (Nat.le_of_ble_eq_true rfl) (q_Tape_isSign (c := 61) hh hx (by omega) hv) (Nat.le_of_ble_eq_true rfl) (fun r_44 D_44 q_44 => ?_)
          obtain ⟨b, rfl, hb, rfl⟩ := q_44
          rcases hb with ⟨hy, _⟩ | ⟨_, rfl⟩
          exact absurd hy y2
          refine b_if_eq rfl (fun c_47 => ?_) (fun c_47 => ?_)
          · refine b_aload_n rfl rfl ?_
            refine b_bipush rfl ?_
            refine b_callV rfl rfl hk_Tape_isSign rfl rfl rfl (by first | rfl | assumption) rfl (Nat.le_of_ble_eq_true rfl) (q_Tape_isSign (c := 43) hh hx (by omega) hv) (Nat.le_of_ble_eq_true rfl) (fun r_57 D_57 q_57 => ?_)
            obtain ⟨b, rfl, hb, rfl⟩ := q_57
            rcases hb with ⟨hy, _⟩ | ⟨_, rfl⟩
            exact absurd hy y3
            refine b_if_eq rfl (fun c_60 => ?_) (fun c_60 => ?_)
            · refine b_aload_n rfl rfl ?_
              refine b_bipush rfl ?_
              refine b_callV rfl rfl hk_Tape_isSign rfl rfl rfl (by first | rfl | assumption) rfl (Nat.le_of_ble_eq_true rfl) (q_Tape_isSign (c := 45) hh hx (by omega) hv) (Nat.le_of_ble_eq_true rfl) (fun r_70 D_70 q_70 => ?_)
              obtain ⟨b, rfl, hb, rfl⟩ := q_70
              rcases hb with ⟨hy, _⟩ | ⟨_, rfl⟩
              exact absurd hy y4
              refine b_if_eq rfl (fun c_73 => ?_) (fun c_73 => ?_)
              · refine b_aload_n rfl rfl ?_
                refine b_bipush rfl ?_
                refine b_callV rfl rfl hk_Tape_isSign rfl rfl rfl (by first | rfl | assumption) rfl (Nat.le_of_ble_eq_true rfl) (q_Tape_isSign (c := 42) hh hx (by omega) hv) (Nat.le_of_ble_eq_true rfl) (fun r_83 D_83 q_83 => ?_)
                obtain ⟨b, rfl, hb, rfl⟩ := q_83
                rcases hb with ⟨_, rfl⟩ | ⟨hy, _⟩
                rotate_left
                exact absurd y5 hy
                refine b_if_eq rfl (fun c_86 => ?_) (fun c_86 => ?_)
                · exact absurd c_86 (by decide)
                · refine b_sipush rfl ?_
                  refine b_goto rfl ?_
                  exact b_ireturn rfl trivial ((by rw [hP]; exact ⟨by rw [if_neg y1, if_neg y2, if_neg y3, if_neg y4, if_pos y5], rfl⟩))
              · exact absurd rfl c_73
            · exact absurd rfl c_60
          · exact absurd rfl c_47
        · exact absurd rfl c_34
      refine b_aload_n rfl rfl ?_
      refine b_bipush rfl ?_
      refine b_callV rfl rfl hk_Tape_isSign rfl rfl rfl (by first | rfl | assumption) rfl (Nat.le_of_ble_eq_true rfl) (q_Tape_isSign (c := 60) hh hx (by omega) hv) (Nat.le_of_ble_eq_true rfl) (fun r_31 D_31 q_31 => ?_)
      obtain ⟨b, rfl, hb, rfl⟩ := q_31
      rcases hb with ⟨hy, _⟩ | ⟨_, rfl⟩
      exact absurd hy y1
      refine b_if_eq rfl (fun c_34 => ?_) (fun c_34 => ?_)
      · refine b_aload_n rfl rfl ?_
        refine b_bipush rfl ?_
        refine b_callV rfl rfl hk_Tape_isSign rfl rfl rfl (by first | rfl | assumption) rfl (Nat.le_of_ble_eq_true rfl) (q_Tape_isSign (c := 61) hh hx (by omega) hv) (Nat.le_of_ble_eq_true rfl) (fun r_44 D_44 q_44 => ?_)
        obtain ⟨b, rfl, hb, rfl⟩ := q_44
        rcases hb with ⟨hy, _⟩ | ⟨_, rfl⟩
        exact absurd hy y2
        refine b_if_eq rfl (fun c_47 => ?_) (fun c_47 => ?_)
        · refine b_aload_n rfl rfl ?_
          refine b_bipush rfl ?_
          refine b_callV rfl rfl hk_Tape_isSign rfl rfl rfl (by first | rfl | assumption) rfl (Nat.le_of_ble_eq_true rfl) (q_Tape_isSign (c := 43) hh hx (by omega) hv) (Nat.le_of_ble_eq_true rfl) (fun r_57 D_57 q_57 => ?_)
          obtain ⟨b, rfl, hb, rfl⟩ := q_57
          rcases hb with ⟨hy, _⟩ | ⟨_, rfl⟩
          exact absurd hy y3
          refine b_if_eq rfl (fun c_60 => ?_) (fun c_60 => ?_)
          · refine b_aload_n rfl rfl ?_
            refine b_bipush rfl ?_
            refine b_callV rfl rfl hk_Tape_isSign rfl rfl rfl (by first | rfl | assumption) rfl (Nat.le_of_ble_eq_true rfl) (q_Tape_isSign (c := 45) hh hx (by omega) hv) (Nat.le_of_ble_eq_true rfl) (fun r_70 D_70 q_70 => ?_)
            obtain ⟨b, rfl, hb, rfl⟩ := q_70
            rcases hb with ⟨hy, _⟩ | ⟨_, rfl⟩
            exact absurd hy y4
            refine b_if_eq rfl (fun c_73 => ?_) (fun c_73 => ?_)
            · refine b_aload_n rfl rfl ?_
              refine b_bipush rfl ?_
              refine b_callV rfl rfl hk_Tape_isSign rfl rfl rfl (by first | rfl | assumption) rfl (Nat.le_of_ble_eq_true rfl) (q_Tape_isSign (c := 42) hh hx (by omega) hv) (Nat.le_of_ble_eq_true rfl) (fun r_83 D_83 q_83 => ?_)
              obtain ⟨b, rfl, hb, rfl⟩ := q_83
              rcases hb with ⟨hy, _⟩ | ⟨_, rfl⟩
              exact absurd hy y5
              refine b_if_eq rfl (fun c_86 => ?_) (fun c_86 => ?_)
              · refine b_iconst rfl ?_
                exact b_ireturn rfl trivial ((by rw [hP]; exact ⟨by rw [if_neg y1, if_neg y2, if_neg y3, if_neg y4, if_neg y5], rfl⟩))
              · exact absurd rfl c_86
            · exact absurd rfl c_73
          · exact absurd rfl c_60
        · exact absurd rfl c_47
      · exact absurd rfl c_34
    refine b_aload_n rfl rfl ?_
    refine b_getR rfl (by first | rfl | assumption) rfl h5 ?_
    refine b_getsW rfl ?_
    refine b_acmp_eq rfl (by omega) (by omega) (fun c_7 => ?_) (fun c_7 => ?_)
    · exact absurd (Or.inl (show wx x = 20 by omega)) hw
    · refine b_aload_n rfl rfl ?_
      refine b_getR rfl (by first | rfl | assumption) rfl h5 ?_
      refine b_getsW rfl ?_
      refine b_acmp_ne rfl (by omega) (by omega) (fun c_17 => ?_) (fun c_17 => ?_)
      · exact S28
      · exact absurd (Or.inr (show wx x = 21 by omega)) hw
/-! the pile of operators that wait, the code (both the last first) -/
def lu_em (v : Int32) (C : List Int32) : List Int32 := if C.length < 1000 then v :: C else C
def lu_aw (v : Int32) (W : List Int32) : List Int32 := if W.length < 64 then v :: W else W
def hs_Lu (I : Nat → Nat → Int32) (t : Nat) (W : List Int32) (w o : Int32) (C : List Int32) : Prop := I (t + 6) 1 = nI C.length ∧ I (t + 6) 3 = nI W.length ∧ I (t + 6) 4 = w ∧ I (t + 6) 5 = o ∧ ev_in (I (t + 8)) W ∧ ev_in (I (t + 7)) C ∧ W.length ≤ 64 ∧ C.length ≤ 1000
def hs_l3 (I I2 : Nat → Nat → Int32) (t : Nat) : Prop := ∀ b, b ≠ t + 6 → b ≠ t + 7 → b ≠ t + 8 → I2 b = I b
theorem hs_l3_t {I2 : Nat → Nat → Int32} {t : Nat} (h : hs_l3 I I' t) (g : hs_l3 I' I2 t) : hs_l3 I I2 t := fun b h6 h7 h8 => (g b h6 h7 h8).trans (h b h6 h7 h8)
theorem q_Lu_emit {t : Nat} {v w o : Int32} {W C : List Int32} (hN : hs_Net R t) (hs : hs_Lu I t W w o C) : hn_F 0 hm_Lulls_emit [.ref (t + 6), .int v] (I, J, R) (fun r D' => r = none ∧ ∃ I2, D' = (I2, J, R) ∧ hs_l3 I I2 t ∧ hs_Lu I2 t W w o (lu_em v C)) := by
  have hs0 := hs
  obtain ⟨a1, a2, a3, a4, a5, a6, a7, a8⟩ := hs
  by_cases h : C.length < 1000
  · refine (q_Lulls_emit (v := v) hN a1 h).mono (fun r D' q => ?_)
    obtain ⟨rfl, rfl⟩ := q
    obtain ⟨I2, hI2⟩ : ∃ z, z = hn_u (hn_u I (t + 7) C.length v) (t + 6) 1 (nI (C.length + 1)) := ⟨_, rfl⟩
    have e6 : I2 (t + 6) = va_up (I (t + 6)) 1 (nI (C.length + 1)) := by rw [hI2, hn_u_eq, hn_u_ne _ _ _ (show t + 6 ≠ t + 7 by omega)]
    have e7 : I2 (t + 7) = va_up (I (t + 7)) C.length v := by rw [hI2, hn_u_ne _ _ _ (show t + 7 ≠ t + 6 by omega), hn_u_eq]
    have ef : ∀ b, b ≠ t + 6 → b ≠ t + 7 → I2 b = I b := fun b h6 h7 => by rw [hI2, hn_u_ne _ _ _ h6, hn_u_ne _ _ _ h7]
    have el : lu_em v C = v :: C := if_pos h
    rw [← hI2, el]
    refine ⟨rfl, I2, rfl, fun b h6 h7 _ => ef b h6 h7, ?_, ?_, ?_, ?_, ?_, ?_, a7, ?_⟩
    · rw [e6, va_up, if_pos rfl]; rfl
    · rw [e6, va_up, if_neg (by omega)]; exact a2
    · rw [e6, va_up, if_neg (by omega)]; exact a3
    · rw [e6, va_up, if_neg (by omega)]; exact a4
    · rw [ef _ (by omega) (by omega)]; exact a5
    · rw [e7]; exact ev_in_cons a6
    · show C.length + 1 ≤ 1000
      omega
  · have el : lu_em v C = C := if_neg h
    rw [el]
    refine hn_F_of _ hk_Lulls_emit rfl (Nat.le_of_ble_eq_true rfl) ?_
    obtain ⟨tt5, tn0, tn1, tn2, tn3, tn4, tn5, tn6, tn7, tn8, tn9, tn10, ts1, ts2, ts3, ts4, ts5, ts7, ts8, tl0, tl2, tl6, tl7⟩ := hN
    refine b_aload_n rfl rfl ?_
    refine b_getI rfl (by first | rfl | assumption) rfl ?_
    rw [a1]
    refine b_sipush rfl ?_
    refine b_icmp_ge rfl (fun c_7 => ?_) (fun c_7 => ?_)
    · exact b_return_ rfl trivial (⟨rfl, I, rfl, fun _ _ _ _ => rfl, hs0⟩)
    · exact absurd (nI_le (show 1000 ≤ C.length by omega) (by omega)) c_7
theorem q_Lu_await {t : Nat} {v w o : Int32} {W C : List Int32} (hN : hs_Net R t) (hs : hs_Lu I t W w o C) : hn_F 0 hm_Lulls_await [.ref (t + 6), .int v] (I, J, R) (fun r D' => r = none ∧ ∃ I2, D' = (I2, J, R) ∧ hs_l3 I I2 t ∧ hs_Lu I2 t (lu_aw v W) w o C) := by
  have hs0 := hs
  obtain ⟨a1, a2, a3, a4, a5, a6, a7, a8⟩ := hs
  by_cases h : W.length < 64
  · refine (q_Lulls_await (v := v) hN a2 h).mono (fun r D' q => ?_)
    obtain ⟨rfl, rfl⟩ := q
    obtain ⟨I2, hI2⟩ : ∃ z, z = hn_u (hn_u I (t + 8) W.length v) (t + 6) 3 (nI (W.length + 1)) := ⟨_, rfl⟩
    have e6 : I2 (t + 6) = va_up (I (t + 6)) 3 (nI (W.length + 1)) := by rw [hI2, hn_u_eq, hn_u_ne _ _ _ (show t + 6 ≠ t + 8 by omega)]
    have e8 : I2 (t + 8) = va_up (I (t + 8)) W.length v := by rw [hI2, hn_u_ne _ _ _ (show t + 8 ≠ t + 6 by omega), hn_u_eq]
    have ef : ∀ b, b ≠ t + 6 → b ≠ t + 8 → I2 b = I b := fun b h6 h7 => by rw [hI2, hn_u_ne _ _ _ h6, hn_u_ne _ _ _ h7]
    have el : lu_aw v W = v :: W := if_pos h
    rw [← hI2, el]
    refine ⟨rfl, I2, rfl, fun b h6 _ h8 => ef b h6 h8, ?_, ?_, ?_, ?_, ?_, ?_, ?_, a8⟩
    · rw [e6, va_up, if_neg (by omega)]; exact a1
    · rw [e6, va_up, if_pos rfl]; rfl
    · rw [e6, va_up, if_neg (by omega)]; exact a3
    · rw [e6, va_up, if_neg (by omega)]; exact a4
    · rw [e8]; exact ev_in_cons a5
    · rw [ef _ (by omega) (by omega)]; exact a6
    · show W.length + 1 ≤ 64
      omega
  · have el : lu_aw v W = W := if_neg h
    rw [el]
    refine hn_F_of _ hk_Lulls_await rfl (Nat.le_of_ble_eq_true rfl) ?_
    obtain ⟨tt5, tn0, tn1, tn2, tn3, tn4, tn5, tn6, tn7, tn8, tn9, tn10, ts1, ts2, ts3, ts4, ts5, ts7, ts8, tl0, tl2, tl6, tl7⟩ := hN
    refine b_aload_n rfl rfl ?_
    refine b_getI rfl (by first | rfl | assumption) rfl ?_
    rw [a2]
    refine b_bipush rfl ?_
    refine b_icmp_ge rfl (fun c_6 => ?_) (fun c_6 => ?_)
    · exact b_return_ rfl trivial (⟨rfl, I, rfl, fun _ _ _ _ => rfl, hs0⟩)
    · exact absurd (nI_le (show 64 ≤ W.length by omega) (by omega)) c_6
end HNoper
