section HNlulls
variable {I : Nat → Nat → Int32} {J : Nat → Nat → Int64} {R : Nat → Nat → Option Nat}
theorem q_Lulls_joined {c x y : Int32} (hc : 10005 ≤ c.toInt) : hn_F 0 hm_Lulls_joined [.int c, .int x, .int y] (I, J, R) (fun r D' => D' = (I, J, R) ∧ r = some (.int (ev_join c x y))) := by
  refine hn_F_of _ hk_Lulls_joined rfl (Nat.le_of_ble_eq_true rfl) ?_
  refine b_iload_n rfl rfl ?_
  have ec : ∀ z : Int32, c = z ↔ c.toInt = z.toInt := fun z => Int32.toInt_inj.symm
  by_cases h5 : c = 10005
  · subst h5
    refine b_tsw (q := 40) rfl rfl ?_
    refine b_iload_n rfl rfl ?_
    refine b_if_eq rfl (fun c_41 => ?_) (fun c_41 => ?_)
    · refine b_iconst rfl ?_
      exact b_ireturn rfl trivial (⟨rfl, by simp [ev_join, *]⟩)
    · refine b_iload_n rfl rfl ?_
      refine b_if_eq rfl (fun c_45 => ?_) (fun c_45 => ?_)
      · refine b_iconst rfl ?_
        exact b_ireturn rfl trivial (⟨rfl, by simp [ev_join, *]⟩)
      · refine b_iconst rfl ?_
        refine b_goto rfl ?_
        exact b_ireturn rfl trivial (⟨rfl, by simp [ev_join, *]⟩)
  by_cases h6 : c = 10006
  · subst h6
    refine b_tsw (q := 54) rfl rfl ?_
    refine b_iload_n rfl rfl ?_
    refine b_if_ne rfl (fun c_55 => ?_) (fun c_55 => ?_)
    · refine b_iconst rfl ?_
      refine b_goto rfl ?_
      exact b_ireturn rfl trivial (⟨rfl, by simp [ev_join, *]⟩)
    · refine b_iload_n rfl rfl ?_
      refine b_if_eq rfl (fun c_59 => ?_) (fun c_59 => ?_)
      · refine b_iconst rfl ?_
        exact b_ireturn rfl trivial (⟨rfl, by simp [ev_join, *]⟩)
      · refine b_iconst rfl ?_
        refine b_goto rfl ?_
        exact b_ireturn rfl trivial (⟨rfl, by simp [ev_join, *]⟩)
  by_cases h7 : c = 10007
  · subst h7
    refine b_tsw (q := 68) rfl rfl ?_
    refine b_iload_n rfl rfl ?_
    refine b_iload_n rfl rfl ?_
    refine b_icmp_ge rfl (fun c_70 => ?_) (fun c_70 => ?_)
    · refine b_iconst rfl ?_
      exact b_ireturn rfl trivial (⟨rfl, by first | (rw [show ev_join 10007 x y = if x < y then 1 else 0 from rfl, if_neg (Int32.not_lt.mpr c_70)]) | (rw [show ev_join 10007 x y = if x < y then 1 else 0 from rfl, if_pos (Int32.not_le.mp c_70)])⟩)
    · refine b_iconst rfl ?_
      refine b_goto rfl ?_
      exact b_ireturn rfl trivial (⟨rfl, by first | (rw [show ev_join 10007 x y = if x < y then 1 else 0 from rfl, if_neg (Int32.not_lt.mpr c_70)]) | (rw [show ev_join 10007 x y = if x < y then 1 else 0 from rfl, if_pos (Int32.not_le.mp c_70)])⟩)
  by_cases h8 : c = 10008
  · subst h8
    refine b_tsw (q := 79) rfl rfl ?_
    refine b_iload_n rfl rfl ?_
    refine b_iload_n rfl rfl ?_
    refine b_icmp_ne rfl (fun c_81 => ?_) (fun c_81 => ?_)
    · refine b_iconst rfl ?_
      exact b_ireturn rfl trivial (⟨rfl, by simp [ev_join, *]⟩)
    · refine b_iconst rfl ?_
      refine b_goto rfl ?_
      exact b_ireturn rfl trivial (⟨rfl, by simp [ev_join, *]⟩)
  by_cases h9 : c = 10009
  · subst h9
    refine b_tsw (q := 90) rfl rfl ?_
    refine b_iload_n rfl rfl ?_
    refine b_iload_n rfl rfl ?_
    refine b_iadd rfl ?_
    exact b_ireturn rfl trivial (⟨rfl, rfl⟩)
  by_cases h10 : c = 10010
  · subst h10
    refine b_tsw (q := 94) rfl rfl ?_
    refine b_iload_n rfl rfl ?_
    refine b_iload_n rfl rfl ?_
    refine b_isub rfl ?_
    exact b_ireturn rfl trivial (⟨rfl, rfl⟩)
  have hbig : 10010 < c.toInt := by
    rw [ec] at h5 h6 h7 h8 h9 h10
    rw [show (10005 : Int32).toInt = 10005 from rfl] at h5
    rw [show (10006 : Int32).toInt = 10006 from rfl] at h6
    rw [show (10007 : Int32).toInt = 10007 from rfl] at h7
    rw [show (10008 : Int32).toInt = 10008 from rfl] at h8
    rw [show (10009 : Int32).toInt = 10009 from rfl] at h9
    rw [show (10010 : Int32).toInt = 10010 from rfl] at h10
    omega
  refine b_tsw (q := 98) rfl (by rw [if_pos (Or.inr hbig)]; rfl) ?_
  refine b_iload_n rfl rfl ?_
  refine b_iload_n rfl rfl ?_
  refine b_imul rfl ?_
  exact b_ireturn rfl trivial (⟨rfl, by simp only [ev_join, h5, h6, h7, h8, h9, h10, if_false]⟩)
/-- the pile in a row: the list, its top first, lies below the top -/
def ev_in (row : Nat → Int32) (st : List Int32) : Prop := ∀ i, i < st.length → row i = st.getD (st.length - 1 - i) 0
theorem ev_in_cons {row : Nat → Int32} {st : List Int32} {v : Int32} (h : ev_in row st) : ev_in (va_up row st.length v) (v :: st) := by
  intro i hi
  simp only [List.length_cons] at hi ⊢
  by_cases hl : i = st.length
  · subst hl
    simp [va_up]
  · rw [va_up, if_neg hl, h i (by omega), show st.length + 1 - 1 - i = (st.length - 1 - i) + 1 by omega, List.getD_cons_succ]
theorem ev_in_top {row : Nat → Int32} {st : List Int32} {v : Int32} (h : ev_in row (v :: st)) : row st.length = v := by
  have := h st.length (by simp)
  simpa using this
theorem ev_in_tail {row : Nat → Int32} {st : List Int32} {v : Int32} (h : ev_in row (v :: st)) : ev_in row st := by
  intro i hi
  have := h i (by simp; omega)
  simp only [List.length_cons] at this
  rw [this, show st.length + 1 - 1 - i = (st.length - 1 - i) + 1 by omega, List.getD_cons_succ]
/-- what the law is told to be, and how deep its pile grows -/
theorem ev_fact_at {h m y o cd : Int32} {f : Nat → Int32} {j : Nat} (hf : f 0 = h ∧ f 1 = m ∧ f 2 = y ∧ f 3 = o) (hc : 10000 ≤ cd) (hj : cd.toInt = 10000 + (j : Int)) (h4 : j < 4) : f j = (if cd < 10000 then cd else ev_fact h m y o cd) := by
  rw [if_neg (Int32.not_lt.mpr hc)]
  have e : ∀ z : Int32, z.toInt = cd.toInt → cd = z := fun z hz => hi_eq hz.symm
  rcases (show j = 0 ∨ j = 1 ∨ j = 2 ∨ j = 3 by omega) with rfl | rfl | rfl | rfl
  · rw [e 10000 (by rw [hj]; rfl), hf.1]; rfl
  · rw [e 10001 (by rw [hj]; rfl), hf.2.1]; rfl
  · rw [e 10002 (by rw [hj]; rfl), hf.2.2.1]; rfl
  · rw [e 10003 (by rw [hj]; rfl), hf.2.2.2]; rfl
/-- what the law is told to be, and how deep its pile grows -/
def hs_code (I : Nat → Nat → Int32) (t sz : Nat) : Prop := I (t + 6) 1 = nI sz ∧ sz ≤ 1000 ∧ ∀ i, i ≤ sz → ev_ln (I (t + 7)) i ≤ 64
def hs_lf (I : Nat → Nat → Int32) (t sz : Nat) : Int32 → Int32 → Int32 → Int32 → Int32 := fun h m y o => ev_val h m y o (I (t + 7)) sz
theorem q_Lulls_value {t sz : Nat} {h m y o : Int32} (ht : hs_Net R t) (hc : hs_code I t sz) : hn_F 2 hm_Lulls_value [.ref (t + 6), .int h, .int m, .int y, .int o] (I, J, R) (fun r D' => hs_fr I J R D' (fun b => b = t + 9 ∨ b = t + 10) ∧ r = some (.int (hs_lf I t sz h m y o))) := by
  obtain ⟨ht5, n0, n1, n2, n3, n4, n5, n6, n7, n8, n9, n10, s1, s2, s3, s4, s5, s7, s8, l0, l2, l6, l7⟩ := ht
  obtain ⟨hc1, hc2, hc3⟩ := hc
  refine hn_F_of _ hk_Lulls_value rfl (Nat.le_of_ble_eq_true rfl) ?_
  obtain ⟨P, hPd⟩ : ∃ P : Option Value → hnD → Prop, P = (fun r D' => hs_fr I J R D' (fun b => b = t + 9 ∨ b = t + 10) ∧ r = some (.int (hs_lf I t sz h m y o))) := ⟨_, rfl⟩
  rw [← hPd]
  have e64 : (63 : Int32).toInt = 63 := by decide
  have e04 : (10004 : Int32).toInt = 10004 := by decide
  have e00 : (10000 : Int32).toInt = 10000 := by decide
  have loop : ∀ (I' : Nat → Nat → Int32) (x : Int32), (∀ b, ¬ (b = t + 9 ∨ b = t + 10) → I' b = I b) → (I' (t + 10) 0 = h ∧ I' (t + 10) 1 = m ∧ I' (t + 10) 2 = y ∧ I' (t + 10) 3 = o) → x.toInt = -1 → ev_in (I' (t + 9)) [] → hn_B 2 hm_Lulls_value P 35 [.ref (t + 6), .int h, .int m, .int y, .int o, .int x, .int (nI 0), .null] [] (I', J, R) := by
    refine sp_ind sz (fun i => ∀ (I' : Nat → Nat → Int32) (x : Int32), (∀ b, ¬ (b = t + 9 ∨ b = t + 10) → I' b = I b) → (I' (t + 10) 0 = h ∧ I' (t + 10) 1 = m ∧ I' (t + 10) 2 = y ∧ I' (t + 10) 3 = o) → x.toInt = ((ev h m y o (I (t + 7)) i).length : Int) - 1 → ev_in (I' (t + 9)) (ev h m y o (I (t + 7)) i) → hn_B 2 hm_Lulls_value P 35 [.ref (t + 6), .int h, .int m, .int y, .int o, .int x, .int (nI i), .null] [] (I', J, R)) ?_ ?_
    · intro I' x hf hfa hx hin
      have e6 : I' (t + 6) 1 = nI sz := by rw [hf _ (by omega)]; exact hc1
      have hfr : hs_fr I J R (I', J, R) (fun b => b = t + 9 ∨ b = t + 10) := ⟨rfl, rfl, hf⟩
      have hval : hs_lf I t sz h m y o = match ev h m y o (I (t + 7)) sz with | [] => 1 | x :: _ => x := rfl
      have hlen := ev_len h m y o (I (t + 7)) sz
      have hle := hc3 sz (Nat.le_refl _)
      rw [← hlen] at hle
      generalize ev h m y o (I (t + 7)) sz = st at hx hin hle hval
      cases st with
      | nil =>
        have hx : x.toInt = -1 := by simpa using hx
        refine b_iload rfl rfl ?_
        refine b_aload_n rfl rfl ?_
        refine b_getI rfl (by first | rfl | assumption) rfl ?_
        refine b_icmp_ge rfl (fun c_41 => ?_) (fun c_41 => ?_)
        · refine b_iload rfl rfl ?_
          refine b_if_lt rfl (fun c_189 => ?_) (fun c_189 => ?_)
          · refine b_iconst rfl ?_
            exact b_ireturn rfl trivial ((by rw [hPd]; exact ⟨hfr, by rw [hval]⟩))
          · exact absurd ((hi_lt hx hi_t0).mpr (by omega)) c_189
        · exact absurd (by rw [e6]; exact nI_le (Nat.le_refl _) (by omega)) c_41
      | cons v st =>
        have hx : x.toInt = (st.length : Int) := by rw [hx]; simp
        have htop := ev_in_top hin
        simp only [List.length_cons] at hle
        refine b_iload rfl rfl ?_
        refine b_aload_n rfl rfl ?_
        refine b_getI rfl (by first | rfl | assumption) rfl ?_
        refine b_icmp_ge rfl (fun c_41 => ?_) (fun c_41 => ?_)
        · refine b_iload rfl rfl ?_
          refine b_if_lt rfl (fun c_189 => ?_) (fun c_189 => ?_)
          · exact absurd c_189 (fun z => by have := (hi_lt hx hi_t0).mp z; omega)
          · refine b_aload_n rfl rfl ?_
            refine b_getR rfl (by first | rfl | assumption) rfl (by assumption) ?_
            refine b_iload rfl rfl ?_
            refine b_iaload rfl (by first | rfl | assumption) hx (by omega) ?_
            refine b_goto rfl ?_
            exact b_ireturn rfl trivial ((by rw [hPd]; exact ⟨hfr, by rw [hval, ← htop]⟩))
        · exact absurd (by rw [e6]; exact nI_le (Nat.le_refl _) (by omega)) c_41
    · intro i hi ih I' x hf hfa hx hin
      have e6 : I' (t + 6) 1 = nI sz := by rw [hf _ (by omega)]; exact hc1
      have e7 : I' (t + 7) i = I (t + 7) i := by rw [hf _ (by omega)]
      have es : ev h m y o (I (t + 7)) (i + 1) = ev_step h m y o (I (t + 7) i) (ev h m y o (I (t + 7)) i) := rfl
      have hlen := ev_len h m y o (I (t + 7)) i
      have hlen1 := ev_len h m y o (I (t + 7)) (i + 1)
      have hle := hc3 i (by omega)
      have hle1 := hc3 (i + 1) (by omega)
      rw [← hlen] at hle
      rw [← hlen1] at hle1
      rw [es] at ih hle1
      generalize ev h m y o (I (t + 7)) i = st at hx hin hle ih hle1
      generalize hcd : I (t + 7) i = cd at e7 ih hle1
      have dd : ∀ z, ¬ (z = t + 9 ∨ z = t + 10) → ∀ j v, hn_u I' (t + 9) j v z = I z := fun z hz j v => by rw [hn_u_ne _ _ _ (fun e => hz (Or.inl e))]; exact hf z hz
      have df : ∀ j v q, hn_u I' (t + 9) j v (t + 10) q = I' (t + 10) q := fun j v q => by rw [hn_u_ne _ _ _ (by omega)]
      by_cases h1 : cd < 10004
      · have hst : ev_step h m y o cd st = (if cd < 10000 then cd else ev_fact h m y o cd) :: st := by simp only [ev_step, if_pos h1]
        rw [hst] at ih hle1
        simp only [List.length_cons] at hle1
        have hu1 : ((st.length : Int) - 1) + 1 = (st.length : Int) := by omega
        obtain ⟨x1, hx1e, hx1⟩ : ∃ z, z = x + 1 ∧ z.toInt = (st.length : Int) := ⟨_, rfl, by rw [hi_inc hx (by omega) (by omega), hu1]⟩
        have hm : (if (63 : Int32) < x1 then 63 else x1) = x1 := if_neg (fun z => by have := (hi_lt e64 hx1).mp z; omega)
        have hI : ∀ v, v = (if cd < 10000 then cd else ev_fact h m y o cd) → hn_B 2 hm_Lulls_value P 35 [.ref (t + 6), .int h, .int m, .int y, .int o, .int x1, .int (nI (i + 1)), .null] [] (hn_u I' (t + 9) st.length v, J, R) := by
          intro v hv
          refine ih _ _ (fun z hz => dd z hz _ _) ⟨by rw [df]; exact hfa.1, by rw [df]; exact hfa.2.1, by rw [df]; exact hfa.2.2.1, by rw [df]; exact hfa.2.2.2⟩ (by rw [hx1]; simp) ?_
          rw [hn_u_eq, ← hv]
          exact ev_in_cons hin
        refine b_iload rfl rfl ?_
        refine b_aload_n rfl rfl ?_
        refine b_getI rfl (by first | rfl | assumption) rfl ?_
        refine b_icmp_ge rfl (fun c_41 => ?_) (fun c_41 => ?_)
        · exact absurd (by rw [← e6]; exact c_41) (nI_ge hi (by omega))
        · refine b_aload_n rfl rfl ?_
          refine b_getR rfl (by first | rfl | assumption) rfl (by assumption) ?_
          refine b_iload rfl rfl ?_
          refine b_iaload rfl (by first | rfl | assumption) (by first | assumption | exact nI_toInt (by omega) | exact hi_l0 | exact hi_l1 | exact hi_l2 | exact hi_l3 | exact hi_l4 | exact hi_l5 | exact hi_l6) (by omega) ?_
          refine b_istore rfl (Nat.le_of_ble_eq_true rfl) ?_
          rw [e7]
          refine b_iload rfl rfl ?_
          refine b_sipush rfl ?_
          refine b_icmp_ge rfl (fun c_58 => ?_) (fun c_58 => ?_)
          · exact absurd c_58 (Int32.not_le.mpr h1)
          · refine b_iload rfl rfl ?_
            refine b_iconst rfl ?_
            refine b_iadd rfl ?_
            rw [← hx1e]
            refine b_bipush rfl ?_
            refine b_mmin rfl rfl (by decide) (Nat.le_of_ble_eq_true rfl) ?_
            rw [hm]
            refine b_istore rfl (Nat.le_of_ble_eq_true rfl) ?_
            refine b_aload_n rfl rfl ?_
            refine b_getR rfl (by first | rfl | assumption) rfl (by assumption) ?_
            refine b_iload rfl rfl ?_
            refine b_iload rfl rfl ?_
            refine b_sipush rfl ?_
            refine b_icmp_ge rfl (fun c_83 => ?_) (fun c_83 => ?_)
            · refine b_aload_n rfl rfl ?_
              refine b_getR rfl (by first | rfl | assumption) rfl (by assumption) ?_
              refine b_iload rfl rfl ?_
              refine b_sipush rfl ?_
              refine b_isub rfl ?_
              have hcx : (cd - 10000).toInt = cd.toInt - 10000 := hi_subc rfl e00 (by have := (hi_le e00 rfl).mp c_83; omega) (by have := (hi_lt rfl e04).mp h1; omega)
              obtain ⟨j, hj, hj4⟩ : ∃ j : Nat, cd.toInt = 10000 + (j : Int) ∧ j < 4 := ⟨(cd.toInt - 10000).toNat, by have := (hi_le e00 rfl).mp c_83; omega, by have := (hi_lt rfl e04).mp h1; omega⟩
              have hv : I' (t + 10) j = (if cd < 10000 then cd else ev_fact h m y o cd) := ev_fact_at hfa c_83 hj hj4
              refine b_iaload rfl (by first | rfl | assumption) (show _ = ((j : Nat) : Int) by rw [hcx, hj]; omega) (by omega) ?_
              refine b_iastore rfl (by first | rfl | assumption) hx1 (by omega) ?_
              refine b_goto rfl ?_
              refine b_iinc rfl rfl (Nat.le_of_ble_eq_true rfl) ?_
              refine b_goto rfl ?_
              first | exact b_lp (hI _ hv) (le_e (le_e (le_e (le_e (le_e (le_e (le_q (by rw [nI_succ]) (le_n le_0)))))))) rfl rfl | exact b_lp (hI cd (by rw [if_pos (Int32.not_le.mp c_83)])) (le_e (le_e (le_e (le_e (le_e (le_e (le_q (by rw [nI_succ]) (le_n le_0)))))))) rfl rfl
            · refine b_iload rfl rfl ?_
              refine b_goto rfl ?_
              refine b_iastore rfl (by first | rfl | assumption) hx1 (by omega) ?_
              refine b_goto rfl ?_
              refine b_iinc rfl rfl (Nat.le_of_ble_eq_true rfl) ?_
              refine b_goto rfl ?_
              first | exact b_lp (hI _ hv) (le_e (le_e (le_e (le_e (le_e (le_e (le_q (by rw [nI_succ]) (le_n le_0)))))))) rfl rfl | exact b_lp (hI cd (by rw [if_pos (Int32.not_le.mp c_83)])) (le_e (le_e (le_e (le_e (le_e (le_e (le_q (by rw [nI_succ]) (le_n le_0)))))))) rfl rfl
      · have h1g : 10004 ≤ cd.toInt := by have := mt (hi_lt rfl e04).mpr h1; omega
        by_cases h2 : cd = 10004
        · cases st with
          | nil =>
            have hx0 : x.toInt = -1 := by simpa using hx
            have hst : ev_step h m y o cd [] = [] := by simp only [ev_step, if_neg h1, if_pos h2]
            rw [hst] at ih
            refine b_iload rfl rfl ?_
            refine b_aload_n rfl rfl ?_
            refine b_getI rfl (by first | rfl | assumption) rfl ?_
            refine b_icmp_ge rfl (fun c_41 => ?_) (fun c_41 => ?_)
            · exact absurd (by rw [← e6]; exact c_41) (nI_ge hi (by omega))
            · refine b_aload_n rfl rfl ?_
              refine b_getR rfl (by first | rfl | assumption) rfl (by assumption) ?_
              refine b_iload rfl rfl ?_
              refine b_iaload rfl (by first | rfl | assumption) (by first | assumption | exact nI_toInt (by omega) | exact hi_l0 | exact hi_l1 | exact hi_l2 | exact hi_l3 | exact hi_l4 | exact hi_l5 | exact hi_l6) (by omega) ?_
              refine b_istore rfl (Nat.le_of_ble_eq_true rfl) ?_
              rw [e7]
              refine b_iload rfl rfl ?_
              refine b_sipush rfl ?_
              refine b_icmp_ge rfl (fun c_58 => ?_) (fun c_58 => ?_)
              · refine b_iload rfl rfl ?_
                refine b_sipush rfl ?_
                refine b_icmp_ne rfl (fun c_111 => ?_) (fun c_111 => ?_)
                · exact absurd h2 c_111
                · refine b_iload rfl rfl ?_
                  refine b_if_lt rfl (fun c_116 => ?_) (fun c_116 => ?_)
                  · refine b_iload rfl rfl ?_
                    refine b_iconst rfl ?_
                    refine b_icmp_lt rfl (fun c_147 => ?_) (fun c_147 => ?_)
                    · refine b_iinc rfl rfl (Nat.le_of_ble_eq_true rfl) ?_
                      refine b_goto rfl ?_
                      exact b_lp (ih I' x hf hfa hx hin) (le_e (le_e (le_e (le_e (le_e (le_e (le_q (by rw [nI_succ]) (le_n le_0)))))))) rfl rfl
                    · exact absurd ((hi_lt hx0 hi_t1).mpr (by omega)) c_147
                  · exact absurd ((hi_lt hx0 hi_t0).mpr (by omega)) c_116
              · exact absurd (Int32.not_le.mp c_58) h1
          | cons v st =>
            have hx0 : x.toInt = (st.length : Int) := by rw [hx]; simp
            have hst : ev_step h m y o cd (v :: st) = (if v = 0 then 1 else 0) :: st := by simp only [ev_step, if_neg h1, if_pos h2]
            rw [hst] at ih hle1
            simp only [List.length_cons] at hle1
            have htop := ev_in_top hin
            have hI : ∀ w, w = (if v = 0 then 1 else 0) → hn_B 2 hm_Lulls_value P 35 [.ref (t + 6), .int h, .int m, .int y, .int o, .int x, .int (nI (i + 1)), .null] [] (hn_u I' (t + 9) st.length w, J, R) := by
              intro w hw
              refine ih _ _ (fun z hz => dd z hz _ _) ⟨by rw [df]; exact hfa.1, by rw [df]; exact hfa.2.1, by rw [df]; exact hfa.2.2.1, by rw [df]; exact hfa.2.2.2⟩ (by rw [hx0]; simp) ?_
              rw [hn_u_eq, ← hw]
              exact ev_in_cons (ev_in_tail hin)
            refine b_iload rfl rfl ?_
            refine b_aload_n rfl rfl ?_
            refine b_getI rfl (by first | rfl | assumption) rfl ?_
            refine b_icmp_ge rfl (fun c_41 => ?_) (fun c_41 => ?_)
            · exact absurd (by rw [← e6]; exact c_41) (nI_ge hi (by omega))
            · refine b_aload_n rfl rfl ?_
              refine b_getR rfl (by first | rfl | assumption) rfl (by assumption) ?_
              refine b_iload rfl rfl ?_
              refine b_iaload rfl (by first | rfl | assumption) (by first | assumption | exact nI_toInt (by omega) | exact hi_l0 | exact hi_l1 | exact hi_l2 | exact hi_l3 | exact hi_l4 | exact hi_l5 | exact hi_l6) (by omega) ?_
              refine b_istore rfl (Nat.le_of_ble_eq_true rfl) ?_
              rw [e7]
              refine b_iload rfl rfl ?_
              refine b_sipush rfl ?_
              refine b_icmp_ge rfl (fun c_58 => ?_) (fun c_58 => ?_)
              · refine b_iload rfl rfl ?_
                refine b_sipush rfl ?_
                refine b_icmp_ne rfl (fun c_111 => ?_) (fun c_111 => ?_)
                · exact absurd h2 c_111
                · refine b_iload rfl rfl ?_
                  refine b_if_lt rfl (fun c_116 => ?_) (fun c_116 => ?_)
                  · exact absurd c_116 (fun z => by have := (hi_lt hx0 hi_t0).mp z; omega)
                  · refine b_aload_n rfl rfl ?_
                    refine b_getR rfl (by first | rfl | assumption) rfl (by assumption) ?_
                    refine b_iload rfl rfl ?_
                    refine b_aload_n rfl rfl ?_
                    refine b_getR rfl (by first | rfl | assumption) rfl (by assumption) ?_
                    refine b_iload rfl rfl ?_
                    refine b_iaload rfl (by first | rfl | assumption) hx0 (by omega) ?_
                    rw [htop]
                    refine b_if_ne rfl (fun c_132 => ?_) (fun c_132 => ?_)
                    · refine b_iconst rfl ?_
                      refine b_iastore rfl (by first | rfl | assumption) hx0 (by omega) ?_
                      refine b_goto rfl ?_
                      refine b_iinc rfl rfl (Nat.le_of_ble_eq_true rfl) ?_
                      refine b_goto rfl ?_
                      exact b_lp (hI _ (by simp [c_132])) (le_e (le_e (le_e (le_e (le_e (le_e (le_q (by rw [nI_succ]) (le_n le_0)))))))) rfl rfl
                    · refine b_iconst rfl ?_
                      refine b_goto rfl ?_
                      refine b_iastore rfl (by first | rfl | assumption) hx0 (by omega) ?_
                      refine b_goto rfl ?_
                      refine b_iinc rfl rfl (Nat.le_of_ble_eq_true rfl) ?_
                      refine b_goto rfl ?_
                      exact b_lp (hI _ (by simp [c_132])) (le_e (le_e (le_e (le_e (le_e (le_e (le_q (by rw [nI_succ]) (le_n le_0)))))))) rfl rfl
              · exact absurd (Int32.not_le.mp c_58) h1
        · have h2g : 10005 ≤ cd.toInt := by
            have : ¬ cd.toInt = 10004 := fun z => h2 (hi_eq (by rw [z]; rfl))
            omega
          have hskip : ∀ st : List Int32, st.length ≤ 1 → ev_step h m y o cd st = st := by
            intro st hs
            simp only [ev_step, if_neg h1, if_neg h2]
            rcases st with - | ⟨b, - | ⟨a, u⟩⟩
            · rfl
            · rfl
            · simp at hs
          by_cases h3 : st.length ≤ 1
          · rw [hskip st h3] at ih
            refine b_iload rfl rfl ?_
            refine b_aload_n rfl rfl ?_
            refine b_getI rfl (by first | rfl | assumption) rfl ?_
            refine b_icmp_ge rfl (fun c_41 => ?_) (fun c_41 => ?_)
            · exact absurd (by rw [← e6]; exact c_41) (nI_ge hi (by omega))
            · refine b_aload_n rfl rfl ?_
              refine b_getR rfl (by first | rfl | assumption) rfl (by assumption) ?_
              refine b_iload rfl rfl ?_
              refine b_iaload rfl (by first | rfl | assumption) (by first | assumption | exact nI_toInt (by omega) | exact hi_l0 | exact hi_l1 | exact hi_l2 | exact hi_l3 | exact hi_l4 | exact hi_l5 | exact hi_l6) (by omega) ?_
              refine b_istore rfl (Nat.le_of_ble_eq_true rfl) ?_
              rw [e7]
              refine b_iload rfl rfl ?_
              refine b_sipush rfl ?_
              refine b_icmp_ge rfl (fun c_58 => ?_) (fun c_58 => ?_)
              · refine b_iload rfl rfl ?_
                refine b_sipush rfl ?_
                refine b_icmp_ne rfl (fun c_111 => ?_) (fun c_111 => ?_)
                · refine b_iload rfl rfl ?_
                  refine b_iconst rfl ?_
                  refine b_icmp_lt rfl (fun c_147 => ?_) (fun c_147 => ?_)
                  · refine b_iinc rfl rfl (Nat.le_of_ble_eq_true rfl) ?_
                    refine b_goto rfl ?_
                    exact b_lp (ih I' x hf hfa hx hin) (le_e (le_e (le_e (le_e (le_e (le_e (le_q (by rw [nI_succ]) (le_n le_0)))))))) rfl rfl
                  · exact absurd ((hi_lt hx hi_t1).mpr (by omega)) c_147
                · exact absurd c_111 h2
              · exact absurd (Int32.not_le.mp c_58) h1
          · obtain ⟨b, a, u, rfl⟩ : ∃ b a u, st = b :: a :: u := by
              rcases st with - | ⟨b, - | ⟨a, u⟩⟩
              · simp at h3
              · simp at h3
              · exact ⟨b, a, u, rfl⟩
            have hx0 : x.toInt = (u.length : Int) + 1 := by rw [hx]; simp only [List.length_cons]; omega
            have hst : ev_step h m y o cd (b :: a :: u) = ev_join cd a b :: u := by simp only [ev_step, if_neg h1, if_neg h2]
            rw [hst] at ih hle1
            simp only [List.length_cons] at hle1 hle
            have hb := ev_in_top hin
            have ha := ev_in_top (ev_in_tail hin)
            simp only [List.length_cons] at hb
            have hu1 : (-2147483648 : Int) ≤ (u.length : Int) := by omega
            have hu2 : (u.length : Int) < 2147483647 := by omega
            have hu3 : (u.length : Int) + 1 = ((u.length + 1 : Nat) : Int) := by omega
            have hu4 : (u.length : Int) + 1 - 1 = (u.length : Int) := by omega
            have hu5 : u.length < 64 := by omega
            have hu6 : u.length + 1 < 64 := by omega
            have hu7 : ¬ (u.length : Int) + 1 < 1 := by omega
            obtain ⟨x1, hx1e, hx1⟩ : ∃ z, z = x + (-1) ∧ z.toInt = (u.length : Int) := ⟨_, rfl, by rw [hi_dec hx0 (by omega) (by omega), hu4]⟩
            obtain ⟨x2, hx2e, hx2⟩ : ∃ z, z = x1 + 1 ∧ z.toInt = ((u.length + 1 : Nat) : Int) := ⟨_, rfl, by rw [hi_inc hx1 hu1 hu2, hu3]⟩
            have hI : hn_B 2 hm_Lulls_value P 35 [.ref (t + 6), .int h, .int m, .int y, .int o, .int x1, .int (nI (i + 1)), .null] [] (hn_u I' (t + 9) u.length (ev_join cd a b), J, R) := by
              refine ih _ _ (fun z hz => dd z hz _ _) ⟨by rw [df]; exact hfa.1, by rw [df]; exact hfa.2.1, by rw [df]; exact hfa.2.2.1, by rw [df]; exact hfa.2.2.2⟩ (by rw [hx1]; simp) ?_
              rw [hn_u_eq]
              exact ev_in_cons (ev_in_tail (ev_in_tail hin))
            refine b_iload rfl rfl ?_
            refine b_aload_n rfl rfl ?_
            refine b_getI rfl (by first | rfl | assumption) rfl ?_
            refine b_icmp_ge rfl (fun c_41 => ?_) (fun c_41 => ?_)
            · exact absurd (by rw [← e6]; exact c_41) (nI_ge hi (by omega))
            · refine b_aload_n rfl rfl ?_
              refine b_getR rfl (by first | rfl | assumption) rfl (by assumption) ?_
              refine b_iload rfl rfl ?_
              refine b_iaload rfl (by first | rfl | assumption) (by first | assumption | exact nI_toInt (by omega) | exact hi_l0 | exact hi_l1 | exact hi_l2 | exact hi_l3 | exact hi_l4 | exact hi_l5 | exact hi_l6) (by omega) ?_
              refine b_istore rfl (Nat.le_of_ble_eq_true rfl) ?_
              rw [e7]
              refine b_iload rfl rfl ?_
              refine b_sipush rfl ?_
              refine b_icmp_ge rfl (fun c_58 => ?_) (fun c_58 => ?_)
              · refine b_iload rfl rfl ?_
                refine b_sipush rfl ?_
                refine b_icmp_ne rfl (fun c_111 => ?_) (fun c_111 => ?_)
                · refine b_iload rfl rfl ?_
                  refine b_iconst rfl ?_
                  refine b_icmp_lt rfl (fun c_147 => ?_) (fun c_147 => ?_)
                  · exact absurd c_147 (fun z => hu7 ((hi_lt hx0 hi_t1).mp z))
                  · refine b_iinc rfl rfl (Nat.le_of_ble_eq_true rfl) ?_
                    rw [← hx1e]
                    refine b_aload_n rfl rfl ?_
                    refine b_getR rfl (by first | rfl | assumption) rfl (by assumption) ?_
                    refine b_iload rfl rfl ?_
                    refine b_iload rfl rfl ?_
                    refine b_aload_n rfl rfl ?_
                    refine b_getR rfl (by first | rfl | assumption) rfl (by assumption) ?_
                    refine b_iload rfl rfl ?_
                    refine b_iaload rfl (by first | rfl | assumption) hx1 (by omega) ?_
                    refine b_aload_n rfl rfl ?_
                    refine b_getR rfl (by first | rfl | assumption) rfl (by assumption) ?_
                    refine b_iload rfl rfl ?_
                    refine b_iconst rfl ?_
                    refine b_iadd rfl ?_
                    rw [← hx2e]
                    refine b_iaload rfl (by first | rfl | assumption) hx2 (by omega) ?_
                    rw [ha, hb]
                    refine b_callS rfl rfl hk_Lulls_joined rfl rfl rfl (Nat.le_of_ble_eq_true rfl) (q_Lulls_joined h2g) (Nat.le_of_ble_eq_true rfl) (fun r_177 D_177 q_177 => ?_)
                    obtain ⟨rfl, rfl⟩ := q_177
                    refine b_iastore rfl (by first | rfl | assumption) hx1 (by omega) ?_
                    refine b_iinc rfl rfl (Nat.le_of_ble_eq_true rfl) ?_
                    refine b_goto rfl ?_
                    exact b_lp hI (le_e (le_e (le_e (le_e (le_e (le_e (le_q (by rw [nI_succ]) (le_n le_0)))))))) rfl rfl
                · exact absurd c_111 h2
              · exact absurd (Int32.not_le.mp c_58) h1
  refine b_aload_n rfl rfl ?_
  refine b_getR rfl (by first | rfl | assumption) rfl (by assumption) ?_
  refine b_iconst rfl ?_
  refine b_iload_n rfl rfl ?_
  refine b_iastore rfl (by first | rfl | assumption) (by first | assumption | exact nI_toInt (by omega) | exact hi_l0 | exact hi_l1 | exact hi_l2 | exact hi_l3 | exact hi_l4 | exact hi_l5 | exact hi_l6) (by omega) ?_
  refine b_aload_n rfl rfl ?_
  refine b_getR rfl (by first | rfl | assumption) rfl (by assumption) ?_
  refine b_iconst rfl ?_
  refine b_iload_n rfl rfl ?_
  refine b_iastore rfl (by first | rfl | assumption) (by first | assumption | exact nI_toInt (by omega) | exact hi_l0 | exact hi_l1 | exact hi_l2 | exact hi_l3 | exact hi_l4 | exact hi_l5 | exact hi_l6) (by omega) ?_
  refine b_aload_n rfl rfl ?_
  refine b_getR rfl (by first | rfl | assumption) rfl (by assumption) ?_
  refine b_iconst rfl ?_
  refine b_iload_n rfl rfl ?_
  refine b_iastore rfl (by first | rfl | assumption) (by first | assumption | exact nI_toInt (by omega) | exact hi_l0 | exact hi_l1 | exact hi_l2 | exact hi_l3 | exact hi_l4 | exact hi_l5 | exact hi_l6) (by omega) ?_
  refine b_aload_n rfl rfl ?_
  refine b_getR rfl (by first | rfl | assumption) rfl (by assumption) ?_
  refine b_iconst rfl ?_
  refine b_iload rfl rfl ?_
  refine b_iastore rfl (by first | rfl | assumption) (by first | assumption | exact nI_toInt (by omega) | exact hi_l0 | exact hi_l1 | exact hi_l2 | exact hi_l3 | exact hi_l4 | exact hi_l5 | exact hi_l6) (by omega) ?_
  refine b_iconst rfl ?_
  refine b_istore rfl (Nat.le_of_ble_eq_true rfl) ?_
  refine b_iconst rfl ?_
  refine b_istore rfl (Nat.le_of_ble_eq_true rfl) ?_
  refine b_eq (loop _ (-1) (fun z hz => ?_) ⟨?_, ?_, ?_, ?_⟩ rfl (fun i hi => absurd hi (Nat.not_lt_zero _))) (by rw [nI_0]; rfl) rfl rfl
  · simp only [hn_u]
    simp only [if_neg (show ¬ z = t + 10 from fun e => hz (Or.inr e))]
  all_goals simp [hn_u, va_up]
end HNlulls
