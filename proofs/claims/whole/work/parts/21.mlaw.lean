section HNmlaw
variable {I : Nat → Nat → Int32} {J : Nat → Nat → Int64} {R : Nat → Nat → Option Nat}
theorem hi_b01 (x : Int32) : x &&& 1 = 0 ∨ x &&& 1 = 1 := by
  have h : (x &&& 1).toBitVec = BitVec.setWidth 32 (BitVec.ofBool (x.toBitVec.getLsbD 0)) := by
    rw [Int32.toBitVec_and]
    exact BitVec.and_one_eq_setWidth_ofBool_getLsbD
  cases hb : x.toBitVec.getLsbD 0 with
  | false => exact Or.inl (Int32.toBitVec_inj.mp (by rw [h, hb]; rfl))
  | true => exact Or.inr (Int32.toBitVec_inj.mp (by rw [h, hb]; rfl))
theorem hi_bit1 (x : Int32) : x &&& 1 = 1 ↔ ¬ x &&& 1 = 0 := by
  rcases hi_b01 x with h | h
  · rw [h]; decide
  · rw [h]; decide
/-- an operator of two, here and there -/
def mc_bin (o c : Int32) : Prop := (o = 4 ∧ c = 10009) ∨ (o = 5 ∧ c = 10010) ∨ (o = 6 ∧ c = 10011) ∨ (o = 7 ∧ c = 10007) ∨ (o = 8 ∧ c = 10008) ∨ (o = 9 ∧ c = 10005) ∨ (o = 10 ∧ c = 10006)
/-- a code, here and there -/
def mc_rel (o a c : Int32) : Prop := (o = 1 ∧ a = c ∧ c < 10000) ∨ (∃ j : Nat, j < 4 ∧ o = 2 ∧ a = nI j ∧ c = nI (10000 + j)) ∨ (o = 3 ∧ c = 10004) ∨ mc_bin o c
theorem mc_bin_o {o c : Int32} (h : mc_bin o c) : ¬ o = 0 ∧ ¬ o = 1 ∧ ¬ o = 2 ∧ ¬ o = 3 ∧ ¬ c < 10004 ∧ ¬ c = 10004 ∧ 10005 ≤ c := by
  rcases h with ⟨rfl, rfl⟩ | ⟨rfl, rfl⟩ | ⟨rfl, rfl⟩ | ⟨rfl, rfl⟩ | ⟨rfl, rfl⟩ | ⟨rfl, rfl⟩ | ⟨rfl, rfl⟩ <;> decide
/-- the reference's law, code by code -/
def hs_mc (op arg cs : Nat → Int32) (sz : Nat) : Prop := op sz = 0 ∧ ev_ln cs sz = 1 ∧ sz ≤ 1000 ∧ (∀ i, i ≤ sz → ev_ln cs i ≤ 64) ∧ ∀ i, i < sz → mc_rel (op i) (arg i) (cs i) ∧ (10004 ≤ cs i → 1 ≤ ev_ln cs i) ∧ (10005 ≤ cs i → 2 ≤ ev_ln cs i)
theorem q_M_both {o c x y : Int32} (h : mc_bin o c) : hn_F 0 hm_M_both [.int o, .int x, .int y] (I, J, R) (fun r D' => D' = (I, J, R) ∧ r = some (.int (ev_join c x y))) := by
  refine hn_F_of _ hk_M_both rfl (Nat.le_of_ble_eq_true rfl) ?_
  refine b_iload_n rfl rfl ?_
  rcases h with ⟨rfl, rfl⟩ | ⟨rfl, rfl⟩ | ⟨rfl, rfl⟩ | ⟨rfl, rfl⟩ | ⟨rfl, rfl⟩ | ⟨rfl, rfl⟩ | ⟨rfl, rfl⟩
  · refine b_tsw (q := 40) rfl rfl ?_
    refine b_iload_n rfl rfl ?_
    refine b_iload_n rfl rfl ?_
    refine b_iadd rfl ?_
    exact b_ireturn rfl trivial (⟨rfl, rfl⟩)
  · refine b_tsw (q := 44) rfl rfl ?_
    refine b_iload_n rfl rfl ?_
    refine b_iload_n rfl rfl ?_
    refine b_isub rfl ?_
    exact b_ireturn rfl trivial (⟨rfl, rfl⟩)
  · refine b_tsw (q := 48) rfl rfl ?_
    refine b_iload_n rfl rfl ?_
    refine b_iload_n rfl rfl ?_
    refine b_imul rfl ?_
    exact b_ireturn rfl trivial (⟨rfl, rfl⟩)
  · refine b_tsw (q := 52) rfl rfl ?_
    refine b_iload_n rfl rfl ?_
    refine b_iload_n rfl rfl ?_
    refine b_icmp_ge rfl (fun c_54 => ?_) (fun c_54 => ?_)
    · refine b_iconst rfl ?_
      exact b_ireturn rfl trivial (⟨rfl, by first | (rw [show ev_join 10007 x y = if x < y then 1 else 0 from rfl, if_neg (Int32.not_lt.mpr c_54)]) | (rw [show ev_join 10007 x y = if x < y then 1 else 0 from rfl, if_pos (Int32.not_le.mp c_54)])⟩)
    · refine b_iconst rfl ?_
      refine b_goto rfl ?_
      exact b_ireturn rfl trivial (⟨rfl, by first | (rw [show ev_join 10007 x y = if x < y then 1 else 0 from rfl, if_neg (Int32.not_lt.mpr c_54)]) | (rw [show ev_join 10007 x y = if x < y then 1 else 0 from rfl, if_pos (Int32.not_le.mp c_54)])⟩)
  · refine b_tsw (q := 63) rfl rfl ?_
    refine b_iload_n rfl rfl ?_
    refine b_iload_n rfl rfl ?_
    refine b_icmp_ne rfl (fun c_65 => ?_) (fun c_65 => ?_)
    · refine b_iconst rfl ?_
      exact b_ireturn rfl trivial (⟨rfl, by simp [ev_join, *]⟩)
    · refine b_iconst rfl ?_
      refine b_goto rfl ?_
      exact b_ireturn rfl trivial (⟨rfl, by simp [ev_join, *]⟩)
  · refine b_tsw (q := 74) rfl rfl ?_
    refine b_iload_n rfl rfl ?_
    refine b_if_eq rfl (fun c_75 => ?_) (fun c_75 => ?_)
    · refine b_iconst rfl ?_
      exact b_ireturn rfl trivial (⟨rfl, by simp [ev_join, *]⟩)
    · refine b_iload_n rfl rfl ?_
      refine b_if_eq rfl (fun c_79 => ?_) (fun c_79 => ?_)
      · refine b_iconst rfl ?_
        exact b_ireturn rfl trivial (⟨rfl, by simp [ev_join, *]⟩)
      · refine b_iconst rfl ?_
        refine b_goto rfl ?_
        exact b_ireturn rfl trivial (⟨rfl, by simp [ev_join, *]⟩)
  · refine b_tsw (q := 88) rfl rfl ?_
    refine b_iload_n rfl rfl ?_
    refine b_if_ne rfl (fun c_89 => ?_) (fun c_89 => ?_)
    · refine b_iconst rfl ?_
      refine b_goto rfl ?_
      exact b_ireturn rfl trivial (⟨rfl, by simp [ev_join, *]⟩)
    · refine b_iload_n rfl rfl ?_
      refine b_if_eq rfl (fun c_93 => ?_) (fun c_93 => ?_)
      · refine b_iconst rfl ?_
        exact b_ireturn rfl trivial (⟨rfl, by simp [ev_join, *]⟩)
      · refine b_iconst rfl ?_
        refine b_goto rfl ?_
        exact b_ireturn rfl trivial (⟨rfl, by simp [ev_join, *]⟩)
theorem q_M_worthAt {sz : Nat} {x h m y o : Int32} {cs : Nat → Int32} (hM : hs_M R) (hmc : hs_mc (I 195) (I 196) cs sz) (hfa : I 202 0 = h ∧ I 202 1 = m ∧ I 202 2 = y ∧ I 202 3 = o) (hx : x = nI 0) : hn_F 1 hm_M_worthAt [.ref 188, .int x] (I, J, R) (fun r D' => hs_fr I J R D' (fun b => b = 203) ∧ r = some (.int (ev_val h m y o cs sz))) := by
  subst hx
  obtain ⟨m1, m4, m5, m6, m9, m10, m11, m12, m14, m15, m16, m17, m20, m21, m22, m23, m25, m27, m28, m29, m30, m31, m32⟩ := hM
  obtain ⟨hend, hone, hs, hd, hmc⟩ := hmc
  refine hn_F_of _ hk_M_worthAt rfl (Nat.le_of_ble_eq_true rfl) ?_
  obtain ⟨P, hPd⟩ : ∃ P : Option Value → hnD → Prop, P = (fun r D' => hs_fr I J R D' (fun b => b = 203) ∧ r = some (.int (ev_val h m y o cs sz))) := ⟨_, rfl⟩
  rw [← hPd]
  have loop : ∀ I' : Nat → Nat → Int32, (∀ b, ¬ b = 203 → I' b = I b) → ev_in (I' 203) [] → hn_B 1 hm_M_worthAt P 4 [.ref 188, .int (nI 0), .int (nI 0), .int (nI 0), .null] [] (I', J, R) := by
    refine sp_ind sz (fun i => ∀ I' : Nat → Nat → Int32, (∀ b, ¬ b = 203 → I' b = I b) → ev_in (I' 203) (ev h m y o cs i) → hn_B 1 hm_M_worthAt P 4 [.ref 188, .int (nI 0), .int (nI (ev h m y o cs i).length), .int (nI i), .null] [] (I', J, R)) ?_ ?_
    · intro I' hf hin
      have eop : I' 195 sz = 0 := by rw [hf _ (by omega)]; exact hend
      have hlen := ev_len h m y o cs sz
      have hval : ev_val h m y o cs sz = match ev h m y o cs sz with | [] => 1 | x :: _ => x := rfl
      generalize ev h m y o cs sz = st at hin hlen hval
      obtain ⟨v, rfl⟩ : ∃ v, st = [v] := by
        rw [hone] at hlen
        rcases st with - | ⟨b, - | ⟨a, u⟩⟩
        · simp at hlen
        · exact ⟨b, rfl⟩
        · simp at hlen
      have htop := ev_in_top hin
      simp only [List.length_nil] at htop
      refine b_aload_n rfl rfl ?_
      refine b_getR rfl (by first | rfl | assumption) rfl (by assumption) ?_
      refine b_iload_n rfl rfl ?_
      refine b_iaload rfl (by first | rfl | assumption) (by first | assumption | exact nI_toInt (by omega) | exact hi_l0 | exact hi_l1 | exact hi_l2 | exact hi_l3 | exact hi_l4 | exact hi_l5 | exact hi_l6) (by omega) ?_
      refine b_if_eq rfl (fun c_10 => ?_) (fun c_10 => ?_)
      · refine b_aload_n rfl rfl ?_
        refine b_getR rfl (by first | rfl | assumption) rfl (by assumption) ?_
        refine b_iconst rfl ?_
        refine b_iaload rfl (by first | rfl | assumption) (by first | assumption | exact nI_toInt (by omega) | exact hi_l0 | exact hi_l1 | exact hi_l2 | exact hi_l3 | exact hi_l4 | exact hi_l5 | exact hi_l6) (by omega) ?_
        rw [htop]
        exact b_ireturn rfl trivial ((by rw [hPd]; exact ⟨⟨rfl, rfl, hf⟩, by rw [hval]⟩))
      · exact absurd eop c_10
    · intro i hi ih I' hf hin
      have eop : I' 195 i = I 195 i := by rw [hf _ (by omega)]
      have earg : I' 196 i = I 196 i := by rw [hf _ (by omega)]
      have efa : I' 202 = I 202 := hf _ (by omega)
      have es : ev h m y o cs (i + 1) = ev_step h m y o (cs i) (ev h m y o cs i) := rfl
      have hlen := ev_len h m y o cs i
      have hle := hd i (by omega)
      obtain ⟨hrel, hge1, hge2⟩ := hmc i hi
      rw [← hlen] at hle hge1 hge2
      rw [es] at ih
      generalize ev h m y o cs i = st at hin hle hge1 hge2 ih
      generalize cs i = cd at hrel hge1 hge2 ih
      have hI : ∀ (u : List Int32) (v : Int32), ev_in (I' 203) u → ev_step h m y o cd st = v :: u → hn_B 1 hm_M_worthAt P 4 [.ref 188, .int (nI 0), .int (nI (u.length + 1)), .int (nI (i + 1)), .null] [] (hn_u I' 203 u.length v, J, R) := by
        intro u v hu hst
        rw [hst] at ih
        refine ih _ (fun b hb => by rw [hn_u_ne _ _ _ hb]; exact hf b hb) ?_
        rw [hn_u_eq]
        exact ev_in_cons hu
      rcases hrel with ⟨ho, ha, hc⟩ | ⟨j, hj, ho, ha, hc⟩ | ⟨ho, hc⟩ | hb
      · have e1 : I' 195 i = 1 := by rw [eop, ho]
        have e2 : I' 196 i = cd := by rw [earg, ha]
        have hst : ev_step h m y o cd st = cd :: st := by
          have : cd < 10004 := by rw [Int32.lt_iff_toInt_lt] at hc ⊢; exact Int.lt_trans hc (by decide)
          simp only [ev_step, if_pos this, if_pos hc]
        refine b_aload_n rfl rfl ?_
        refine b_getR rfl (by first | rfl | assumption) rfl (by assumption) ?_
        refine b_iload_n rfl rfl ?_
        refine b_iaload rfl (by first | rfl | assumption) (by first | assumption | exact nI_toInt (by omega) | exact hi_l0 | exact hi_l1 | exact hi_l2 | exact hi_l3 | exact hi_l4 | exact hi_l5 | exact hi_l6) (by omega) ?_
        rw [e1]
        refine b_if_eq rfl (fun c_10 => ?_) (fun c_10 => ?_)
        · exact absurd c_10 (by decide)
        · refine b_aload_n rfl rfl ?_
          refine b_getR rfl (by first | rfl | assumption) rfl (by assumption) ?_
          refine b_iload_n rfl rfl ?_
          refine b_iaload rfl (by first | rfl | assumption) (by first | assumption | exact nI_toInt (by omega) | exact hi_l0 | exact hi_l1 | exact hi_l2 | exact hi_l3 | exact hi_l4 | exact hi_l5 | exact hi_l6) (by omega) ?_
          rw [e1]
          refine b_istore rfl (Nat.le_of_ble_eq_true rfl) ?_
          refine b_iload rfl rfl ?_
          refine b_iconst rfl ?_
          refine b_icmp_eq rfl (fun c_24 => ?_) (fun c_24 => ?_)
          · refine b_aload_n rfl rfl ?_
            refine b_getR rfl (by first | rfl | assumption) rfl (by assumption) ?_
            refine b_iload_n rfl rfl ?_
            refine b_iload rfl rfl ?_
            refine b_iconst rfl ?_
            refine b_icmp_ne rfl (fun c_41 => ?_) (fun c_41 => ?_)
            · exact absurd rfl c_41
            · refine b_aload_n rfl rfl ?_
              refine b_getR rfl (by first | rfl | assumption) rfl (by assumption) ?_
              refine b_iload_n rfl rfl ?_
              refine b_iaload rfl (by first | rfl | assumption) (by first | assumption | exact nI_toInt (by omega) | exact hi_l0 | exact hi_l1 | exact hi_l2 | exact hi_l3 | exact hi_l4 | exact hi_l5 | exact hi_l6) (by omega) ?_
              rw [e2]
              refine b_goto rfl ?_
              refine b_iastore rfl (by first | rfl | assumption) (by first | assumption | exact nI_toInt (by omega) | exact hi_l0 | exact hi_l1 | exact hi_l2 | exact hi_l3 | exact hi_l4 | exact hi_l5 | exact hi_l6) (by omega) ?_
              refine b_iinc rfl rfl (Nat.le_of_ble_eq_true rfl) ?_
              refine b_goto rfl ?_
              refine b_iinc rfl rfl (Nat.le_of_ble_eq_true rfl) ?_
              refine b_goto rfl ?_
              exact b_lp (hI st cd hin hst) (le_e (le_e (le_q (by rw [nI_succ]) (le_q (by rw [nI_succ]) (le_n le_0))))) rfl rfl
          · exact absurd rfl c_24
      · have e1 : I' 195 i = 2 := by rw [eop, ho]
        have e2 : I' 196 i = nI j := by rw [earg, ha]
        have ht : cd.toInt = 10000 + (j : Int) := by rw [hc, nI_toInt (by omega)]; omega
        have hst : ev_step h m y o cd st = I' 202 j :: st := by
          have e : cd < 10004 := by rw [Int32.lt_iff_toInt_lt, ht, show (10004 : Int32).toInt = 10004 from rfl]; omega
          have e' : ¬ cd < 10000 := by rw [Int32.lt_iff_toInt_lt, ht, show (10000 : Int32).toInt = 10000 from rfl]; omega
          rw [ev_fact_at (f := I' 202) (h := h) (m := m) (y := y) (o := o) (by rw [efa]; exact hfa) (Int32.not_lt.mp e') ht hj]
          simp only [ev_step, if_pos e]
        refine b_aload_n rfl rfl ?_
        refine b_getR rfl (by first | rfl | assumption) rfl (by assumption) ?_
        refine b_iload_n rfl rfl ?_
        refine b_iaload rfl (by first | rfl | assumption) (by first | assumption | exact nI_toInt (by omega) | exact hi_l0 | exact hi_l1 | exact hi_l2 | exact hi_l3 | exact hi_l4 | exact hi_l5 | exact hi_l6) (by omega) ?_
        rw [e1]
        refine b_if_eq rfl (fun c_10 => ?_) (fun c_10 => ?_)
        · exact absurd c_10 (by decide)
        · refine b_aload_n rfl rfl ?_
          refine b_getR rfl (by first | rfl | assumption) rfl (by assumption) ?_
          refine b_iload_n rfl rfl ?_
          refine b_iaload rfl (by first | rfl | assumption) (by first | assumption | exact nI_toInt (by omega) | exact hi_l0 | exact hi_l1 | exact hi_l2 | exact hi_l3 | exact hi_l4 | exact hi_l5 | exact hi_l6) (by omega) ?_
          rw [e1]
          refine b_istore rfl (Nat.le_of_ble_eq_true rfl) ?_
          refine b_iload rfl rfl ?_
          refine b_iconst rfl ?_
          refine b_icmp_eq rfl (fun c_24 => ?_) (fun c_24 => ?_)
          · exact absurd c_24 (by decide)
          · refine b_iload rfl rfl ?_
            refine b_iconst rfl ?_
            refine b_icmp_ne rfl (fun c_30 => ?_) (fun c_30 => ?_)
            · exact absurd rfl c_30
            · refine b_aload_n rfl rfl ?_
              refine b_getR rfl (by first | rfl | assumption) rfl (by assumption) ?_
              refine b_iload_n rfl rfl ?_
              refine b_iload rfl rfl ?_
              refine b_iconst rfl ?_
              refine b_icmp_ne rfl (fun c_41 => ?_) (fun c_41 => ?_)
              · refine b_aload_n rfl rfl ?_
                refine b_getR rfl (by first | rfl | assumption) rfl (by assumption) ?_
                refine b_aload_n rfl rfl ?_
                refine b_getR rfl (by first | rfl | assumption) rfl (by assumption) ?_
                refine b_iload_n rfl rfl ?_
                refine b_iaload rfl (by first | rfl | assumption) (by first | assumption | exact nI_toInt (by omega) | exact hi_l0 | exact hi_l1 | exact hi_l2 | exact hi_l3 | exact hi_l4 | exact hi_l5 | exact hi_l6) (by omega) ?_
                rw [e2]
                refine b_iaload rfl (by first | rfl | assumption) (by first | assumption | exact nI_toInt (by omega) | exact hi_l0 | exact hi_l1 | exact hi_l2 | exact hi_l3 | exact hi_l4 | exact hi_l5 | exact hi_l6) (by omega) ?_
                refine b_iastore rfl (by first | rfl | assumption) (by first | assumption | exact nI_toInt (by omega) | exact hi_l0 | exact hi_l1 | exact hi_l2 | exact hi_l3 | exact hi_l4 | exact hi_l5 | exact hi_l6) (by omega) ?_
                refine b_iinc rfl rfl (Nat.le_of_ble_eq_true rfl) ?_
                refine b_goto rfl ?_
                refine b_iinc rfl rfl (Nat.le_of_ble_eq_true rfl) ?_
                refine b_goto rfl ?_
                exact b_lp (hI st _ hin hst) (le_e (le_e (le_q (by rw [nI_succ]) (le_q (by rw [nI_succ]) (le_n le_0))))) rfl rfl
              · exact absurd c_41 (by decide)
      · have e1 : I' 195 i = 3 := by rw [eop, ho]
        subst hc
        have hge := hge1 (by decide)
        obtain ⟨v, u, rfl⟩ : ∃ v u, st = v :: u := by
          rcases st with - | ⟨v, u⟩
          · simp at hge
          · exact ⟨v, u, rfl⟩
        simp only [List.length_cons] at hle
        have hst : ev_step h m y o 10004 (v :: u) = (if v = 0 then 1 else 0) :: u := rfl
        have htop := ev_in_top hin
        have hx : (nI (u.length + 1) - 1).toInt = ((u.length : Nat) : Int) := by rw [hi_subc (nI_toInt (by omega)) hi_t1 (by omega) (by omega)]; omega
        refine b_aload_n rfl rfl ?_
        refine b_getR rfl (by first | rfl | assumption) rfl (by assumption) ?_
        refine b_iload_n rfl rfl ?_
        refine b_iaload rfl (by first | rfl | assumption) (by first | assumption | exact nI_toInt (by omega) | exact hi_l0 | exact hi_l1 | exact hi_l2 | exact hi_l3 | exact hi_l4 | exact hi_l5 | exact hi_l6) (by omega) ?_
        rw [e1]
        refine b_if_eq rfl (fun c_10 => ?_) (fun c_10 => ?_)
        · exact absurd c_10 (by decide)
        · refine b_aload_n rfl rfl ?_
          refine b_getR rfl (by first | rfl | assumption) rfl (by assumption) ?_
          refine b_iload_n rfl rfl ?_
          refine b_iaload rfl (by first | rfl | assumption) (by first | assumption | exact nI_toInt (by omega) | exact hi_l0 | exact hi_l1 | exact hi_l2 | exact hi_l3 | exact hi_l4 | exact hi_l5 | exact hi_l6) (by omega) ?_
          rw [e1]
          refine b_istore rfl (Nat.le_of_ble_eq_true rfl) ?_
          refine b_iload rfl rfl ?_
          refine b_iconst rfl ?_
          refine b_icmp_eq rfl (fun c_24 => ?_) (fun c_24 => ?_)
          · exact absurd c_24 (by decide)
          · refine b_iload rfl rfl ?_
            refine b_iconst rfl ?_
            refine b_icmp_ne rfl (fun c_30 => ?_) (fun c_30 => ?_)
            · refine b_iload rfl rfl ?_
              refine b_iconst rfl ?_
              refine b_icmp_ne rfl (fun c_74 => ?_) (fun c_74 => ?_)
              · exact absurd rfl c_74
              · refine b_aload_n rfl rfl ?_
                refine b_getR rfl (by first | rfl | assumption) rfl (by assumption) ?_
                refine b_iload_n rfl rfl ?_
                refine b_iconst rfl ?_
                refine b_isub rfl ?_
                refine b_aload_n rfl rfl ?_
                refine b_getR rfl (by first | rfl | assumption) rfl (by assumption) ?_
                refine b_iload_n rfl rfl ?_
                refine b_iconst rfl ?_
                refine b_isub rfl ?_
                refine b_iaload rfl (by first | rfl | assumption) hx (by omega) ?_
                rw [htop]
                refine b_if_ne rfl (fun c_92 => ?_) (fun c_92 => ?_)
                · refine b_iconst rfl ?_
                  refine b_iastore rfl (by first | rfl | assumption) hx (by omega) ?_
                  refine b_goto rfl ?_
                  refine b_iinc rfl rfl (Nat.le_of_ble_eq_true rfl) ?_
                  refine b_goto rfl ?_
                  first | exact b_lp (hI u _ (ev_in_tail hin) (by rw [hst, if_pos c_92])) (le_e (le_e (le_e (le_q (by rw [nI_succ]) (le_n le_0))))) rfl rfl | exact b_lp (hI u _ (ev_in_tail hin) (by rw [hst, if_neg c_92])) (le_e (le_e (le_e (le_q (by rw [nI_succ]) (le_n le_0))))) rfl rfl
                · refine b_iconst rfl ?_
                  refine b_goto rfl ?_
                  refine b_iastore rfl (by first | rfl | assumption) hx (by omega) ?_
                  refine b_goto rfl ?_
                  refine b_iinc rfl rfl (Nat.le_of_ble_eq_true rfl) ?_
                  refine b_goto rfl ?_
                  first | exact b_lp (hI u _ (ev_in_tail hin) (by rw [hst, if_pos c_92])) (le_e (le_e (le_e (le_q (by rw [nI_succ]) (le_n le_0))))) rfl rfl | exact b_lp (hI u _ (ev_in_tail hin) (by rw [hst, if_neg c_92])) (le_e (le_e (le_e (le_q (by rw [nI_succ]) (le_n le_0))))) rfl rfl
            · exact absurd c_30 (by decide)
      · obtain ⟨n0, n1, n2, n3, n4, n5, n6⟩ := mc_bin_o hb
        have hge := hge2 n6
        rw [← eop] at hb n0 n1 n2 n3
        obtain ⟨b, a, u, rfl⟩ : ∃ b a u, st = b :: a :: u := by
          rcases st with - | ⟨b, - | ⟨a, u⟩⟩
          · simp at hge
          · simp at hge
          · exact ⟨b, a, u, rfl⟩
        simp only [List.length_cons] at hle
        have hst : ev_step h m y o cd (b :: a :: u) = ev_join cd a b :: u := by simp only [ev_step, if_neg n4, if_neg n5]
        have hbb := ev_in_top hin
        have haa := ev_in_top (ev_in_tail hin)
        simp only [List.length_cons] at hbb
        obtain ⟨z, hz, hzt⟩ : ∃ z, z = nI (u.length + 1 + 1) + (-1) ∧ z.toInt = (u.length : Int) + 1 := ⟨_, rfl, by rw [hi_dec (nI_toInt (by omega)) (by omega) (by omega)]; omega⟩
        have hzn : z = nI (u.length + 1) := hi_nI (by rw [hzt]; omega)
        have hx : (z - 1).toInt = ((u.length : Nat) : Int) := by rw [hi_subc hzt hi_t1 (by omega) (by omega)]; omega
        refine b_aload_n rfl rfl ?_
        refine b_getR rfl (by first | rfl | assumption) rfl (by assumption) ?_
        refine b_iload_n rfl rfl ?_
        refine b_iaload rfl (by first | rfl | assumption) (by first | assumption | exact nI_toInt (by omega) | exact hi_l0 | exact hi_l1 | exact hi_l2 | exact hi_l3 | exact hi_l4 | exact hi_l5 | exact hi_l6) (by omega) ?_
        refine b_if_eq rfl (fun c_10 => ?_) (fun c_10 => ?_)
        · exact absurd c_10 n0
        · refine b_aload_n rfl rfl ?_
          refine b_getR rfl (by first | rfl | assumption) rfl (by assumption) ?_
          refine b_iload_n rfl rfl ?_
          refine b_iaload rfl (by first | rfl | assumption) (by first | assumption | exact nI_toInt (by omega) | exact hi_l0 | exact hi_l1 | exact hi_l2 | exact hi_l3 | exact hi_l4 | exact hi_l5 | exact hi_l6) (by omega) ?_
          refine b_istore rfl (Nat.le_of_ble_eq_true rfl) ?_
          refine b_iload rfl rfl ?_
          refine b_iconst rfl ?_
          refine b_icmp_eq rfl (fun c_24 => ?_) (fun c_24 => ?_)
          · exact absurd c_24 n1
          · refine b_iload rfl rfl ?_
            refine b_iconst rfl ?_
            refine b_icmp_ne rfl (fun c_30 => ?_) (fun c_30 => ?_)
            · refine b_iload rfl rfl ?_
              refine b_iconst rfl ?_
              refine b_icmp_ne rfl (fun c_74 => ?_) (fun c_74 => ?_)
              · refine b_iinc rfl rfl (Nat.le_of_ble_eq_true rfl) ?_
                rw [List.length_cons, List.length_cons, ← hz]
                refine b_aload_n rfl rfl ?_
                refine b_getR rfl (by first | rfl | assumption) rfl (by assumption) ?_
                refine b_iload_n rfl rfl ?_
                refine b_iconst rfl ?_
                refine b_isub rfl ?_
                refine b_iload rfl rfl ?_
                refine b_aload_n rfl rfl ?_
                refine b_getR rfl (by first | rfl | assumption) rfl (by assumption) ?_
                refine b_iload_n rfl rfl ?_
                refine b_iconst rfl ?_
                refine b_isub rfl ?_
                refine b_iaload rfl (by first | rfl | assumption) hx (by omega) ?_
                refine b_aload_n rfl rfl ?_
                refine b_getR rfl (by first | rfl | assumption) rfl (by assumption) ?_
                refine b_iload_n rfl rfl ?_
                refine b_iaload rfl (by first | rfl | assumption) (show z.toInt = ((u.length + 1 : Nat) : Int) by rw [hzt]; omega) (by omega) ?_
                rw [haa, hbb]
                refine b_callS rfl rfl hk_M_both rfl rfl rfl (Nat.le_of_ble_eq_true rfl) (q_M_both hb) (Nat.le_of_ble_eq_true rfl) (fun r_130 D_130 q_130 => ?_)
                obtain ⟨rfl, rfl⟩ := q_130
                refine b_iastore rfl (by first | rfl | assumption) hx (by omega) ?_
                refine b_iinc rfl rfl (Nat.le_of_ble_eq_true rfl) ?_
                refine b_goto rfl ?_
                exact b_lp (hI u _ (ev_in_tail (ev_in_tail hin)) hst) (le_e (le_e (le_q (by rw [hzn]) (le_q (by rw [nI_succ]) (le_n le_0))))) rfl rfl
              · exact absurd c_74 n3
            · exact absurd c_30 n2
  refine b_iconst rfl ?_
  refine b_istore_n rfl (Nat.le_of_ble_eq_true rfl) ?_
  refine b_iload_n rfl rfl ?_
  refine b_istore_n rfl (Nat.le_of_ble_eq_true rfl) ?_
  refine b_lp (loop I (fun _ _ => rfl) (fun i hi => absurd hi (Nat.not_lt_zero i))) (le_e (le_e (le_q (by rw [nI_0]) (le_q (by rfl) (le_n le_0))))) rfl rfl
end HNmlaw
