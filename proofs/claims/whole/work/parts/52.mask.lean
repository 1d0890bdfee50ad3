section HNmask
variable {I I' : Nat → Nat → Int32} {J J' : Nat → Nat → Int64} {R : Nat → Nat → Option Nat} {t : Nat} {N : sp_N} {Q Q' S : sp_Q} {U : sp_U} {V : sp_V}
theorem at_pm {h r : Nat} : (9 : Int32) * nI h + nI r = nI (9 * h + r) := by rw [nI_ad, nI_ml]; rfl
theorem q_M_ask (hB : hs_B I R N Q) (hV : hs_Vm I 0 V) (hVw : hs_Vw N.1 V) : hn_F 6 hm_M_ask [.ref 188] (I, J, R) (fun r D' => hs_sm I J R D' ∧ r = some (.int (v_ask N Q V))) := by
  have i21 : (21 : Int32).toInt = ((21 : Nat) : Int) := rfl
  have n8' : N.1 ≤ 8 := hB.2.1.1.2.1
  have v1 : I 204 21 = nI V.2.1 := hV.1
  have v8 := hV.2.1
  obtain ⟨m1, m4, m5, m6, m9, m10, m11, m12, m14, m15, m16, m17, m20, m21, m22, m23, m25, m27, m28, m29, m30, m31, m32⟩ := hs_M_of hB.1
  refine hn_F_of _ hk_M_ask rfl (Nat.le_of_ble_eq_true rfl) ?_
  obtain ⟨P, hPd⟩ : ∃ P : Option Value → hnD → Prop, P = (fun r D' => hs_sm I J R D' ∧ r = some (.int (v_ask N Q V))) := ⟨_, rfl⟩
  rw [← hPd]
  have hle : ∀ h r, mxn (fun r => cn N (qS Q) V h (pm r) 40) r ≤ 40 := by
    intro h r
    rcases mxn_is (fun r => cn N (qS Q) V h (pm r) 40) r with e | ⟨j, _, e⟩
    · omega
    · rw [e]; exact cn_le 40
  -- the hours
  have lh : ∀ I', hs_sm I J R (I', J, R) → (∀ x, x < 279 → I' 211 x = nI (cr N (qS Q) V pm 40 x)) → hn_B 6 hm_M_ask (fun r D' => hs_sm I J R D' ∧ r = some (.int (hp_ N (qS Q) V 31).2)) 116 [.ref 188, .int (nI (hp_ N (qS Q) V 0).1), .int (hp_ N (qS Q) V 0).2, .int (nI 0), .null, .null] [] (I', J, R) := by
    intro I' hsm hc
    refine sp_ind 31 (fun h => hn_B 6 hm_M_ask (fun r D' => hs_sm I J R D' ∧ r = some (.int (hp_ N (qS Q) V 31).2)) 116 [.ref 188, .int (nI (hp_ N (qS Q) V h).1), .int (hp_ N (qS Q) V h).2, .int (nI h), .null, .null] [] (I', J, R)) ?_ ?_
    · refine b_iload_n rfl rfl ?_
      refine b_bipush rfl ?_
      refine b_icmp_gt rfl (fun c_119 => ?_) (fun c_119 => ?_)
      · refine b_iload_n rfl rfl ?_
        exact b_ireturn rfl trivial (⟨hsm, rfl⟩)
      · exact absurd (show (30 : Int32) < nI 31 by decide) c_119
    · intro h hh ih
      have hs : hp_ N (qS Q) V (h + 1) = if mx N (qS Q) V h < (hp_ N (qS Q) V h).1 then (mx N (qS Q) V h, nI h) else hp_ N (qS Q) V h := rfl
      rw [hs] at ih
      have c119 : ¬ (30 : Int32) < nI h := fun z => by
        have := (hi_lt (show (30 : Int32).toInt = 30 from rfl) (nI_toInt (n := h) (by omega))).mp z
        omega
      have hl := hp_le (N := N) (V := V) (s := qS Q) h
      have hm := mx_le (N := N) (V := V) (s := qS Q) (h := h)
      have em : mxn (fun r => cn N (qS Q) V h (pm r) 40) 9 = mx N (qS Q) V h := (mx_pp (fun x => cn N (qS Q) V h x 40)).symm
      generalize hp_ N (qS Q) V h = b at ih hl ⊢
      obtain ⟨b1, b2⟩ := b
      simp only at ih hl
      have lr : hn_B 6 hm_M_ask (fun r D' => hs_sm I J R D' ∧ r = some (.int (hp_ N (qS Q) V 31).2)) 128 [.ref 188, .int (nI b1), .int b2, .int (nI h), .int (nI (mxn (fun r => cn N (qS Q) V h (pm r) 40) 0)), .int (nI 0)] [] (I', J, R) := by
        refine sp_ind 9 (fun r => hn_B 6 hm_M_ask (fun r D' => hs_sm I J R D' ∧ r = some (.int (hp_ N (qS Q) V 31).2)) 128 [.ref 188, .int (nI b1), .int b2, .int (nI h), .int (nI (mxn (fun r => cn N (qS Q) V h (pm r) 40) r)), .int (nI r)] [] (I', J, R)) ?_ ?_
        · rw [em]
          by_cases hb : mx N (qS Q) V h < b1
          · rw [if_pos hb] at ih
            refine b_iload rfl rfl ?_
            refine b_bipush rfl ?_
            refine b_icmp_gt rfl (fun c_132 => ?_) (fun c_132 => ?_)
            · refine b_iload rfl rfl ?_
              refine b_iload_n rfl rfl ?_
              refine b_icmp_ge rfl (fun c_180 => ?_) (fun c_180 => ?_)
              · exact absurd c_180 (nI_ge hb (by omega))
              · refine b_iload_n rfl rfl ?_
                refine b_goto rfl ?_
                refine b_istore_n rfl (Nat.le_of_ble_eq_true rfl) ?_
                refine b_iload rfl rfl ?_
                refine b_iload_n rfl rfl ?_
                refine b_icmp_ge rfl (fun c_192 => ?_) (fun c_192 => ?_)
                · exact absurd c_192 (nI_ge hb (by omega))
                · refine b_iload rfl rfl ?_
                  refine b_goto rfl ?_
                  refine b_istore_n rfl (Nat.le_of_ble_eq_true rfl) ?_
                  refine b_iinc rfl rfl (Nat.le_of_ble_eq_true rfl) ?_
                  refine b_goto rfl ?_
                  exact b_lp ih (le_e (le_e (le_e (le_q (by rw [nI_succ]) (le_n (le_n le_0)))))) rfl rfl
            · exact absurd (show (8 : Int32) < nI 9 by decide) c_132
          · rw [if_neg hb] at ih
            refine b_iload rfl rfl ?_
            refine b_bipush rfl ?_
            refine b_icmp_gt rfl (fun c_132 => ?_) (fun c_132 => ?_)
            · refine b_iload rfl rfl ?_
              refine b_iload_n rfl rfl ?_
              refine b_icmp_ge rfl (fun c_180 => ?_) (fun c_180 => ?_)
              · refine b_iload_n rfl rfl ?_
                refine b_istore_n rfl (Nat.le_of_ble_eq_true rfl) ?_
                refine b_iload rfl rfl ?_
                refine b_iload_n rfl rfl ?_
                refine b_icmp_ge rfl (fun c_192 => ?_) (fun c_192 => ?_)
                · refine b_iload_n rfl rfl ?_
                  refine b_istore_n rfl (Nat.le_of_ble_eq_true rfl) ?_
                  refine b_iinc rfl rfl (Nat.le_of_ble_eq_true rfl) ?_
                  refine b_goto rfl ?_
                  exact b_lp ih (le_e (le_e (le_e (le_q (by rw [nI_succ]) (le_n (le_n le_0)))))) rfl rfl
                · exact absurd (nI_le (show b1 ≤ mx N (qS Q) V h by omega) (by omega)) c_192
              · exact absurd (nI_le (show b1 ≤ mx N (qS Q) V h by omega) (by omega)) c_180
            · exact absurd (show (8 : Int32) < nI 9 by decide) c_132
        · intro r hr ih2
          have c132 : ¬ (8 : Int32) < nI r := fun z => by
            have := (hi_lt (show (8 : Int32).toInt = 8 from rfl) (nI_toInt (n := r) (by omega))).mp z
            omega
          have e9 : I' 211 (9 * h + r) = nI (cn N (qS Q) V h (pm r) 40) := by
            rw [hc _ (by omega)]
            unfold cr
            rw [show (9 * h + r) / 9 = h by omega, show (9 * h + r) % 9 = r by omega]
          have hs2 : mxn (fun r => cn N (qS Q) V h (pm r) 40) (r + 1) = if mxn (fun r => cn N (qS Q) V h (pm r) 40) r < cn N (qS Q) V h (pm r) 40 then cn N (qS Q) V h (pm r) 40 else mxn (fun r => cn N (qS Q) V h (pm r) 40) r := rfl
          have hl2 := hle h r
          have hl3 := cn_le (N := N) (V := V) (s := qS Q) (h := h) (x := pm r) 40
          rw [hs2] at ih2
          generalize mxn (fun r => cn N (qS Q) V h (pm r) 40) r = u at ih2 hl2 ⊢
          generalize cn N (qS Q) V h (pm r) 40 = w at ih2 e9 hl3
          by_cases hb : u < w
          · rw [if_pos hb] at ih2
            refine b_iload rfl rfl ?_
            refine b_bipush rfl ?_
            refine b_icmp_gt rfl (fun c_132 => ?_) (fun c_132 => ?_)
            · exact absurd c_132 c132
            · refine b_aload_n rfl rfl ?_
              refine b_getR rfl (by first | rfl | assumption) rfl (by assumption) ?_
              refine b_bipush rfl ?_
              refine b_iload_n rfl rfl ?_
              refine b_imul rfl ?_
              refine b_iload rfl rfl ?_
              refine b_iadd rfl ?_
              refine b_iaload rfl (by first | rfl | assumption) (hi_ix (9 * h + r) at_pm (by omega)) (by omega) ?_
              rw [e9]
              refine b_iload rfl rfl ?_
              refine b_icmp_le rfl (fun c_149 => ?_) (fun c_149 => ?_)
              · exact absurd c_149 (nI_ge hb (by omega))
              · refine b_aload_n rfl rfl ?_
                refine b_getR rfl (by first | rfl | assumption) rfl (by assumption) ?_
                refine b_bipush rfl ?_
                refine b_iload_n rfl rfl ?_
                refine b_imul rfl ?_
                refine b_iload rfl rfl ?_
                refine b_iadd rfl ?_
                refine b_iaload rfl (by first | rfl | assumption) (hi_ix (9 * h + r) at_pm (by omega)) (by omega) ?_
                rw [e9]
                refine b_goto rfl ?_
                refine b_istore rfl (Nat.le_of_ble_eq_true rfl) ?_
                refine b_iinc rfl rfl (Nat.le_of_ble_eq_true rfl) ?_
                refine b_goto rfl ?_
                exact b_lp ih2 (le_e (le_e (le_e (le_e (le_e (le_q (by rw [nI_succ]) le_0)))))) rfl rfl
          · rw [if_neg hb] at ih2
            refine b_iload rfl rfl ?_
            refine b_bipush rfl ?_
            refine b_icmp_gt rfl (fun c_132 => ?_) (fun c_132 => ?_)
            · exact absurd c_132 c132
            · refine b_aload_n rfl rfl ?_
              refine b_getR rfl (by first | rfl | assumption) rfl (by assumption) ?_
              refine b_bipush rfl ?_
              refine b_iload_n rfl rfl ?_
              refine b_imul rfl ?_
              refine b_iload rfl rfl ?_
              refine b_iadd rfl ?_
              refine b_iaload rfl (by first | rfl | assumption) (hi_ix (9 * h + r) at_pm (by omega)) (by omega) ?_
              rw [e9]
              refine b_iload rfl rfl ?_
              refine b_icmp_le rfl (fun c_149 => ?_) (fun c_149 => ?_)
              · refine b_iload rfl rfl ?_
                refine b_istore rfl (Nat.le_of_ble_eq_true rfl) ?_
                refine b_iinc rfl rfl (Nat.le_of_ble_eq_true rfl) ?_
                refine b_goto rfl ?_
                exact b_lp ih2 (le_e (le_e (le_e (le_e (le_e (le_q (by rw [nI_succ]) le_0)))))) rfl rfl
              · exact absurd (nI_le (show w ≤ u by omega) (by omega)) c_149
      refine b_iload_n rfl rfl ?_
      refine b_bipush rfl ?_
      refine b_icmp_gt rfl (fun c_119 => ?_) (fun c_119 => ?_)
      · exact absurd c_119 c119
      · refine b_iconst rfl ?_
        refine b_istore rfl (Nat.le_of_ble_eq_true rfl) ?_
        refine b_iconst rfl ?_
        refine b_istore rfl (Nat.le_of_ble_eq_true rfl) ?_
        exact b_lp lr (le_e (le_e (le_e (le_e (le_q (by rfl) (le_q (by rfl) le_0)))))) rfl rfl
  -- the wills
  have l31 : ∀ I', hs_sm I J R (I', J, R) → (∀ x, x < 279 → I' 211 x = 0) → hn_B 6 hm_M_ask P 31 [.ref 188, .int 0, .int 1, .null, .null, .null] [] (I', J, R) := by
    intro I' hsm hc
    have e204 : I' 204 21 = nI V.2.1 := (hsm.2.2.2.1 21 (by omega)).trans v1
    by_cases h0 : V.2.1 = 0
    · have hv : v_ask N Q V = -1 := by rw [v_ask, if_pos h0]
      rw [hv] at hPd
      have lz : hn_B 6 hm_M_ask P 116 [.ref 188, .int 0, .int (-1), .int (nI 0), .null, .null] [] (I', J, R) := by
        refine sp_ind 31 (fun h => hn_B 6 hm_M_ask P 116 [.ref 188, .int 0, .int (-1), .int (nI h), .null, .null] [] (I', J, R)) ?_ ?_
        · refine b_iload_n rfl rfl ?_
          refine b_bipush rfl ?_
          refine b_icmp_gt rfl (fun c_119 => ?_) (fun c_119 => ?_)
          · refine b_iload_n rfl rfl ?_
            exact b_ireturn rfl trivial ((by rw [hPd]; exact ⟨hsm, rfl⟩))
          · exact absurd (show (30 : Int32) < nI 31 by decide) c_119
        · intro h hh ih
          have c119 : ¬ (30 : Int32) < nI h := fun z => by
            have := (hi_lt (show (30 : Int32).toInt = 30 from rfl) (nI_toInt (n := h) (by omega))).mp z
            omega
          have lr : hn_B 6 hm_M_ask P 128 [.ref 188, .int 0, .int (-1), .int (nI h), .int 0, .int (nI 0)] [] (I', J, R) := by
            refine sp_ind 9 (fun r => hn_B 6 hm_M_ask P 128 [.ref 188, .int 0, .int (-1), .int (nI h), .int 0, .int (nI r)] [] (I', J, R)) ?_ ?_
            · refine b_iload rfl rfl ?_
              refine b_bipush rfl ?_
              refine b_icmp_gt rfl (fun c_132 => ?_) (fun c_132 => ?_)
              · refine b_iload rfl rfl ?_
                refine b_iload_n rfl rfl ?_
                refine b_icmp_ge rfl (fun c_180 => ?_) (fun c_180 => ?_)
                · refine b_iload_n rfl rfl ?_
                  refine b_istore_n rfl (Nat.le_of_ble_eq_true rfl) ?_
                  refine b_iload rfl rfl ?_
                  refine b_iload_n rfl rfl ?_
                  refine b_icmp_ge rfl (fun c_192 => ?_) (fun c_192 => ?_)
                  · refine b_iload_n rfl rfl ?_
                    refine b_istore_n rfl (Nat.le_of_ble_eq_true rfl) ?_
                    refine b_iinc rfl rfl (Nat.le_of_ble_eq_true rfl) ?_
                    refine b_goto rfl ?_
                    exact b_lp ih (le_e (le_e (le_e (le_q (by rw [nI_succ]) (le_n (le_n le_0)))))) rfl rfl
                  · exact absurd (show (0 : Int32) ≤ 0 by decide) c_192
                · exact absurd (show (0 : Int32) ≤ 0 by decide) c_180
              · exact absurd (show (8 : Int32) < nI 9 by decide) c_132
            · intro r hr ih2
              have c132 : ¬ (8 : Int32) < nI r := fun z => by
                have := (hi_lt (show (8 : Int32).toInt = 8 from rfl) (nI_toInt (n := r) (by omega))).mp z
                omega
              have e9 : I' 211 (9 * h + r) = 0 := hc _ (by omega)
              refine b_iload rfl rfl ?_
              refine b_bipush rfl ?_
              refine b_icmp_gt rfl (fun c_132 => ?_) (fun c_132 => ?_)
              · exact absurd c_132 c132
              · refine b_aload_n rfl rfl ?_
                refine b_getR rfl (by first | rfl | assumption) rfl (by assumption) ?_
                refine b_bipush rfl ?_
                refine b_iload_n rfl rfl ?_
                refine b_imul rfl ?_
                refine b_iload rfl rfl ?_
                refine b_iadd rfl ?_
                refine b_iaload rfl (by first | rfl | assumption) (hi_ix (9 * h + r) at_pm (by omega)) (by omega) ?_
                rw [e9]
                refine b_iload rfl rfl ?_
                refine b_icmp_le rfl (fun c_149 => ?_) (fun c_149 => ?_)
                · refine b_iload rfl rfl ?_
                  refine b_istore rfl (Nat.le_of_ble_eq_true rfl) ?_
                  refine b_iinc rfl rfl (Nat.le_of_ble_eq_true rfl) ?_
                  refine b_goto rfl ?_
                  exact b_lp ih2 (le_e (le_e (le_e (le_e (le_e (le_q (by rw [nI_succ]) le_0)))))) rfl rfl
                · exact absurd (show (0 : Int32) ≤ 0 by decide) c_149
          refine b_iload_n rfl rfl ?_
          refine b_bipush rfl ?_
          refine b_icmp_gt rfl (fun c_119 => ?_) (fun c_119 => ?_)
          · exact absurd c_119 c119
          · refine b_iconst rfl ?_
            refine b_istore rfl (Nat.le_of_ble_eq_true rfl) ?_
            refine b_iconst rfl ?_
            refine b_istore rfl (Nat.le_of_ble_eq_true rfl) ?_
            exact b_lp lr (le_e (le_e (le_e (le_e (le_e (le_q (by rfl) le_0)))))) rfl rfl
      refine b_iload_n rfl rfl ?_
      refine b_bipush rfl ?_
      refine b_icmp_gt rfl (fun c_34 => ?_) (fun c_34 => ?_)
      · exact absurd c_34 (by decide)
      · refine b_aload_n rfl rfl ?_
        refine b_getR rfl (by first | rfl | assumption) rfl (by assumption) ?_
        refine b_bipush rfl ?_
        refine b_iaload rfl (by first | rfl | assumption) i21 (by omega) ?_
        rw [e204, h0]
        refine b_if_le rfl (fun c_44 => ?_) (fun c_44 => ?_)
        · refine b_iconst rfl ?_
          refine b_istore_n rfl (Nat.le_of_ble_eq_true rfl) ?_
          refine b_iconst rfl ?_
          refine b_istore_n rfl (Nat.le_of_ble_eq_true rfl) ?_
          exact b_lp lz (le_e (le_e (le_e (le_q (by rfl) (le_n (le_n le_0)))))) rfl rfl
        · exact absurd (show nI 0 ≤ 0 by decide) c_44
    · have hv : v_ask N Q V = (hp_ N (qS Q) V 31).2 := by rw [v_ask, if_neg h0]
      rw [hv] at hPd
      obtain ⟨f, hf, ef⟩ := hVw.1 (by omega)
      have hpos : ¬ nI V.2.1 ≤ 0 := fun z => by
        have := (hi_le (nI_toInt (n := V.2.1) (by omega)) hi_t0).mp z
        omega
      have lp : ∀ I', hs_sm I J R (I', J, R) → (∀ x, x < 279 → I' 211 x = nI (cr N (qS Q) V pm 0 x)) → hn_B 6 hm_M_ask P 31 [.ref 188, .int (nI (cw N (qS Q) V 0)), .int (nI (0 + 1)), .null, .null, .null] [] (I', J, R) := by
        refine sp_ind 40 (fun i => ∀ I', hs_sm I J R (I', J, R) → (∀ x, x < 279 → I' 211 x = nI (cr N (qS Q) V pm i x)) → hn_B 6 hm_M_ask P 31 [.ref 188, .int (nI (cw N (qS Q) V i)), .int (nI (i + 1)), .null, .null, .null] [] (I', J, R)) ?_ ?_
        · intro I' hsm hc
          have lh := lh I' hsm hc
          rw [← hPd] at lh
          refine b_iload_n rfl rfl ?_
          refine b_bipush rfl ?_
          refine b_icmp_gt rfl (fun c_34 => ?_) (fun c_34 => ?_)
          · refine b_iconst rfl ?_
            refine b_istore_n rfl (Nat.le_of_ble_eq_true rfl) ?_
            refine b_iconst rfl ?_
            refine b_istore_n rfl (Nat.le_of_ble_eq_true rfl) ?_
            exact b_lp lh (le_e (le_e (le_e (le_q (by rfl) (le_n (le_n le_0)))))) rfl rfl
          · exact absurd (show (40 : Int32) < nI (40 + 1) by decide) c_34
        · intro i hi ih I' hsm hc
          have e204 : I' 204 21 = nI V.2.1 := (hsm.2.2.2.1 21 (by omega)).trans v1
          have hB' := hs_B_sm hB hsm
          have hV' : hs_Vm I' 0 V := hs_Vm_fr hV (fun j _ h2 => hsm.2.2.2.1 _ (by omega))
          have hs : cw N (qS Q) V (i + 1) = if al_pos N (qS Q) V (nI (i + 1)) then cw N (qS Q) V i + 1 else cw N (qS Q) V i := rfl
          rw [hs] at ih
          by_cases hp : al_pos N (qS Q) V (nI (i + 1))
          · rw [if_pos hp] at ih
            have hpls := al_pls (N := N) (s := qS Q) (w := nI (i + 1)) (f := V.1) (Or.inr ⟨f, hf, ef⟩)
            have lj : ∀ I2, hs_sm I J R (I2, J, R) → (∀ h, h ≤ 30 → I2 210 h = (al N (qS Q) (nI (i + 1)) V.1 h).2.1) → (∀ x, x < 279 → I2 211 x = nI (jn (cr N (qS Q) V pm i) (fun h => (al N (qS Q) (nI (i + 1)) V.1 h).2.1) pm 0 x)) → hn_B 6 hm_M_ask P 60 [.ref 188, .int (nI (cw N (qS Q) V i + 1)), .int (nI (i + 1)), .int (nI 0), .null, .null] [] (I2, J, R) := by
              refine sp_ind 31 (fun j => ∀ I2, hs_sm I J R (I2, J, R) → (∀ h, h ≤ 30 → I2 210 h = (al N (qS Q) (nI (i + 1)) V.1 h).2.1) → (∀ x, x < 279 → I2 211 x = nI (jn (cr N (qS Q) V pm i) (fun h => (al N (qS Q) (nI (i + 1)) V.1 h).2.1) pm j x)) → hn_B 6 hm_M_ask P 60 [.ref 188, .int (nI (cw N (qS Q) V i + 1)), .int (nI (i + 1)), .int (nI j), .null, .null] [] (I2, J, R)) ?_ ?_
              · intro I2 h2 hp2 hc2
                refine b_iload_n rfl rfl ?_
                refine b_bipush rfl ?_
                refine b_icmp_gt rfl (fun c_63 => ?_) (fun c_63 => ?_)
                · refine b_iinc rfl rfl (Nat.le_of_ble_eq_true rfl) ?_
                  refine b_goto rfl ?_
                  exact b_lp (ih I2 h2 (fun x hx => by rw [hc2 x hx, cr_next hp hx])) (le_e (le_e (le_q (by rw [nI_succ]) (le_n (le_n (le_n le_0)))))) rfl rfl
                · exact absurd (show (30 : Int32) < nI 31 by decide) c_63
              · intro j hj ih3 I2 h2 hp2 hc2
                obtain ⟨r, hr, er, er2⟩ := pm_of n8' (hpls j)
                have ej : I2 210 j = pm r := by rw [hp2 j (by omega), er]
                have c63 : ¬ (30 : Int32) < nI j := fun z => by
                  have := (hi_lt (show (30 : Int32).toInt = 30 from rfl) (nI_toInt (n := j) (by omega))).mp z
                  omega
                rw [er] at er2
                have fin : hn_B 6 hm_M_ask P 95 [.ref 188, .int (nI (cw N (qS Q) V i + 1)), .int (nI (i + 1)), .int (nI j), .null, .null] [.int (nI (9 * j + r)), .ref 211] (I2, J, R) := by
                  refine b_dup2_11 rfl rfl rfl ?_
                  refine b_iaload rfl (by first | rfl | assumption) (by first | assumption | exact nI_toInt (by omega) | exact hi_l0 | exact hi_l1 | exact hi_l2 | exact hi_l3 | exact hi_l4 | exact hi_l5 | exact hi_l6) (by omega) ?_
                  refine b_iconst rfl ?_
                  refine b_iadd rfl ?_
                  refine b_iastore rfl (by first | rfl | assumption) (by first | assumption | exact nI_toInt (by omega) | exact hi_l0 | exact hi_l1 | exact hi_l2 | exact hi_l3 | exact hi_l4 | exact hi_l5 | exact hi_l6) (by omega) ?_
                  refine b_iinc rfl rfl (Nat.le_of_ble_eq_true rfl) ?_
                  refine b_goto rfl ?_
                  exact b_lp (ih3 (hn_u I2 211 (9 * j + r) (I2 211 (9 * j + r) + 1)) (sm_y h2 (fun b hb => hn_u_ne _ _ _ (by omega))) (fun h hh => by rw [hn_u_ne _ _ _ (by omega)]; exact hp2 h hh) (fun x hx => by rw [hn_u_eq]; exact jn_step (fun a c ha hc h => pm_inj ha hc h) hc2 hr (by omega) er x hx)) (le_e (le_e (le_e (le_q (by rw [nI_succ]) (le_n (le_n le_0)))))) rfl rfl
                by_cases hneg : pm r < 0
                · rw [if_pos hneg] at er2
                  refine b_iload_n rfl rfl ?_
                  refine b_bipush rfl ?_
                  refine b_icmp_gt rfl (fun c_63 => ?_) (fun c_63 => ?_)
                  · exact absurd c_63 c63
                  · refine b_aload_n rfl rfl ?_
                    refine b_getR rfl (by first | rfl | assumption) rfl (by assumption) ?_
                    refine b_bipush rfl ?_
                    refine b_iload_n rfl rfl ?_
                    refine b_imul rfl ?_
                    refine b_aload_n rfl rfl ?_
                    refine b_getR rfl (by first | rfl | assumption) rfl (by assumption) ?_
                    refine b_iload_n rfl rfl ?_
                    refine b_iaload rfl (by first | rfl | assumption) (by first | assumption | exact nI_toInt (by omega) | exact hi_l0 | exact hi_l1 | exact hi_l2 | exact hi_l3 | exact hi_l4 | exact hi_l5 | exact hi_l6) (by omega) ?_
                    rw [ej]
                    refine b_if_ge rfl (fun c_80 => ?_) (fun c_80 => ?_)
                    · exact absurd hneg (Int32.not_lt.mpr c_80)
                    · refine b_bipush rfl ?_
                      refine b_goto rfl ?_
                      rw [er2]
                      refine b_iadd rfl ?_
                      rw [at_pm]; exact b_lp fin (le_e (le_e (le_e (le_e (le_n (le_n le_0)))))) rfl rfl
                · rw [if_neg hneg] at er2
                  refine b_iload_n rfl rfl ?_
                  refine b_bipush rfl ?_
                  refine b_icmp_gt rfl (fun c_63 => ?_) (fun c_63 => ?_)
                  · exact absurd c_63 c63
                  · refine b_aload_n rfl rfl ?_
                    refine b_getR rfl (by first | rfl | assumption) rfl (by assumption) ?_
                    refine b_bipush rfl ?_
                    refine b_iload_n rfl rfl ?_
                    refine b_imul rfl ?_
                    refine b_aload_n rfl rfl ?_
                    refine b_getR rfl (by first | rfl | assumption) rfl (by assumption) ?_
                    refine b_iload_n rfl rfl ?_
                    refine b_iaload rfl (by first | rfl | assumption) (by first | assumption | exact nI_toInt (by omega) | exact hi_l0 | exact hi_l1 | exact hi_l2 | exact hi_l3 | exact hi_l4 | exact hi_l5 | exact hi_l6) (by omega) ?_
                    rw [ej]
                    refine b_if_ge rfl (fun c_80 => ?_) (fun c_80 => ?_)
                    · refine b_aload_n rfl rfl ?_
                      refine b_getR rfl (by first | rfl | assumption) rfl (by assumption) ?_
                      refine b_iload_n rfl rfl ?_
                      refine b_iaload rfl (by first | rfl | assumption) (by first | assumption | exact nI_toInt (by omega) | exact hi_l0 | exact hi_l1 | exact hi_l2 | exact hi_l3 | exact hi_l4 | exact hi_l5 | exact hi_l6) (by omega) ?_
                      rw [ej, er2]
                      refine b_iadd rfl ?_
                      rw [at_pm]; exact b_lp fin (le_e (le_e (le_e (le_e (le_n (le_n le_0)))))) rfl rfl
                    · exact absurd (Int32.not_lt.mp hneg) c_80
            refine b_iload_n rfl rfl ?_
            refine b_bipush rfl ?_
            refine b_icmp_gt rfl (fun c_34 => ?_) (fun c_34 => ?_)
            · exact absurd c_34 (hi_gt40 hi)
            · refine b_aload_n rfl rfl ?_
              refine b_getR rfl (by first | rfl | assumption) rfl (by assumption) ?_
              refine b_bipush rfl ?_
              refine b_iaload rfl (by first | rfl | assumption) i21 (by omega) ?_
              rw [e204]
              refine b_if_le rfl (fun c_44 => ?_) (fun c_44 => ?_)
              · exact absurd c_44 hpos
              · refine b_aload_n rfl rfl ?_
                refine b_iload_n rfl rfl ?_
                refine b_callV rfl rfl hk_M_isAsSeen rfl rfl rfl (by first | rfl | assumption) rfl (Nat.le_of_ble_eq_true rfl) (q_M_isAsSeen hB' hV' hVw h0) (Nat.le_of_ble_eq_true rfl) (fun r_49 D_49 q_49 => ?_)
                obtain ⟨⟨I2, rfl, hf2, hp2⟩, hq⟩ := q_49
                have hq := (hq.resolve_right (fun z => z.1 hp)).2
                subst hq
                refine b_if_eq rfl (fun c_52 => ?_) (fun c_52 => ?_)
                · exact absurd c_52 (by decide)
                · refine b_iinc rfl rfl (Nat.le_of_ble_eq_true rfl) ?_
                  refine b_iconst rfl ?_
                  refine b_istore_n rfl (Nat.le_of_ble_eq_true rfl) ?_
                  exact b_lp (lj I2 (sm_y hsm (fun b hb => hf2 b (fun e => hb (by unfold hs_y1 at e; omega)))) hp2 (fun x hx => by rw [jn_0, hf2 211 (by unfold hs_y1; omega)]; exact hc x hx)) (le_e (le_q (by rw [nI_succ]) (le_e (le_q (by rfl) (le_n (le_n le_0)))))) rfl rfl
          · rw [if_neg hp] at ih
            refine b_iload_n rfl rfl ?_
            refine b_bipush rfl ?_
            refine b_icmp_gt rfl (fun c_34 => ?_) (fun c_34 => ?_)
            · exact absurd c_34 (hi_gt40 hi)
            · refine b_aload_n rfl rfl ?_
              refine b_getR rfl (by first | rfl | assumption) rfl (by assumption) ?_
              refine b_bipush rfl ?_
              refine b_iaload rfl (by first | rfl | assumption) i21 (by omega) ?_
              rw [e204]
              refine b_if_le rfl (fun c_44 => ?_) (fun c_44 => ?_)
              · exact absurd c_44 hpos
              · refine b_aload_n rfl rfl ?_
                refine b_iload_n rfl rfl ?_
                refine b_callV rfl rfl hk_M_isAsSeen rfl rfl rfl (by first | rfl | assumption) rfl (Nat.le_of_ble_eq_true rfl) (q_M_isAsSeen hB' hV' hVw h0) (Nat.le_of_ble_eq_true rfl) (fun r_49 D_49 q_49 => ?_)
                obtain ⟨⟨I2, rfl, hf2, hp2⟩, hq⟩ := q_49
                have hq := (hq.resolve_left (fun z => hp z.1)).2
                subst hq
                refine b_if_eq rfl (fun c_52 => ?_) (fun c_52 => ?_)
                · refine b_iinc rfl rfl (Nat.le_of_ble_eq_true rfl) ?_
                  refine b_goto rfl ?_
                  exact b_lp (ih I2 (sm_y hsm (fun b hb => hf2 b (fun e => hb (by unfold hs_y1 at e; omega)))) (fun x hx => by rw [hf2 211 (by unfold hs_y1; omega), hc x hx, cr_same hp])) (le_e (le_e (le_q (by rw [nI_succ]) (le_n (le_n (le_n le_0)))))) rfl rfl
                · exact absurd rfl c_52
      exact b_lp (lp I' hsm (fun x hx => by rw [hc x hx]; rfl)) (le_e (le_q (by rfl) (le_q (by rfl) (le_n (le_n (le_n le_0)))))) rfl rfl
  have l7 : ∀ I', hs_sm I J R (I', J, R) → (∀ x, x < 0 → I' 211 x = 0) → hn_B 6 hm_M_ask P 7 [.ref 188, .int (nI 0), .null, .null, .null, .null] [] (I', J, R) := by
    refine sp_ind 279 (fun k => ∀ I', hs_sm I J R (I', J, R) → (∀ x, x < k → I' 211 x = 0) → hn_B 6 hm_M_ask P 7 [.ref 188, .int (nI k), .null, .null, .null, .null] [] (I', J, R)) ?_ ?_
    · intro I' hsm hc9
      refine b_iload_n rfl rfl ?_
      refine b_sipush rfl ?_
      refine b_icmp_ge rfl (fun c_11 => ?_) (fun c_11 => ?_)
      · refine b_iconst rfl ?_
        refine b_istore_n rfl (Nat.le_of_ble_eq_true rfl) ?_
        refine b_iconst rfl ?_
        refine b_istore_n rfl (Nat.le_of_ble_eq_true rfl) ?_
        exact b_lp (l31 I' hsm hc9) (le_e (le_e (le_e (le_n (le_n (le_n le_0)))))) rfl rfl
      · exact absurd (show (279 : Int32) ≤ nI 279 by decide) c_11
    · intro k hk ih I' hsm hc9
      refine b_iload_n rfl rfl ?_
      refine b_sipush rfl ?_
      refine b_icmp_ge rfl (fun c_11 => ?_) (fun c_11 => ?_)
      · exact absurd c_11 (nI_ge (b := 279) hk (by omega))
      · refine b_aload_n rfl rfl ?_
        refine b_getR rfl (by first | rfl | assumption) rfl (by assumption) ?_
        refine b_iload_n rfl rfl ?_
        refine b_iconst rfl ?_
        refine b_iastore rfl (by first | rfl | assumption) (by first | assumption | exact nI_toInt (by omega) | exact hi_l0 | exact hi_l1 | exact hi_l2 | exact hi_l3 | exact hi_l4 | exact hi_l5 | exact hi_l6) (by omega) ?_
        refine b_iinc rfl rfl (Nat.le_of_ble_eq_true rfl) ?_
        refine b_goto rfl ?_
        exact b_lp (ih (hn_u I' 211 k 0) (sm_y hsm (fun b hb => hn_u_ne _ _ _ (by omega))) (fun x hx => by rw [hn_u_eq]; exact up_0 (fun e => hc9 x (by omega)))) (le_e (le_q (by rw [nI_succ]) (le_n (le_n (le_n (le_n le_0)))))) rfl rfl
  refine b_aload_n rfl rfl ?_
  refine b_iconst rfl ?_
  refine b_putI rfl (by first | rfl | assumption) rfl rfl ⟨rfl, rfl⟩ ?_
  have hs0 : hs_sm I J R (hn_u I 188 0 0, J, R) := hs_sm_0
  refine b_iconst rfl ?_
  refine b_istore_n rfl (Nat.le_of_ble_eq_true rfl) ?_
  exact b_lp (l7 (hn_u I 188 0 0) hs0 (fun x hx => absurd hx (by omega))) (le_e (le_q (by rw [nI_0]) (le_n (le_n (le_n (le_n le_0)))))) rfl rfl
end HNmask
