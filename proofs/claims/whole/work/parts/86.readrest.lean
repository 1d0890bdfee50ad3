section HNreadrest
variable {I I' : Nat → Nat → Int32} {J J' : Nat → Nat → Int64} {R R' : Nat → Nat → Option Nat}
/-- lines of a rest, one behind another -/
def p_rest (f : Nat → Nat) (n : Nat) (nm : Nat → Nat) (kn : Nat) (pm : Nat → Nat) (pn : Nat) : Nat → rd × sp_L → rd × sp_L
  | 0, x => x
  | m + 1, x => if x.1.1 = 0 ∧ ¬ (tq f n x.1.2).1 = 0 then p_rest f n nm kn pm pn m (p_rl f n nm kn pm pn x) else x
def lx_0 : sp_L := (0, fun _ => (0, 0, 0))
theorem hs_Nn_rs {t l kn pn : Nat} {nm pm : Nat → Nat} (h : hs_Nn I J t kn nm pn pm) (ht : t = 4 ∨ t = 20) (hl : l = 36 ∨ l = 40) (g : hs_rs I J R I' J' R' l) : hs_Nn I' J' t kn nm pn pm := by
  unfold hs_Nn at h ⊢
  rw [g.1 t (by omega) (by omega) (by omega) (by omega) (by omega), g.1 (t + 11) (by omega) (by omega) (by omega) (by omega) (by omega), g.2.1 (t + 1) (by omega), g.2.1 (t + 5) (by omega)]
  exact h
theorem hs_St_rs {a l : Nat} (h : hs_St R a) (hl : l = 36 ∨ l = 40) (g : hs_rs I J R I' J' R' l) : hs_St R' a := by
  obtain ⟨sa, sk0, sk1, sk2, sk3, sk4, g0, q1, q2, q3⟩ := h
  unfold hs_St
  rw [g.2.2.1 a (by omega) (by omega)]
  exact ⟨sa, sk0, sk1, sk2, sk3, sk4, g0, q1, q2, q3⟩
theorem hs_Net_rs {t l : Nat} (h : hs_Net R t) (hl : l = 36 ∨ l = 40) (g : hs_rs I J R I' J' R' l) : hs_Net R' t := by
  unfold hs_Net at h ⊢
  rw [g.2.2.1 t (by omega) (by omega), g.2.2.1 (t + 6) (by omega) (by omega)]
  exact h
theorem q_Reader_readRest {f : Nat → Nat} {n t l kn pn : Nat} {nm pm : Nat → Nat} (hR1 : R 1 0 = some 2) (hR3 : R 3 0 = some 1) (hSg : hs_Sg I f n) (h1 : I 1 1 = nI n) (hN : hs_Net R t) (hSt : hs_St R (t + 11)) (hn : hs_Nn I J t kn nm pn pm) (hL : hs_Lr R l) : hn_F 5 hm_Reader_readRest [.ref 3, .ref t, .ref l] (I, J, R) (fun r D' => r = some (.int (nI (p_rest f n nm kn pm pn 41 ((0, 0), lx_0)).1.1)) ∧ hs_Lz I J R l f n (p_rest f n nm kn pm pn 41 ((0, 0), lx_0)) D') := by
  refine hn_F_of _ hk_Reader_readRest rfl (Nat.le_of_ble_eq_true rfl) ?_
  have ht := hN.1
  have ll := hL.1
  have lk0 := hL.2.1
  obtain ⟨Z, hZ⟩ : ∃ Z, Z = p_rest f n nm kn pm pn 41 ((0, 0), lx_0) := ⟨_, rfl⟩
  rw [← hZ]
  obtain ⟨P, hP⟩ : ∃ P : Option Value → hnD → Prop, P = (fun r D' => r = some (.int (nI Z.1.1)) ∧ hs_Lz I J R l f n Z D') := ⟨_, rfl⟩
  rw [← hP]
  have S54 : ∀ (x : rd × sp_L) (I1 : Nat → Nat → Int32) (J1 : Nat → Nat → Int64) (R1 : Nat → Nat → Option Nat) (v : Value), hs_rs I J R I1 J1 R1 l → hs_Rd I1 J1 R1 f n x.1 → (x.1.1 = 0 → hs_Lx I1 R1 l x.2) → Z = x → hn_B 5 hm_Reader_readRest P 54 [.ref 3, .ref t, .ref l, v] [] (I1, J1, R1) := by
    intro x I1 J1 R1 v g1 k1 b1 hx
    refine b_aload_n rfl rfl ?_
    refine b_getI rfl (by first | rfl | assumption) rfl ?_
    rw [k1.2.2.2.2.1]
    exact b_ireturn rfl trivial ((by rw [hP, hx]; exact ⟨rfl, I1, J1, R1, rfl, g1, k1, b1⟩))
  have lp : ∀ (x : rd × sp_L) (I1 : Nat → Nat → Int32) (J1 : Nat → Nat → Int64) (R1 : Nat → Nat → Option Nat), hs_rs I J R I1 J1 R1 l → hs_Rd I1 J1 R1 f n x.1 → (x.1.1 = 0 → hs_Lx I1 R1 l x.2) → Z = p_rest f n nm kn pm pn (41 - 0) x → hn_B 5 hm_Reader_readRest P 19 [.ref 3, .ref t, .ref l, .int (nI 0)] [] (I1, J1, R1) := by
    refine sp_ind 41 (fun i => ∀ (x : rd × sp_L) (I1 : Nat → Nat → Int32) (J1 : Nat → Nat → Int64) (R1 : Nat → Nat → Option Nat), hs_rs I J R I1 J1 R1 l → hs_Rd I1 J1 R1 f n x.1 → (x.1.1 = 0 → hs_Lx I1 R1 l x.2) → Z = p_rest f n nm kn pm pn (41 - i) x → hn_B 5 hm_Reader_readRest P 19 [.ref 3, .ref t, .ref l, .int (nI i)] [] (I1, J1, R1)) ?_ ?_
    · intro x I1 J1 R1 g1 k1 b1 hx
      refine b_iload_n rfl rfl ?_
      refine b_bipush rfl ?_
      refine b_icmp_gt rfl (fun c_22 => ?_) (fun c_22 => ?_)
      · exact S54 x I1 J1 R1 _ g1 k1 b1 hx
      · exact absurd (show (40 : Int32) < nI 41 by decide) c_22
    · intro i hi ih x I1 J1 R1 g1 k1 b1 hx
      obtain ⟨m, hm, hm2⟩ : ∃ m, 41 - i = m + 1 ∧ 41 - (i + 1) = m := ⟨40 - i, by omega, by omega⟩
      rw [hm] at hx
      rw [hm2] at ih
      have i40 : (40 : Int32) < nI i ↔ 40 < i := nI_lt_c (c := 40) (by omega) (by omega)
      obtain ⟨s, L⟩ := x
      have k1 : hs_Rd I1 J1 R1 f n s := k1
      have b1 : s.1 = 0 → hs_Lx I1 R1 l L := b1
      have f1 := k1.2.2.2.2.1
      have f2 := k1.2.2.2.2.2
      have r30 := k1.2.1
      have h4 := k1.2.2.2.1.2.2.2.1
      have hp := tq_le f n s.2
      have hu : p_rest f n nm kn pm pn (m + 1) (s, L) = if s.1 = 0 ∧ ¬ (tq f n s.2).1 = 0 then p_rest f n nm kn pm pn m (p_rl f n nm kn pm pn (s, L)) else (s, L) := rfl
      rw [hu] at hx
      by_cases hc0 : s.1 = 0
      · by_cases hc1 : (tq f n s.2).1 = 0
        · rw [if_neg (fun z => z.2 hc1)] at hx
          refine b_iload_n rfl rfl ?_
          refine b_bipush rfl ?_
          refine b_icmp_gt rfl (fun c_22 => ?_) (fun c_22 => ?_)
          · exact absurd (i40.mp c_22) (by omega)
          · refine b_aload_n rfl rfl ?_
            refine b_getI rfl (by first | rfl | assumption) rfl ?_
            rw [f1, hc0]
            refine b_if_ne rfl (fun c_29 => ?_) (fun c_29 => ?_)
            · exact absurd rfl c_29
            · refine b_aload_n rfl rfl ?_
              refine b_getR rfl (by first | rfl | assumption) rfl (by assumption) ?_
              refine b_getI rfl (by first | rfl | assumption) rfl ?_
              rw [h4, hc1]
              refine b_if_eq rfl (fun c_39 => ?_) (fun c_39 => ?_)
              · exact S54 (s, L) I1 J1 R1 _ g1 k1 b1 hx
              · exact absurd rfl c_39
        · rw [if_pos ⟨hc0, hc1⟩] at hx
          have bx := b1 hc0
          refine b_iload_n rfl rfl ?_
          refine b_bipush rfl ?_
          refine b_icmp_gt rfl (fun c_22 => ?_) (fun c_22 => ?_)
          · exact absurd (i40.mp c_22) (by omega)
          · refine b_aload_n rfl rfl ?_
            refine b_getI rfl (by first | rfl | assumption) rfl ?_
            rw [f1, hc0]
            refine b_if_ne rfl (fun c_29 => ?_) (fun c_29 => ?_)
            · exact absurd rfl c_29
            · refine b_aload_n rfl rfl ?_
              refine b_getR rfl (by first | rfl | assumption) rfl (by assumption) ?_
              refine b_getI rfl (by first | rfl | assumption) rfl ?_
              rw [h4]
              refine b_if_eq rfl (fun c_39 => ?_) (fun c_39 => ?_)
              · exact absurd ((hi_nIe (k := 0) (by omega) (by omega)).mp c_39) hc1
              · refine b_aload_n rfl rfl ?_
                refine b_aload_n rfl rfl ?_
                refine b_aload_n rfl rfl ?_
                refine b_callV rfl rfl hk_Reader_readLine rfl rfl rfl (by first | rfl | assumption) rfl (Nat.le_of_ble_eq_true rfl) (q_Reader_readLine k1 hc0 (hs_Net_rs hN ll g1) (hs_St_rs hSt ll g1) (hs_Nn_rs hn ht ll g1) (hs_Lr_rs hL g1) bx) (Nat.le_of_ble_eq_true rfl) (fun r_45 D_45 q_45 => ?_)
                obtain ⟨rfl, I2, J2, R2, rfl, g2, k2, b2⟩ := q_45
                refine b_iinc rfl rfl (Nat.le_of_ble_eq_true rfl) ?_
                refine b_goto rfl ?_
                exact b_lp (ih (p_rl f n nm kn pm pn (s, L)) I2 J2 R2 (hs_rs_t g1 g2) k2 b2 hx) (le_e (le_e (le_e (le_q (by rw [nI_succ]) le_0)))) rfl rfl
      · rw [if_neg (fun z => hc0 z.1)] at hx
        refine b_iload_n rfl rfl ?_
        refine b_bipush rfl ?_
        refine b_icmp_gt rfl (fun c_22 => ?_) (fun c_22 => ?_)
        · exact absurd (i40.mp c_22) (by omega)
        · refine b_aload_n rfl rfl ?_
          refine b_getI rfl (by first | rfl | assumption) rfl ?_
          rw [f1]
          refine b_if_ne rfl (fun c_29 => ?_) (fun c_29 => ?_)
          · exact S54 (s, L) I1 J1 R1 _ g1 k1 b1 hx
          · exact absurd ((hi_nIe (k := 0) (by omega) (by omega)).mp c_29) hc0
  refine b_aload_n rfl rfl ?_
  refine b_iconst rfl ?_
  refine b_putI rfl (by first | rfl | assumption) rfl rfl ⟨rfl, rfl⟩ ?_
  refine b_aload_n rfl rfl ?_
  refine b_iconst rfl ?_
  refine b_putI rfl (by first | rfl | assumption) rfl rfl ⟨rfl, rfl⟩ ?_
  refine b_aload_n rfl rfl ?_
  refine b_getR rfl (by first | rfl | assumption) rfl (by assumption) ?_
  obtain ⟨I2, hI2⟩ : ∃ z, z = hn_u (hn_u I l 3 0) 3 1 0 := ⟨_, rfl⟩
  rw [← hI2]
  have f0 : ∀ b, b ≠ 3 → b ≠ l → I2 b = I b := fun b hb hl => by rw [hI2, hn_u_ne _ _ _ hb, hn_u_ne _ _ _ hl]
  refine b_callV rfl rfl hk_Tape_begin rfl rfl rfl (by first | rfl | assumption) rfl (Nat.le_of_ble_eq_true rfl) (q_Tape_begin (f := f) (n := n) hR1 ⟨hSg.1, fun i hi => by rw [f0 2 (by omega) (by omega)]; exact hSg.2 i hi⟩ (by rw [f0 1 (by omega) (by omega)]; exact h1)) (Nat.le_of_ble_eq_true rfl) (fun r_14 D_14 q_14 => ?_)
  obtain ⟨rfl, I3, J3, R3, rfl, g3, k3⟩ := q_14
  refine b_iconst rfl ?_
  refine b_istore_n rfl (Nat.le_of_ble_eq_true rfl) ?_
  exact b_lp (lp ((0, 0), lx_0) I3 J3 R3 ⟨fun b b1 b3 bl _ _ => by rw [g3.1 b b1, f0 b b3 bl], g3.2.1, fun b b1 _ => g3.2.2.1 b b1, g3.2.2.2⟩ ⟨by rw [g3.2.2.2 0 (by omega)]; exact hR1, by rw [g3.2.2.1 3 (by omega)]; exact hR3, ⟨hSg.1, fun i hi => by rw [g3.1 2 (by omega), f0 2 (by omega) (by omega)]; exact hSg.2 i hi⟩, k3, by rw [g3.1 3 (by omega), hI2, hn_u_eq, va_up, if_pos rfl]; rfl, by show 0 < 20000; omega⟩ (fun _ => ⟨by rw [g3.1 l (by omega), hI2, hn_u_ne _ _ _ (by omega), hn_u_eq, va_up, if_pos rfl]; rfl, (by show 0 ≤ 40; omega), fun i hi => absurd hi (by show ¬ i < 0; omega)⟩) hZ) (le_e (le_e (le_e (le_q (by rfl) le_0)))) rfl rfl
/-! lines told are of the net's knots and persons -/
theorem p_rl_1 {f : Nat → Nat} {n kn pn : Nat} {nm pm : Nat → Nat} {s : rd} {L : sp_L} (h : (p_rl f n nm kn pm pn (s, L)).1.1 = 0) (hw : hs_Lw kn pn L) : hs_Lw kn pn (p_rl f n nm kn pm pn (s, L)).2 := by
  have add : ∀ e : Nat × Nat × Nat, (e.1 ≤ 4 ∧ (e.1 = 1 ∨ e.1 = 2 ∨ e.1 = 3 → e.2.1 < pn) ∧ (e.1 = 4 → e.2.1 < kn ∧ ¬ e.2.1 = e.2.2) ∧ (ln_1 e.1 → e.2.2 < kn)) → hs_Lw kn pn (lx_add L e) := by
    intro e he i hi
    have hi : i < L.1 + 1 := hi
    have e1 : (lx_add L e).2 i = if i = L.1 then e else L.2 i := rfl
    rw [e1]
    by_cases hk : i = L.1
    · rw [if_pos hk]; exact he
    · rw [if_neg hk]; exact hw i (by omega)
  obtain ⟨s1, hs1⟩ : ∃ s1, s1 = p_u f n (40 ≤ L.1) 5 s := ⟨_, rfl⟩
  have hs11 : s1.1 = 0 → s1 = (0, s.2 + 1) := fun z => by
    rw [hs1] at z ⊢
    exact (p_u_1 (by omega) z).2
  by_cases w10 : wx (tq f n s.2) = 10
  · have hl : p_rl f n nm kn pm pn (s, L) = (p_e f n s1, lx_add L (0, 0, 0)) := by rw [hs1]; exact if_pos w10
    rw [hl]
    exact add _ ⟨by show 0 ≤ 4; omega, (fun z => by rcases z with z | z | z <;> cases z), (fun z => by cases z), (fun z => by rcases z with z | z | z <;> cases z)⟩
  by_cases w11 : wx (tq f n s.2) = 11
  · have hl : p_rl f n nm kn pm pn (s, L) = (p_e f n (p_kt f n nm kn (p_kt f n pm pn s1)), lx_add L (1, (o_k f n pm pn (0, s.2 + 1)).getD 0, (o_k f n nm kn (0, s.2 + 2)).getD 0)) := by rw [hs1]; exact (if_neg w10).trans (if_pos w11)
    rw [hl] at h ⊢
    have a1 := p_kt_1 (p_e_1 h).1; have a2 := p_kt_1 a1.1.1; have a3 := hs11 a2.1.1; rw [a2.2.2] at a1; rw [a3] at a1 a2; obtain ⟨x, hx1, hx⟩ := a2.2.1; obtain ⟨y, hy1, hy⟩ := a1.2.1
    rw [hx1, show o_k f n nm kn (0, s.2 + 2) = some y from hy1]
    exact add _ ⟨by show 1 ≤ 4; omega, fun _ => hx, (fun z => by cases z), fun _ => hy⟩
  by_cases w12 : wx (tq f n s.2) = 12
  · have hl : p_rl f n nm kn pm pn (s, L) = (p_e f n (p_kt f n pm pn s1), lx_add L (2, (o_k f n pm pn (0, s.2 + 1)).getD 0, 0)) := by rw [hs1]; exact ((if_neg w10).trans (if_neg w11)).trans (if_pos w12)
    rw [hl] at h ⊢
    have a2 := p_kt_1 (p_e_1 h).1; have a3 := hs11 a2.1.1; rw [a3] at a2; obtain ⟨x, hx1, hx⟩ := a2.2.1
    rw [hx1]
    exact add _ ⟨by show 2 ≤ 4; omega, fun _ => hx, (fun z => by cases z), fun z => by rcases z with z | z | z <;> cases z⟩
  by_cases w13 : wx (tq f n s.2) = 13
  · have hl : p_rl f n nm kn pm pn (s, L) = (p_e f n (p_kt f n nm kn (p_kt f n pm pn s1)), lx_add L (3, (o_k f n pm pn (0, s.2 + 1)).getD 0, (o_k f n nm kn (0, s.2 + 2)).getD 0)) := by rw [hs1]; exact (((if_neg w10).trans (if_neg w11)).trans (if_neg w12)).trans (if_pos w13)
    rw [hl] at h ⊢
    have a1 := p_kt_1 (p_e_1 h).1; have a2 := p_kt_1 a1.1.1; have a3 := hs11 a2.1.1; rw [a2.2.2] at a1; rw [a3] at a1 a2; obtain ⟨x, hx1, hx⟩ := a2.2.1; obtain ⟨y, hy1, hy⟩ := a1.2.1
    rw [hx1, show o_k f n nm kn (0, s.2 + 2) = some y from hy1]
    exact add _ ⟨by show 3 ≤ 4; omega, fun _ => hx, (fun z => by cases z), fun _ => hy⟩
  by_cases w14 : wx (tq f n s.2) = 14
  · have hl : p_rl f n nm kn pm pn (s, L) = (p_e f n (p_o f n nm kn (oI (o_k f n nm kn s1)) 0 (p_kt f n nm kn s1)), lx_add L (4, (o_k f n nm kn (0, s.2 + 1)).getD 0, (o_k f n nm kn (0, s.2 + 2)).getD 0)) := by rw [hs1]; exact ((((if_neg w10).trans (if_neg w11)).trans (if_neg w12)).trans (if_neg w13)).trans (if_pos w14)
    rw [hl] at h ⊢
    have a1 := p_o_1 (p_e_1 h).1; have a2 := p_kt_1 a1.1.1; have a3 := hs11 a2.1.1; rw [a2.2.2] at a1; rw [a3] at a1 a2; obtain ⟨x, hx1, hx⟩ := a2.2.1; obtain ⟨y, hy1, hy, hyx, _⟩ := a1.2.1
    rw [show o_k f n nm kn (0, s.2 + 1) = some x from hx1] at hyx ⊢
    rw [show o_k f n nm kn (0, s.2 + 2) = some y from hy1]
    exact add _ ⟨by show 4 ≤ 4; omega, (fun z => by rcases z with z | z | z <;> cases z), fun _ => ⟨hx, fun z => hyx (by rw [show y = x from z.symm]; rfl)⟩, fun _ => hy⟩
  have hl : p_rl f n nm kn pm pn (s, L) = (fl f n 1 s, L) := ((((if_neg w10).trans (if_neg w11)).trans (if_neg w12)).trans (if_neg w13)).trans (if_neg w14)
  rw [hl]
  exact hw
theorem p_rest_w {f : Nat → Nat} {n kn pn : Nat} {nm pm : Nat → Nat} : ∀ {m : Nat} {x : rd × sp_L}, (p_rest f n nm kn pm pn m x).1.1 = 0 → (x.1.1 = 0 → hs_Lw kn pn x.2) → hs_Lw kn pn (p_rest f n nm kn pm pn m x).2
  | 0, x, h, hw => hw h
  | m + 1, (s, L), h, hw => by
    have hu : p_rest f n nm kn pm pn (m + 1) (s, L) = if s.1 = 0 ∧ ¬ (tq f n s.2).1 = 0 then p_rest f n nm kn pm pn m (p_rl f n nm kn pm pn (s, L)) else (s, L) := rfl
    rw [hu] at h ⊢
    by_cases hc : s.1 = 0 ∧ ¬ (tq f n s.2).1 = 0
    · rw [if_pos hc] at h ⊢
      exact p_rest_w h (fun z => p_rl_1 z (hw hc.1))
    · rw [if_neg hc] at h ⊢
      exact hw h
end HNreadrest
