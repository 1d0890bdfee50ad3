section HNreadline
variable {I I' : Nat → Nat → Int32} {J J' : Nat → Nat → Int64} {R R' : Nat → Nat → Option Nat}
theorem q_Rest_add {l z w : Nat} {a b : Int32} (hL : hs_Lr R l) (hz : I l 3 = nI z) (h : z < 40) (hw : w < 26) : hn_F 0 hm_Rest_add [.ref l, .ref (5000 + w), .int a, .int b] (I, J, R) (fun r D' => r = none ∧ D' = (hn_u (hn_u (hn_u I (l + 2) z a) (l + 3) z b) l 3 (nI (z + 1)), J, hn_u R (l + 1) z (some (5000 + w)))) := by
  refine hn_F_of _ hk_Rest_add rfl (Nat.le_of_ble_eq_true rfl) ?_
  obtain ⟨ll, t0, t1, t2, t3, l0, l1, l2⟩ := hL
  have n12 : hn_u R (l + 1) z (some (5000 + w)) l 1 = some (l + 2) := by rw [hn_u_ne _ _ _ (by omega)]; exact l1
  have n13 : hn_u R (l + 1) z (some (5000 + w)) l 2 = some (l + 3) := by rw [hn_u_ne _ _ _ (by omega)]; exact l2
  have i3 : hn_u I (l + 2) z a l 3 = nI z := by rw [hn_u_ne _ _ _ (by omega)]; exact hz
  have i4 : hn_u (hn_u I (l + 2) z a) (l + 3) z b l 3 = nI z := by rw [hn_u_ne _ _ _ (by omega)]; exact i3
  refine b_aload_n rfl rfl ?_
  refine b_getI rfl (by first | rfl | assumption) rfl ?_
  rw [hz]
  refine b_bipush rfl ?_
  refine b_icmp_ge rfl (fun c_6 => ?_) (fun c_6 => ?_)
  · exact absurd c_6 (nI_ge (b := 40) h (by omega))
  · refine b_aload_n rfl rfl ?_
    refine b_getR rfl (by first | rfl | assumption) rfl (by assumption) ?_
    refine b_aload_n rfl rfl ?_
    refine b_getI rfl (by first | rfl | assumption) rfl ?_
    rw [hz]
    refine b_aload_n rfl rfl ?_
    refine b_aastoreW rfl (by first | rfl | assumption) (nI_toInt (n := z) (by omega)) (by omega) (by omega) ?_
    refine b_aload_n rfl rfl ?_
    refine b_getR rfl (by first | rfl | assumption) rfl (by assumption) ?_
    refine b_aload_n rfl rfl ?_
    refine b_getI rfl (by first | rfl | assumption) rfl ?_
    rw [hz]
    refine b_iload_n rfl rfl ?_
    refine b_iastore rfl (by first | rfl | assumption) (nI_toInt (n := z) (by omega)) (by omega) ?_
    refine b_aload_n rfl rfl ?_
    refine b_getR rfl (by first | rfl | assumption) rfl (by assumption) ?_
    refine b_aload_n rfl rfl ?_
    refine b_getI rfl (by first | rfl | assumption) rfl ?_
    rw [i3]
    refine b_iload_n rfl rfl ?_
    refine b_iastore rfl (by first | rfl | assumption) (nI_toInt (n := z) (by omega)) (by omega) ?_
    refine b_aload_n rfl rfl ?_
    refine b_dup rfl rfl ?_
    refine b_getI rfl (by first | rfl | assumption) rfl ?_
    rw [i4]
    refine b_iconst rfl ?_
    refine b_iadd rfl ?_
    rw [← nI_succ]
    refine b_putI rfl (by first | rfl | assumption) rfl rfl ⟨rfl, rfl⟩ ?_
    exact b_return_ rfl trivial (⟨rfl, rfl⟩)
def lx_add (L : sp_L) (e : Nat × Nat × Nat) : sp_L := (L.1 + 1, fun i => if i = L.1 then e else L.2 i)
/-- a line of a rest -/
def p_rl (f : Nat → Nat) (n : Nat) (nm : Nat → Nat) (kn : Nat) (pm : Nat → Nat) (pn : Nat) (x : rd × sp_L) : rd × sp_L :=
  let s := x.1
  let L := x.2
  let s1 := p_u f n (40 ≤ L.1) 5 s
  let k := fun j => (o_k f n nm kn (0, s.2 + j)).getD 0
  let p := fun j => (o_k f n pm pn (0, s.2 + j)).getD 0
  if wx (tq f n s.2) = 10 then (p_e f n s1, lx_add L (0, 0, 0))
  else if wx (tq f n s.2) = 11 then (p_e f n (p_kt f n nm kn (p_kt f n pm pn s1)), lx_add L (1, p 1, k 2))
  else if wx (tq f n s.2) = 12 then (p_e f n (p_kt f n pm pn s1), lx_add L (2, p 1, 0))
  else if wx (tq f n s.2) = 13 then (p_e f n (p_kt f n nm kn (p_kt f n pm pn s1)), lx_add L (3, p 1, k 2))
  else if wx (tq f n s.2) = 14 then (p_e f n (p_o f n nm kn (oI (o_k f n nm kn s1)) 0 (p_kt f n nm kn s1)), lx_add L (4, k 1, k 2))
  else (fl f n 1 s, L)
/-- what a rest's reading may change -/
def hs_rs (I : Nat → Nat → Int32) (J : Nat → Nat → Int64) (R : Nat → Nat → Option Nat) (I' : Nat → Nat → Int32) (J' : Nat → Nat → Int64) (R' : Nat → Nat → Option Nat) (l : Nat) : Prop := (∀ b, b ≠ 1 → b ≠ 3 → b ≠ l → b ≠ l + 2 → b ≠ l + 3 → I' b = I b) ∧ (∀ b, b ≠ 1 → J' b = J b) ∧ (∀ b, b ≠ 1 → b ≠ l + 1 → R' b = R b) ∧ ∀ i, i ≠ 5 → R' 1 i = R 1 i
theorem hs_rs_t {I2 : Nat → Nat → Int32} {J2 : Nat → Nat → Int64} {R2 : Nat → Nat → Option Nat} {l : Nat} (h : hs_rs I J R I' J' R' l) (g : hs_rs I' J' R' I2 J2 R2 l) : hs_rs I J R I2 J2 R2 l :=
  ⟨fun b b1 b3 b0 b2 b33 => (g.1 b b1 b3 b0 b2 b33).trans (h.1 b b1 b3 b0 b2 b33), fun b b1 => (g.2.1 b b1).trans (h.2.1 b b1), fun b b1 bl => (g.2.2.1 b b1 bl).trans (h.2.2.1 b b1 bl), fun i hi => (g.2.2.2 i hi).trans (h.2.2.2 i hi)⟩
theorem hs_rs_rf {l : Nat} (g : hs_rf I J R I' J' R') : hs_rs I J R I' J' R' l := ⟨fun b b1 b3 _ _ _ => g.1 b b1 b3, g.2.1, fun b b1 _ => g.2.2.1 b b1, g.2.2.2⟩
theorem hs_Lr_rs {l : Nat} (h : hs_Lr R l) (g : hs_rs I J R I' J' R' l) : hs_Lr R' l := by
  obtain ⟨ll, t0, t1, t2, t3, l0, l1, l2⟩ := h
  exact ⟨ll, t0, t1, t2, t3, by rw [g.2.2.1 l (by omega) (by omega)]; exact l0, by rw [g.2.2.1 l (by omega) (by omega)]; exact l1, by rw [g.2.2.1 l (by omega) (by omega)]; exact l2⟩
theorem hs_Lx_rf {l : Nat} {L : sp_L} (h : hs_Lx I R l L) (ll : l = 36 ∨ l = 40) (g : hs_rf I J R I' J' R') : hs_Lx I' R' l L := by
  unfold hs_Lx at h ⊢
  rw [g.1 l (by omega) (by omega), g.1 (l + 2) (by omega) (by omega), g.1 (l + 3) (by omega) (by omega), g.2.2.1 (l + 1) (by omega)]
  exact h
theorem hs_Lx_add {l a : Nat} {x y : Int32} {e : Nat × Nat} {L : sp_L} (h : hs_Lx I R l L) (h40 : L.1 < 40) (hx : ¬ a = 0 → x = nI e.1) (hy : ln_1 a → y = nI e.2) : hs_Lx (hn_u (hn_u (hn_u I (l + 2) L.1 x) (l + 3) L.1 y) l 3 (nI (L.1 + 1))) (hn_u R (l + 1) L.1 (some (5010 + a))) l (lx_add L (a, e)) := by
  obtain ⟨h1, h2, h3⟩ := h
  refine ⟨by rw [hn_u_eq, va_up, if_pos rfl]; rfl, h40, fun i hi => ?_⟩
  have hi : i < L.1 + 1 := hi
  rw [hn_u_eq, hn_u_ne _ _ _ (show l + 2 ≠ l by omega), hn_u_ne _ _ _ (show l + 2 ≠ l + 3 by omega), hn_u_eq, hn_u_ne _ _ _ (show l + 3 ≠ l by omega), hn_u_eq, hn_u_ne _ _ _ (show l + 3 ≠ l + 2 by omega)]
  show va_up (R (l + 1)) L.1 (some (5010 + a)) i = some (5010 + (if i = L.1 then (a, e) else L.2 i).1) ∧ (¬ (if i = L.1 then (a, e) else L.2 i).1 = 0 → va_up (I (l + 2)) L.1 x i = nI (if i = L.1 then (a, e) else L.2 i).2.1) ∧ (ln_1 (if i = L.1 then (a, e) else L.2 i).1 → va_up (I (l + 3)) L.1 y i = nI (if i = L.1 then (a, e) else L.2 i).2.2)
  unfold va_up
  by_cases hk : i = L.1
  · rw [if_pos hk, if_pos hk, if_pos hk, if_pos hk]
    exact ⟨rfl, hx, hy⟩
  · rw [if_neg hk, if_neg hk, if_neg hk, if_neg hk]
    exact h3 i (by omega)
theorem hs_Rd_IR {f : Nat → Nat} {n : Nat} {s : rd} (h : hs_Rd I J R f n s) (g : ∀ b, b = 1 ∨ b = 2 ∨ b = 3 → I' b = I b) (gR : ∀ b, b = 1 ∨ b = 3 → R' b = R b) : hs_Rd I' J R' f n s := by
  obtain ⟨h1, h2, h3, h4, h5, h6⟩ := h
  refine ⟨by rw [gR 1 (by omega)]; exact h1, by rw [gR 3 (by omega)]; exact h2, ⟨h3.1, fun i hi => by rw [g 2 (by omega)]; exact h3.2 i hi⟩, ?_, by rw [g 3 (by omega)]; exact h5, h6⟩
  unfold hs_Tk
  rw [g 1 (by omega), gR 1 (by omega)]
  exact h4
def hs_Lz (I : Nat → Nat → Int32) (J : Nat → Nat → Int64) (R : Nat → Nat → Option Nat) (l : Nat) (f : Nat → Nat) (n : Nat) (x : rd × sp_L) (D' : hnD) : Prop := ∃ I2 J2 R2, D' = (I2, J2, R2) ∧ hs_rs I J R I2 J2 R2 l ∧ hs_Rd I2 J2 R2 f n x.1 ∧ (x.1.1 = 0 → hs_Lx I2 R2 l x.2)
theorem q_Reader_readLine {f : Nat → Nat} {n t l kn pn : Nat} {nm pm : Nat → Nat} {s : rd} {L : sp_L} (h : hs_Rd I J R f n s) (h0 : s.1 = 0) (hN : hs_Net R t) (hSt : hs_St R (t + 11)) (hn : hs_Nn I J t kn nm pn pm) (hL : hs_Lr R l) (hx : hs_Lx I R l L) : hn_F 4 hm_Reader_readLine [.ref 3, .ref t, .ref l] (I, J, R) (fun r D' => r = none ∧ hs_Lz I J R l f n (p_rl f n nm kn pm pn (s, L)) D') := by
  refine hn_F_of _ hk_Reader_readLine rfl (Nat.le_of_ble_eq_true rfl) ?_
  have ht := hN.1
  have ll := hL.1
  have l0k := hL.2.1
  obtain ⟨hr1, hr3, hS, hk, hf, hs⟩ := id h
  have h5 := hk.2.2.2.2.1
  have hwx := wx_lt (tq f n s.2)
  obtain ⟨Z, hZ⟩ : ∃ Z, Z = p_rl f n nm kn pm pn (s, L) := ⟨_, rfl⟩
  rw [← hZ]
  obtain ⟨w, hw⟩ : ∃ w, w = wx (tq f n s.2) := ⟨_, rfl⟩
  rw [← hw] at h5 hwx
  obtain ⟨s1, hs1⟩ : ∃ s1, s1 = p_u f n (40 ≤ L.1) 5 s := ⟨_, rfl⟩
  have hs11 : s1.1 = 0 → L.1 < 40 ∧ s1 = (0, s.2 + 1) := fun z => by
    rw [hs1] at z ⊢
    have := p_u_1 (by omega) z
    exact ⟨Nat.lt_of_not_le this.1, this.2⟩
  obtain ⟨P, hP⟩ : ∃ P : Option Value → hnD → Prop, P = (fun r D' => r = none ∧ hs_Lz I J R l f n Z D') := ⟨_, rfl⟩
  rw [← hP]
  have h340 : nI L.1 < 40 ↔ L.1 < 40 := nI_lt_c (k := 40) (by have := hx.2.1; omega) (by omega)
  have S143 : ∀ (a : Nat) (e : Nat × Nat) (v5 v6 : Int32) (bp : Value) (s4 : rd) (I4 : Nat → Nat → Int32) (J4 : Nat → Nat → Int64) (R4 : Nat → Nat → Option Nat), w = 10 + a → a ≤ 4 → hs_rf I J R I4 J4 R4 → hs_Rd I4 J4 R4 f n s4 → Z = (p_e f n s4, lx_add L (a, e)) → ((p_e f n s4).1 = 0 → L.1 < 40 ∧ (¬ a = 0 → v5 = nI e.1) ∧ (ln_1 a → v6 = nI e.2)) → hn_B 4 hm_Reader_readLine P 143 [.ref 3, .ref t, .ref l, .ref (5000 + w), bp, .int v5, .int v6] [] (I4, J4, R4) := by
    intro a e v5 v6 bp s4 I4 J4 R4 hwa ha4 g4 k4 hz hv
    refine b_aload_n rfl rfl ?_
    refine b_callV rfl rfl hk_Reader_takeEnd rfl rfl rfl (by first | rfl | assumption) rfl (Nat.le_of_ble_eq_true rfl) (q_Reader_takeEnd k4) (Nat.le_of_ble_eq_true rfl) (fun r_144 D_144 q_144 => ?_)
    obtain ⟨rfl, I5, J5, R5, rfl, g5, k5⟩ := q_144
    have gg := hs_rf_t g4 g5
    have e5 := k5.2.2.2.2.1
    have b5 := k5.2.2.2.2.2
    have x5 := hs_Lx_rf hx ll gg
    have r5 := hs_Lr_rs hL (hs_rs_rf gg)
    refine b_aload_n rfl rfl ?_
    refine b_getI rfl (by first | rfl | assumption) rfl ?_
    rw [e5]
    refine b_if_ne rfl (fun c_151 => ?_) (fun c_151 => ?_)
    · exact b_return_ rfl trivial ((by rw [hP, hz]; first | exact ⟨rfl, _, _, _, rfl, hs_rs_rf gg, k5, fun z => absurd (show nI (p_e f n s4).1 = 0 by rw [z]; rfl) c_151⟩ | exact ⟨rfl, _, _, _, rfl, ⟨fun b b1 b3 b0 b2 b33 => by rw [hn_u_ne _ _ _ b0, hn_u_ne _ _ _ b33, hn_u_ne _ _ _ b2]; exact gg.1 b b1 b3, gg.2.1, fun b b1 bl => by rw [hn_u_ne _ _ _ bl]; exact gg.2.2.1 b b1, fun i hi => by rw [hn_u_ne _ _ _ (by omega)]; exact gg.2.2.2 i hi⟩, hs_Rd_IR k5 (fun b hb => by rw [hn_u_ne _ _ _ (by omega), hn_u_ne _ _ _ (by omega), hn_u_ne _ _ _ (by omega)]) (fun b hb => hn_u_ne _ _ _ (by omega)), fun _ => by rw [show 5000 + w = 5010 + a by omega]; exact hs_Lx_add x5 hvv.1 hvv.2.1 hvv.2.2⟩))
    · have hz0 := (hi_nIe (i := (p_e f n s4).1) (k := 0) (by omega) (by omega)).mp c_151
      have hvv := hv hz0
      refine b_aload_n rfl rfl ?_
      refine b_aload_n rfl rfl ?_
      refine b_iload rfl rfl ?_
      refine b_iload rfl rfl ?_
      refine b_callV rfl rfl hk_Rest_add rfl rfl rfl (by first | rfl | assumption) rfl (Nat.le_of_ble_eq_true rfl) (q_Rest_add r5 x5.1 hvv.1 hwx) (Nat.le_of_ble_eq_true rfl) (fun r_160 D_160 q_160 => ?_)
      obtain ⟨rfl, rfl⟩ := q_160
      exact b_return_ rfl trivial ((by rw [hP, hz]; first | exact ⟨rfl, _, _, _, rfl, hs_rs_rf gg, k5, fun z => absurd (show nI (p_e f n s4).1 = 0 by rw [z]; rfl) c_151⟩ | exact ⟨rfl, _, _, _, rfl, ⟨fun b b1 b3 b0 b2 b33 => by rw [hn_u_ne _ _ _ b0, hn_u_ne _ _ _ b33, hn_u_ne _ _ _ b2]; exact gg.1 b b1 b3, gg.2.1, fun b b1 bl => by rw [hn_u_ne _ _ _ bl]; exact gg.2.2.1 b b1, fun i hi => by rw [hn_u_ne _ _ _ (by omega)]; exact gg.2.2.2 i hi⟩, hs_Rd_IR k5 (fun b hb => by rw [hn_u_ne _ _ _ (by omega), hn_u_ne _ _ _ (by omega), hn_u_ne _ _ _ (by omega)]) (fun b hb => hn_u_ne _ _ _ (by omega)), fun _ => by rw [show 5000 + w = 5010 + a by omega]; exact hs_Lx_add x5 hvv.1 hvv.2.1 hvv.2.2⟩))
  by_cases w10 : w = 10
  · have hl : Z = (p_e f n s1, lx_add L (0, 0, 0)) := by rw [hZ, hs1]; exact if_pos (hw.symm.trans w10)
    have S76 : ∀ b, fg (40 ≤ L.1) b → hn_B 4 hm_Reader_readLine P 76 [.ref 3, .ref t, .ref l, .ref (5000 + w), .int 0, .null, .null] [.int b, .ref 3] (I, J, R) := by
      intro b hb
      refine b_iconst rfl ?_
      refine b_callV rfl rfl hk_Reader_takeUnless rfl rfl rfl (by first | rfl | assumption) rfl (Nat.le_of_ble_eq_true rfl) (q_Reader_takeUnless (c := 5) h h0 hb (by omega)) (Nat.le_of_ble_eq_true rfl) (fun r_77 D_77 q_77 => ?_)
      obtain ⟨rfl, I1, J1, R1, rfl, g1, k1⟩ := q_77
      rw [← hs1] at k1
      refine b_iconst rfl ?_
      refine b_istore rfl (Nat.le_of_ble_eq_true rfl) ?_
      refine b_iconst rfl ?_
      refine b_istore rfl (Nat.le_of_ble_eq_true rfl) ?_
      refine b_iload rfl rfl ?_
      refine b_if_eq rfl (fun c_88 => ?_) (fun c_88 => ?_)
      · refine b_aload_n rfl rfl ?_
        refine b_getsW rfl ?_
        refine b_acmp_eq rfl (by omega) (by omega) (fun c_102 => ?_) (fun c_102 => ?_)
        · exact absurd (show 5000 + w = 5011 from c_102) (by omega)
        · refine b_aload_n rfl rfl ?_
          refine b_getsW rfl ?_
          refine b_acmp_ne rfl (by omega) (by omega) (fun c_109 => ?_) (fun c_109 => ?_)
          · refine b_aload_n rfl rfl ?_
            refine b_getsW rfl ?_
            refine b_acmp_ne rfl (by omega) (by omega) (fun c_123 => ?_) (fun c_123 => ?_)
            · exact S143 0 (0, 0) _ _ _ s1 _ _ _ w10 (by omega) g1 k1 hl (fun z => ⟨(hs11 (p_e_1 z).1).1, fun z => absurd rfl z, fun z => by rcases z with z | z | z <;> cases z⟩)
            · exact absurd (show 5000 + w = 5014 from c_123) (by omega)
          · exact absurd (show 5000 + w = 5013 from c_109) (by omega)
      · exact absurd rfl c_88
    refine b_aload_n rfl rfl ?_
    refine b_getR rfl (by first | rfl | assumption) rfl (by assumption) ?_
    refine b_getR rfl (by first | rfl | assumption) rfl h5 ?_
    refine b_astore_n rfl (Nat.le_of_ble_eq_true rfl) ?_
    refine b_aload_n rfl rfl ?_
    refine b_getsW rfl ?_
    refine b_acmp_eq rfl (by omega) (by omega) (fun c_12 => ?_) (fun c_12 => ?_)
    · exact absurd (show 5000 + w = 5011 from c_12) (by omega)
    · refine b_aload_n rfl rfl ?_
      refine b_getsW rfl ?_
      refine b_acmp_eq rfl (by omega) (by omega) (fun c_19 => ?_) (fun c_19 => ?_)
      · exact absurd (show 5000 + w = 5012 from c_19) (by omega)
      · refine b_aload_n rfl rfl ?_
        refine b_getsW rfl ?_
        refine b_acmp_ne rfl (by omega) (by omega) (fun c_26 => ?_) (fun c_26 => ?_)
        · refine b_iconst rfl ?_
          refine b_istore rfl (Nat.le_of_ble_eq_true rfl) ?_
          refine b_iload rfl rfl ?_
          refine b_if_ne rfl (fun c_38 => ?_) (fun c_38 => ?_)
          · exact absurd rfl c_38
          · refine b_aload_n rfl rfl ?_
            refine b_getsW rfl ?_
            refine b_acmp_eq rfl (by omega) (by omega) (fun c_45 => ?_) (fun c_45 => ?_)
            · refine b_aload_n rfl rfl ?_
              refine b_aload_n rfl rfl ?_
              refine b_getI rfl (by first | rfl | assumption) rfl ?_
              rw [hx.1]
              refine b_bipush rfl ?_
              refine b_icmp_lt rfl (fun c_68 => ?_) (fun c_68 => ?_)
              · refine b_iconst rfl ?_
                first | exact S76 0 (Or.inr ⟨fun z => absurd (h340.mp c_68) (Nat.not_lt.mpr z), rfl⟩) | exact S76 1 (Or.inl ⟨Nat.le_of_not_lt (fun z => c_68 (h340.mpr z)), rfl⟩)
              · refine b_iconst rfl ?_
                refine b_goto rfl ?_
                first | exact S76 0 (Or.inr ⟨fun z => absurd (h340.mp c_68) (Nat.not_lt.mpr z), rfl⟩) | exact S76 1 (Or.inl ⟨Nat.le_of_not_lt (fun z => c_68 (h340.mpr z)), rfl⟩)
            · exact absurd (show 5000 + w = 5010 by omega) c_45
        · exact absurd (show 5000 + w = 5013 from c_26) (by omega)
  by_cases w11 : w = 11
  · have hl : Z = (p_e f n (p_kt f n nm kn (p_kt f n pm pn s1)), lx_add L (1, (o_k f n pm pn (0, s.2 + 1)).getD 0, (o_k f n nm kn (0, s.2 + 2)).getD 0)) := by rw [hZ, hs1]; exact (if_neg (fun z => w10 (hw.trans z))).trans (if_pos (hw.symm.trans w11))
    have S76 : ∀ b, fg (40 ≤ L.1) b → hn_B 4 hm_Reader_readLine P 76 [.ref 3, .ref t, .ref l, .ref (5000 + w), .int 1, .null, .null] [.int b, .ref 3] (I, J, R) := by
      intro b hb
      refine b_iconst rfl ?_
      refine b_callV rfl rfl hk_Reader_takeUnless rfl rfl rfl (by first | rfl | assumption) rfl (Nat.le_of_ble_eq_true rfl) (q_Reader_takeUnless (c := 5) h h0 hb (by omega)) (Nat.le_of_ble_eq_true rfl) (fun r_77 D_77 q_77 => ?_)
      obtain ⟨rfl, I1, J1, R1, rfl, g1, k1⟩ := q_77
      rw [← hs1] at k1
      refine b_iconst rfl ?_
      refine b_istore rfl (Nat.le_of_ble_eq_true rfl) ?_
      refine b_iconst rfl ?_
      refine b_istore rfl (Nat.le_of_ble_eq_true rfl) ?_
      refine b_iload rfl rfl ?_
      refine b_if_eq rfl (fun c_88 => ?_) (fun c_88 => ?_)
      · exact absurd c_88 (by decide)
      · refine b_aload_n rfl rfl ?_
        refine b_aload_n rfl rfl ?_
        refine b_callV rfl rfl hk_Reader_takePerson rfl rfl rfl (by first | rfl | assumption) rfl (Nat.le_of_ble_eq_true rfl) (q_Reader_takePerson k1 (hs_Net_rf hN g1) (hs_St_rf hSt g1) (hs_Nn_rf hn ht g1)) (Nat.le_of_ble_eq_true rfl) (fun r_93 D_93 q_93 => ?_)
        obtain ⟨rfl, I2, J2, R2, rfl, g2, k2⟩ := q_93
        have g12 := hs_rf_t g1 g2
        refine b_istore rfl (Nat.le_of_ble_eq_true rfl) ?_
        refine b_aload_n rfl rfl ?_
        refine b_getsW rfl ?_
        refine b_acmp_eq rfl (by omega) (by omega) (fun c_102 => ?_) (fun c_102 => ?_)
        · refine b_aload_n rfl rfl ?_
          refine b_aload_n rfl rfl ?_
          refine b_callV rfl rfl hk_Reader_takeKnot rfl rfl rfl (by first | rfl | assumption) rfl (Nat.le_of_ble_eq_true rfl) (q_Reader_takeKnot k2 (hs_Net_rf hN g12) (hs_Nn_rf hn ht g12)) (Nat.le_of_ble_eq_true rfl) (fun r_114 D_114 q_114 => ?_)
          obtain ⟨rfl, I3, J3, R3, rfl, g3, k3⟩ := q_114
          refine b_istore rfl (Nat.le_of_ble_eq_true rfl) ?_
          refine b_aload_n rfl rfl ?_
          refine b_getsW rfl ?_
          refine b_acmp_ne rfl (by omega) (by omega) (fun c_123 => ?_) (fun c_123 => ?_)
          · exact S143 1 _ _ _ _ _ _ _ _ w11 (by omega) (hs_rf_t g12 g3) k3 hl (fun z => by have a1 := p_kt_1 (p_e_1 z).1; have a2 := p_kt_1 a1.1.1; have a3 := hs11 a2.1.1; rw [a2.2.2] at a1; rw [a2.2.2]; rw [a3.2] at a1 a2 ⊢; obtain ⟨x, hx1, _⟩ := a2.2.1; obtain ⟨y, hy1, _⟩ := a1.2.1; exact ⟨a3.1, fun _ => by rw [hx1]; rfl, fun _ => by rw [hy1]; rfl⟩)
          · exact absurd (show 5000 + w = 5014 from c_123) (by omega)
        · exact absurd (show 5000 + w = 5011 by omega) c_102
    refine b_aload_n rfl rfl ?_
    refine b_getR rfl (by first | rfl | assumption) rfl (by assumption) ?_
    refine b_getR rfl (by first | rfl | assumption) rfl h5 ?_
    refine b_astore_n rfl (Nat.le_of_ble_eq_true rfl) ?_
    refine b_aload_n rfl rfl ?_
    refine b_getsW rfl ?_
    refine b_acmp_eq rfl (by omega) (by omega) (fun c_12 => ?_) (fun c_12 => ?_)
    · refine b_iconst rfl ?_
      refine b_goto rfl ?_
      refine b_istore rfl (Nat.le_of_ble_eq_true rfl) ?_
      refine b_iload rfl rfl ?_
      refine b_if_ne rfl (fun c_38 => ?_) (fun c_38 => ?_)
      · refine b_aload_n rfl rfl ?_
        refine b_aload_n rfl rfl ?_
        refine b_getI rfl (by first | rfl | assumption) rfl ?_
        rw [hx.1]
        refine b_bipush rfl ?_
        refine b_icmp_lt rfl (fun c_68 => ?_) (fun c_68 => ?_)
        · refine b_iconst rfl ?_
          first | exact S76 0 (Or.inr ⟨fun z => absurd (h340.mp c_68) (Nat.not_lt.mpr z), rfl⟩) | exact S76 1 (Or.inl ⟨Nat.le_of_not_lt (fun z => c_68 (h340.mpr z)), rfl⟩)
        · refine b_iconst rfl ?_
          refine b_goto rfl ?_
          first | exact S76 0 (Or.inr ⟨fun z => absurd (h340.mp c_68) (Nat.not_lt.mpr z), rfl⟩) | exact S76 1 (Or.inl ⟨Nat.le_of_not_lt (fun z => c_68 (h340.mpr z)), rfl⟩)
      · exact absurd c_38 (by decide)
    · exact absurd (show 5000 + w = 5011 by omega) c_12
  by_cases w12 : w = 12
  · have hl : Z = (p_e f n (p_kt f n pm pn s1), lx_add L (2, (o_k f n pm pn (0, s.2 + 1)).getD 0, 0)) := by rw [hZ, hs1]; exact ((if_neg (fun z => w10 (hw.trans z))).trans (if_neg (fun z => w11 (hw.trans z)))).trans (if_pos (hw.symm.trans w12))
    have S76 : ∀ b, fg (40 ≤ L.1) b → hn_B 4 hm_Reader_readLine P 76 [.ref 3, .ref t, .ref l, .ref (5000 + w), .int 1, .null, .null] [.int b, .ref 3] (I, J, R) := by
      intro b hb
      refine b_iconst rfl ?_
      refine b_callV rfl rfl hk_Reader_takeUnless rfl rfl rfl (by first | rfl | assumption) rfl (Nat.le_of_ble_eq_true rfl) (q_Reader_takeUnless (c := 5) h h0 hb (by omega)) (Nat.le_of_ble_eq_true rfl) (fun r_77 D_77 q_77 => ?_)
      obtain ⟨rfl, I1, J1, R1, rfl, g1, k1⟩ := q_77
      rw [← hs1] at k1
      refine b_iconst rfl ?_
      refine b_istore rfl (Nat.le_of_ble_eq_true rfl) ?_
      refine b_iconst rfl ?_
      refine b_istore rfl (Nat.le_of_ble_eq_true rfl) ?_
      refine b_iload rfl rfl ?_
      refine b_if_eq rfl (fun c_88 => ?_) (fun c_88 => ?_)
      · exact absurd c_88 (by decide)
      · refine b_aload_n rfl rfl ?_
        refine b_aload_n rfl rfl ?_
        refine b_callV rfl rfl hk_Reader_takePerson rfl rfl rfl (by first | rfl | assumption) rfl (Nat.le_of_ble_eq_true rfl) (q_Reader_takePerson k1 (hs_Net_rf hN g1) (hs_St_rf hSt g1) (hs_Nn_rf hn ht g1)) (Nat.le_of_ble_eq_true rfl) (fun r_93 D_93 q_93 => ?_)
        obtain ⟨rfl, I2, J2, R2, rfl, g2, k2⟩ := q_93
        have g12 := hs_rf_t g1 g2
        refine b_istore rfl (Nat.le_of_ble_eq_true rfl) ?_
        refine b_aload_n rfl rfl ?_
        refine b_getsW rfl ?_
        refine b_acmp_eq rfl (by omega) (by omega) (fun c_102 => ?_) (fun c_102 => ?_)
        · exact absurd (show 5000 + w = 5011 from c_102) (by omega)
        · refine b_aload_n rfl rfl ?_
          refine b_getsW rfl ?_
          refine b_acmp_ne rfl (by omega) (by omega) (fun c_109 => ?_) (fun c_109 => ?_)
          · refine b_aload_n rfl rfl ?_
            refine b_getsW rfl ?_
            refine b_acmp_ne rfl (by omega) (by omega) (fun c_123 => ?_) (fun c_123 => ?_)
            · exact S143 2 _ _ _ _ _ _ _ _ w12 (by omega) g12 k2 hl (fun z => by have a2 := p_kt_1 (p_e_1 z).1; have a3 := hs11 a2.1.1; rw [a3.2] at a2 ⊢; obtain ⟨x, hx1, _⟩ := a2.2.1; exact ⟨a3.1, fun _ => by rw [hx1]; rfl, fun z => by rcases z with z | z | z <;> cases z⟩)
            · exact absurd (show 5000 + w = 5014 from c_123) (by omega)
          · exact absurd (show 5000 + w = 5013 from c_109) (by omega)
    refine b_aload_n rfl rfl ?_
    refine b_getR rfl (by first | rfl | assumption) rfl (by assumption) ?_
    refine b_getR rfl (by first | rfl | assumption) rfl h5 ?_
    refine b_astore_n rfl (Nat.le_of_ble_eq_true rfl) ?_
    refine b_aload_n rfl rfl ?_
    refine b_getsW rfl ?_
    refine b_acmp_eq rfl (by omega) (by omega) (fun c_12 => ?_) (fun c_12 => ?_)
    · exact absurd (show 5000 + w = 5011 from c_12) (by omega)
    · refine b_aload_n rfl rfl ?_
      refine b_getsW rfl ?_
      refine b_acmp_eq rfl (by omega) (by omega) (fun c_19 => ?_) (fun c_19 => ?_)
      · refine b_iconst rfl ?_
        refine b_goto rfl ?_
        refine b_istore rfl (Nat.le_of_ble_eq_true rfl) ?_
        refine b_iload rfl rfl ?_
        refine b_if_ne rfl (fun c_38 => ?_) (fun c_38 => ?_)
        · refine b_aload_n rfl rfl ?_
          refine b_aload_n rfl rfl ?_
          refine b_getI rfl (by first | rfl | assumption) rfl ?_
          rw [hx.1]
          refine b_bipush rfl ?_
          refine b_icmp_lt rfl (fun c_68 => ?_) (fun c_68 => ?_)
          · refine b_iconst rfl ?_
            first | exact S76 0 (Or.inr ⟨fun z => absurd (h340.mp c_68) (Nat.not_lt.mpr z), rfl⟩) | exact S76 1 (Or.inl ⟨Nat.le_of_not_lt (fun z => c_68 (h340.mpr z)), rfl⟩)
          · refine b_iconst rfl ?_
            refine b_goto rfl ?_
            first | exact S76 0 (Or.inr ⟨fun z => absurd (h340.mp c_68) (Nat.not_lt.mpr z), rfl⟩) | exact S76 1 (Or.inl ⟨Nat.le_of_not_lt (fun z => c_68 (h340.mpr z)), rfl⟩)
        · exact absurd c_38 (by decide)
      · exact absurd (show 5000 + w = 5012 by omega) c_19
  by_cases w13 : w = 13
  · have hl : Z = (p_e f n (p_kt f n nm kn (p_kt f n pm pn s1)), lx_add L (3, (o_k f n pm pn (0, s.2 + 1)).getD 0, (o_k f n nm kn (0, s.2 + 2)).getD 0)) := by rw [hZ, hs1]; exact (((if_neg (fun z => w10 (hw.trans z))).trans (if_neg (fun z => w11 (hw.trans z)))).trans (if_neg (fun z => w12 (hw.trans z)))).trans (if_pos (hw.symm.trans w13))
    have S76 : ∀ b, fg (40 ≤ L.1) b → hn_B 4 hm_Reader_readLine P 76 [.ref 3, .ref t, .ref l, .ref (5000 + w), .int 1, .null, .null] [.int b, .ref 3] (I, J, R) := by
      intro b hb
      refine b_iconst rfl ?_
      refine b_callV rfl rfl hk_Reader_takeUnless rfl rfl rfl (by first | rfl | assumption) rfl (Nat.le_of_ble_eq_true rfl) (q_Reader_takeUnless (c := 5) h h0 hb (by omega)) (Nat.le_of_ble_eq_true rfl) (fun r_77 D_77 q_77 => ?_)
      obtain ⟨rfl, I1, J1, R1, rfl, g1, k1⟩ := q_77
      rw [← hs1] at k1
      refine b_iconst rfl ?_
      refine b_istore rfl (Nat.le_of_ble_eq_true rfl) ?_
      refine b_iconst rfl ?_
      refine b_istore rfl (Nat.le_of_ble_eq_true rfl) ?_
      refine b_iload rfl rfl ?_
      refine b_if_eq rfl (fun c_88 => ?_) (fun c_88 => ?_)
      · exact absurd c_88 (by decide)
      · refine b_aload_n rfl rfl ?_
        refine b_aload_n rfl rfl ?_
        refine b_callV rfl rfl hk_Reader_takePerson rfl rfl rfl (by first | rfl | assumption) rfl (Nat.le_of_ble_eq_true rfl) (q_Reader_takePerson k1 (hs_Net_rf hN g1) (hs_St_rf hSt g1) (hs_Nn_rf hn ht g1)) (Nat.le_of_ble_eq_true rfl) (fun r_93 D_93 q_93 => ?_)
        obtain ⟨rfl, I2, J2, R2, rfl, g2, k2⟩ := q_93
        have g12 := hs_rf_t g1 g2
        refine b_istore rfl (Nat.le_of_ble_eq_true rfl) ?_
        refine b_aload_n rfl rfl ?_
        refine b_getsW rfl ?_
        refine b_acmp_eq rfl (by omega) (by omega) (fun c_102 => ?_) (fun c_102 => ?_)
        · exact absurd (show 5000 + w = 5011 from c_102) (by omega)
        · refine b_aload_n rfl rfl ?_
          refine b_getsW rfl ?_
          refine b_acmp_ne rfl (by omega) (by omega) (fun c_109 => ?_) (fun c_109 => ?_)
          · exact absurd (show 5000 + w = 5013 by omega) c_109
          · refine b_aload_n rfl rfl ?_
            refine b_aload_n rfl rfl ?_
            refine b_callV rfl rfl hk_Reader_takeKnot rfl rfl rfl (by first | rfl | assumption) rfl (Nat.le_of_ble_eq_true rfl) (q_Reader_takeKnot k2 (hs_Net_rf hN g12) (hs_Nn_rf hn ht g12)) (Nat.le_of_ble_eq_true rfl) (fun r_114 D_114 q_114 => ?_)
            obtain ⟨rfl, I3, J3, R3, rfl, g3, k3⟩ := q_114
            refine b_istore rfl (Nat.le_of_ble_eq_true rfl) ?_
            refine b_aload_n rfl rfl ?_
            refine b_getsW rfl ?_
            refine b_acmp_ne rfl (by omega) (by omega) (fun c_123 => ?_) (fun c_123 => ?_)
            · exact S143 3 _ _ _ _ _ _ _ _ w13 (by omega) (hs_rf_t g12 g3) k3 hl (fun z => by have a1 := p_kt_1 (p_e_1 z).1; have a2 := p_kt_1 a1.1.1; have a3 := hs11 a2.1.1; rw [a2.2.2] at a1; rw [a2.2.2]; rw [a3.2] at a1 a2 ⊢; obtain ⟨x, hx1, _⟩ := a2.2.1; obtain ⟨y, hy1, _⟩ := a1.2.1; exact ⟨a3.1, fun _ => by rw [hx1]; rfl, fun _ => by rw [hy1]; rfl⟩)
            · exact absurd (show 5000 + w = 5014 from c_123) (by omega)
    refine b_aload_n rfl rfl ?_
    refine b_getR rfl (by first | rfl | assumption) rfl (by assumption) ?_
    refine b_getR rfl (by first | rfl | assumption) rfl h5 ?_
    refine b_astore_n rfl (Nat.le_of_ble_eq_true rfl) ?_
    refine b_aload_n rfl rfl ?_
    refine b_getsW rfl ?_
    refine b_acmp_eq rfl (by omega) (by omega) (fun c_12 => ?_) (fun c_12 => ?_)
    · exact absurd (show 5000 + w = 5011 from c_12) (by omega)
    · refine b_aload_n rfl rfl ?_
      refine b_getsW rfl ?_
      refine b_acmp_eq rfl (by omega) (by omega) (fun c_19 => ?_) (fun c_19 => ?_)
      · exact absurd (show 5000 + w = 5012 from c_19) (by omega)
      · refine b_aload_n rfl rfl ?_
        refine b_getsW rfl ?_
        refine b_acmp_ne rfl (by omega) (by omega) (fun c_26 => ?_) (fun c_26 => ?_)
        · exact absurd (show 5000 + w = 5013 by omega) c_26
        · refine b_iconst rfl ?_
          refine b_goto rfl ?_
          refine b_istore rfl (Nat.le_of_ble_eq_true rfl) ?_
          refine b_iload rfl rfl ?_
          refine b_if_ne rfl (fun c_38 => ?_) (fun c_38 => ?_)
          · refine b_aload_n rfl rfl ?_
            refine b_aload_n rfl rfl ?_
            refine b_getI rfl (by first | rfl | assumption) rfl ?_
            rw [hx.1]
            refine b_bipush rfl ?_
            refine b_icmp_lt rfl (fun c_68 => ?_) (fun c_68 => ?_)
            · refine b_iconst rfl ?_
              first | exact S76 0 (Or.inr ⟨fun z => absurd (h340.mp c_68) (Nat.not_lt.mpr z), rfl⟩) | exact S76 1 (Or.inl ⟨Nat.le_of_not_lt (fun z => c_68 (h340.mpr z)), rfl⟩)
            · refine b_iconst rfl ?_
              refine b_goto rfl ?_
              first | exact S76 0 (Or.inr ⟨fun z => absurd (h340.mp c_68) (Nat.not_lt.mpr z), rfl⟩) | exact S76 1 (Or.inl ⟨Nat.le_of_not_lt (fun z => c_68 (h340.mpr z)), rfl⟩)
          · exact absurd c_38 (by decide)
  by_cases w14 : w = 14
  · have hl : Z = (p_e f n (p_o f n nm kn (oI (o_k f n nm kn s1)) 0 (p_kt f n nm kn s1)), lx_add L (4, (o_k f n nm kn (0, s.2 + 1)).getD 0, (o_k f n nm kn (0, s.2 + 2)).getD 0)) := by rw [hZ, hs1]; exact ((((if_neg (fun z => w10 (hw.trans z))).trans (if_neg (fun z => w11 (hw.trans z)))).trans (if_neg (fun z => w12 (hw.trans z)))).trans (if_neg (fun z => w13 (hw.trans z)))).trans (if_pos (hw.symm.trans w14))
    have S76 : ∀ b, fg (40 ≤ L.1) b → hn_B 4 hm_Reader_readLine P 76 [.ref 3, .ref t, .ref l, .ref (5000 + w), .int 0, .null, .null] [.int b, .ref 3] (I, J, R) := by
      intro b hb
      refine b_iconst rfl ?_
      refine b_callV rfl rfl hk_Reader_takeUnless rfl rfl rfl (by first | rfl | assumption) rfl (Nat.le_of_ble_eq_true rfl) (q_Reader_takeUnless (c := 5) h h0 hb (by omega)) (Nat.le_of_ble_eq_true rfl) (fun r_77 D_77 q_77 => ?_)
      obtain ⟨rfl, I1, J1, R1, rfl, g1, k1⟩ := q_77
      rw [← hs1] at k1
      refine b_iconst rfl ?_
      refine b_istore rfl (Nat.le_of_ble_eq_true rfl) ?_
      refine b_iconst rfl ?_
      refine b_istore rfl (Nat.le_of_ble_eq_true rfl) ?_
      refine b_iload rfl rfl ?_
      refine b_if_eq rfl (fun c_88 => ?_) (fun c_88 => ?_)
      · refine b_aload_n rfl rfl ?_
        refine b_getsW rfl ?_
        refine b_acmp_eq rfl (by omega) (by omega) (fun c_102 => ?_) (fun c_102 => ?_)
        · exact absurd (show 5000 + w = 5011 from c_102) (by omega)
        · refine b_aload_n rfl rfl ?_
          refine b_getsW rfl ?_
          refine b_acmp_ne rfl (by omega) (by omega) (fun c_109 => ?_) (fun c_109 => ?_)
          · refine b_aload_n rfl rfl ?_
            refine b_getsW rfl ?_
            refine b_acmp_ne rfl (by omega) (by omega) (fun c_123 => ?_) (fun c_123 => ?_)
            · exact absurd (show 5000 + w = 5014 by omega) c_123
            · refine b_aload_n rfl rfl ?_
              refine b_aload_n rfl rfl ?_
              refine b_callV rfl rfl hk_Reader_takeKnot rfl rfl rfl (by first | rfl | assumption) rfl (Nat.le_of_ble_eq_true rfl) (q_Reader_takeKnot k1 (hs_Net_rf hN g1) (hs_Nn_rf hn ht g1)) (Nat.le_of_ble_eq_true rfl) (fun r_128 D_128 q_128 => ?_)
              obtain ⟨rfl, I2, J2, R2, rfl, g2, k2⟩ := q_128
              have g12 := hs_rf_t g1 g2
              refine b_istore rfl (Nat.le_of_ble_eq_true rfl) ?_
              refine b_aload_n rfl rfl ?_
              refine b_aload_n rfl rfl ?_
              refine b_iload rfl rfl ?_
              refine b_iconst rfl ?_
              refine b_callV rfl rfl hk_Reader_takeOther rfl rfl rfl (by first | rfl | assumption) rfl (Nat.le_of_ble_eq_true rfl) (q_Reader_takeOther (fi := oI (o_k f n nm kn s1)) (tl := 0) k2 (hs_Net_rf hN g12) (hs_Nn_rf hn ht g12)) (Nat.le_of_ble_eq_true rfl) (fun r_138 D_138 q_138 => ?_)
              obtain ⟨rfl, I3, J3, R3, rfl, g3, k3⟩ := q_138
              refine b_istore rfl (Nat.le_of_ble_eq_true rfl) ?_
              exact S143 4 _ _ _ _ _ _ _ _ w14 (by omega) (hs_rf_t g12 g3) k3 hl (fun z => by have a1 := p_o_1 (p_e_1 z).1; have a2 := p_kt_1 a1.1.1; have a3 := hs11 a2.1.1; rw [a2.2.2] at a1; rw [a2.2.2]; rw [a3.2] at a1 a2 ⊢; obtain ⟨x, hx1, _⟩ := a2.2.1; obtain ⟨y, hy1, _⟩ := a1.2.1; exact ⟨a3.1, fun _ => by rw [hx1]; rfl, fun _ => by rw [hy1]; rfl⟩)
          · exact absurd (show 5000 + w = 5013 from c_109) (by omega)
      · exact absurd rfl c_88
    refine b_aload_n rfl rfl ?_
    refine b_getR rfl (by first | rfl | assumption) rfl (by assumption) ?_
    refine b_getR rfl (by first | rfl | assumption) rfl h5 ?_
    refine b_astore_n rfl (Nat.le_of_ble_eq_true rfl) ?_
    refine b_aload_n rfl rfl ?_
    refine b_getsW rfl ?_
    refine b_acmp_eq rfl (by omega) (by omega) (fun c_12 => ?_) (fun c_12 => ?_)
    · exact absurd (show 5000 + w = 5011 from c_12) (by omega)
    · refine b_aload_n rfl rfl ?_
      refine b_getsW rfl ?_
      refine b_acmp_eq rfl (by omega) (by omega) (fun c_19 => ?_) (fun c_19 => ?_)
      · exact absurd (show 5000 + w = 5012 from c_19) (by omega)
      · refine b_aload_n rfl rfl ?_
        refine b_getsW rfl ?_
        refine b_acmp_ne rfl (by omega) (by omega) (fun c_26 => ?_) (fun c_26 => ?_)
        · refine b_iconst rfl ?_
          refine b_istore rfl (Nat.le_of_ble_eq_true rfl) ?_
          refine b_iload rfl rfl ?_
          refine b_if_ne rfl (fun c_38 => ?_) (fun c_38 => ?_)
          · exact absurd rfl c_38
          · refine b_aload_n rfl rfl ?_
            refine b_getsW rfl ?_
            refine b_acmp_eq rfl (by omega) (by omega) (fun c_45 => ?_) (fun c_45 => ?_)
            · exact absurd (show 5000 + w = 5010 from c_45) (by omega)
            · refine b_aload_n rfl rfl ?_
              refine b_getsW rfl ?_
              refine b_acmp_eq rfl (by omega) (by omega) (fun c_52 => ?_) (fun c_52 => ?_)
              · refine b_aload_n rfl rfl ?_
                refine b_aload_n rfl rfl ?_
                refine b_getI rfl (by first | rfl | assumption) rfl ?_
                rw [hx.1]
                refine b_bipush rfl ?_
                refine b_icmp_lt rfl (fun c_68 => ?_) (fun c_68 => ?_)
                · refine b_iconst rfl ?_
                  first | exact S76 0 (Or.inr ⟨fun z => absurd (h340.mp c_68) (Nat.not_lt.mpr z), rfl⟩) | exact S76 1 (Or.inl ⟨Nat.le_of_not_lt (fun z => c_68 (h340.mpr z)), rfl⟩)
                · refine b_iconst rfl ?_
                  refine b_goto rfl ?_
                  first | exact S76 0 (Or.inr ⟨fun z => absurd (h340.mp c_68) (Nat.not_lt.mpr z), rfl⟩) | exact S76 1 (Or.inl ⟨Nat.le_of_not_lt (fun z => c_68 (h340.mpr z)), rfl⟩)
              · exact absurd (show 5000 + w = 5014 by omega) c_52
        · exact absurd (show 5000 + w = 5013 from c_26) (by omega)
  have hl : Z = (fl f n 1 s, L) := by rw [hZ]; exact ((((if_neg (fun z => w10 (hw.trans z))).trans (if_neg (fun z => w11 (hw.trans z)))).trans (if_neg (fun z => w12 (hw.trans z)))).trans (if_neg (fun z => w13 (hw.trans z)))).trans (if_neg (fun z => w14 (hw.trans z)))
  have e3 : p_f f n 1 s = fl f n 1 s := if_pos h0
  refine b_aload_n rfl rfl ?_
  refine b_getR rfl (by first | rfl | assumption) rfl (by assumption) ?_
  refine b_getR rfl (by first | rfl | assumption) rfl h5 ?_
  refine b_astore_n rfl (Nat.le_of_ble_eq_true rfl) ?_
  refine b_aload_n rfl rfl ?_
  refine b_getsW rfl ?_
  refine b_acmp_eq rfl (by omega) (by omega) (fun c_12 => ?_) (fun c_12 => ?_)
  · exact absurd (show 5000 + w = 5011 from c_12) (by omega)
  · refine b_aload_n rfl rfl ?_
    refine b_getsW rfl ?_
    refine b_acmp_eq rfl (by omega) (by omega) (fun c_19 => ?_) (fun c_19 => ?_)
    · exact absurd (show 5000 + w = 5012 from c_19) (by omega)
    · refine b_aload_n rfl rfl ?_
      refine b_getsW rfl ?_
      refine b_acmp_ne rfl (by omega) (by omega) (fun c_26 => ?_) (fun c_26 => ?_)
      · refine b_iconst rfl ?_
        refine b_istore rfl (Nat.le_of_ble_eq_true rfl) ?_
        refine b_iload rfl rfl ?_
        refine b_if_ne rfl (fun c_38 => ?_) (fun c_38 => ?_)
        · exact absurd rfl c_38
        · refine b_aload_n rfl rfl ?_
          refine b_getsW rfl ?_
          refine b_acmp_eq rfl (by omega) (by omega) (fun c_45 => ?_) (fun c_45 => ?_)
          · exact absurd (show 5000 + w = 5010 from c_45) (by omega)
          · refine b_aload_n rfl rfl ?_
            refine b_getsW rfl ?_
            refine b_acmp_eq rfl (by omega) (by omega) (fun c_52 => ?_) (fun c_52 => ?_)
            · exact absurd (show 5000 + w = 5014 from c_52) (by omega)
            · refine b_aload_n rfl rfl ?_
              refine b_iconst rfl ?_
              refine b_callV rfl rfl hk_Reader_fail rfl rfl rfl (by first | rfl | assumption) rfl (Nat.le_of_ble_eq_true rfl) (q_Reader_fail (c := 1) h (by omega)) (Nat.le_of_ble_eq_true rfl) (fun r_57 D_57 q_57 => ?_)
              obtain ⟨rfl, hq⟩ := q_57
              rw [e3] at hq
              obtain ⟨I2, J2, R2, rfl, g2, k2⟩ := hq
              exact b_return_ rfl trivial ((by rw [hP, hl]; exact ⟨rfl, I2, J2, R2, rfl, hs_rs_rf g2, k2, fun z => absurd z (fl_ne (by omega))⟩))
      · exact absurd (show 5000 + w = 5013 from c_26) (by omega)
end HNreadline
