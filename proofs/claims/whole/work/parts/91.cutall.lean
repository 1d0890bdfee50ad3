section HNcutall
variable {I I' : Nat → Nat → Int32} {J J' : Nat → Nat → Int64} {R R' : Nat → Nat → Option Nat}
def hs_c1 (I : Nat → Nat → Int32) (J : Nat → Nat → Int64) (k : Nat) (x : tk) : Prop := I 190 k = nI x.1 ∧ I 191 k = nI x.2.1 ∧ (x.1 = 1 → J 192 k = nJ (cv x.2.2.2)) ∧ (x.1 = 2 ∨ x.1 = 3 → J 192 k = nJ x.2.2.2)
def hs_ct (I : Nat → Nat → Int32) (J : Nat → Nat → Int64) (f : Nat → Nat) (n i : Nat) : Prop := ∀ k, k < i → hs_c1 I J k (tq f n k) ∧ ¬ (tq f n k).1 = 0
/-- all tokens -/
def hs_tt (I : Nat → Nat → Int32) (J : Nat → Nat → Int64) (f : Nat → Nat) (n E : Nat) : Prop := E ≤ 1000 ∧ hs_ct I J f n E ∧ I 190 E = 0 ∧ I 191 E = nI (tq f n E).2.1 ∧ (tq f n E).1 = 0
def hs_cf (I : Nat → Nat → Int32) (J : Nat → Nat → Int64) (I' : Nat → Nat → Int32) (J' : Nat → Nat → Int64) : Prop := (∀ b, b ≠ 188 → b ≠ 190 → b ≠ 191 → I' b = I b) ∧ (∀ b, b ≠ 192 → J' b = J b) ∧ ∀ i, i ≠ 2 → i ≠ 3 → i ≠ 7 → i ≠ 8 → I' 188 i = I 188 i
theorem nJ_37 (x d : Nat) : 37 * nJ x + nJ d = nJ (37 * x + d) := by rw [nJ_ad, nJ_ml]; rfl
theorem nJ_10 {x c : Nat} (h : 48 ≤ c) : 10 * nJ x + nJ c - 48 = nJ (x * 10 + (c - 48)) := by
  have e : nJ c = nJ (c - 48) + 48 := by
    obtain ⟨d, rfl⟩ : ∃ d, c = d + 48 := ⟨c - 48, by omega⟩
    rw [nJ_ad, Nat.add_sub_cancel]; rfl
  rw [e, ← Int64.add_assoc, Int64.add_sub_cancel, nJ_ad, Nat.mul_comm, nJ_ml]; rfl
def mn (m j : Nat) : Nat := if j < m then j else m
theorem hs_c1_u {k i : Nat} {x : tk} {a b : Int32} {v : Int64} (h : hs_c1 I J k x) (hk : k < i) : hs_c1 (hn_u (hn_u I 191 i a) 190 i b) (hn_u J 192 i v) k x := by
  unfold hs_c1
  rw [hn_u_eq, va_up, if_neg (by omega), hn_u_ne _ _ _ (by omega), hn_u_ne _ _ _ (by omega), hn_u_eq, va_up, if_neg (by omega), hn_u_eq, va_up, if_neg (by omega)]
  exact h
theorem q_M_cutAll {f : Nat → Nat} {n : Nat} (hM : hs_M R) (hn : n ≤ 1000) (hS : ∀ i, i < n → I 189 i = nI (f i) ∧ f i < 128) (h2 : I 188 2 = nI n) : hn_F 2 hm_M_cutAll [.ref 188] (I, J, R) (fun r D' => r = none ∧ ∃ I2 J2 E, D' = (I2, J2, R) ∧ hs_cf I J I2 J2 ∧ hs_tt I2 J2 f n E ∧ I2 188 2 = 0 ∧ I2 188 7 = 0 ∧ I2 188 8 = 0) := by
  refine hn_F_of _ hk_M_cutAll rfl (Nat.le_of_ble_eq_true rfl) ?_
  obtain ⟨m1, m4, m5, m6, m9, m10, m11, m12, m14, m15, m16, m17, m20, m21, m22, m23, m25, m27, m28, m29, m30, m31, m32⟩ := id hM
  obtain ⟨P, hP⟩ : ∃ P : Option Value → hnD → Prop, P = (fun r D' => r = none ∧ ∃ I2 J2 E, D' = (I2, J2, R) ∧ hs_cf I J I2 J2 ∧ hs_tt I2 J2 f n E ∧ I2 188 2 = 0 ∧ I2 188 7 = 0 ∧ I2 188 8 = 0) := ⟨_, rfl⟩
  rw [← hP]
  have S279 : ∀ (i : Nat) (I1 : Nat → Nat → Int32) (J1 : Nat → Nat → Int64), i ≤ n → tok f n n = tq f n i → hs_cf I J I1 J1 → hs_ct I1 J1 f n i → I1 188 3 = nI n → I1 188 2 = 0 → hn_B 2 hm_M_cutAll P 279 [.ref 188, .int (nI i), .int (nI n), .null, .null, .null, .null] [] (I1, J1, R) := by
    intro i I1 J1 hi ht g c i3 i2
    have e := tok_n f (Nat.le_refl n)
    rw [ht] at e
    refine b_aload_n rfl rfl ?_
    refine b_getR rfl (by first | rfl | assumption) rfl (by assumption) ?_
    refine b_iload_n rfl rfl ?_
    refine b_iconst rfl ?_
    refine b_iastore rfl (by first | rfl | assumption) (nI_toInt (n := i) (by omega)) (by omega) ?_
    refine b_aload_n rfl rfl ?_
    refine b_getR rfl (by first | rfl | assumption) rfl (by assumption) ?_
    refine b_iload_n rfl rfl ?_
    refine b_aload_n rfl rfl ?_
    refine b_getI rfl (by first | rfl | assumption) rfl ?_
    have i3' : hn_u I1 190 i 0 188 3 = nI n := by rw [hn_u_ne _ _ _ (by omega)]; exact i3
    rw [i3']
    refine b_iastore rfl (by first | rfl | assumption) (nI_toInt (n := i) (by omega)) (by omega) ?_
    refine b_aload_n rfl rfl ?_
    refine b_iconst rfl ?_
    refine b_putI rfl (by first | rfl | assumption) rfl rfl ⟨rfl, rfl⟩ ?_
    refine b_aload_n rfl rfl ?_
    refine b_iconst rfl ?_
    refine b_putI rfl (by first | rfl | assumption) rfl rfl ⟨rfl, rfl⟩ ?_
    obtain ⟨I2, hI2⟩ : ∃ z, z = hn_u (hn_u (hn_u (hn_u I1 190 i 0) 191 i (nI n)) 188 7 0) 188 8 0 := ⟨_, rfl⟩
    rw [← hI2]
    have a190 : I2 190 = va_up (I1 190) i 0 := by rw [hI2, hn_u_ne _ _ _ (by omega), hn_u_ne _ _ _ (by omega), hn_u_ne _ _ _ (by omega), hn_u_eq]
    have a191 : I2 191 = va_up (I1 191) i (nI n) := by rw [hI2, hn_u_ne _ _ _ (by omega), hn_u_ne _ _ _ (by omega), hn_u_eq, hn_u_ne _ _ _ (by omega)]
    have a188 : ∀ j, I2 188 j = if j = 8 then 0 else if j = 7 then 0 else I1 188 j := by (intro j; rw [hI2, hn_u_eq, va_up, hn_u_eq, va_up, hn_u_ne _ _ _ (show 188 ≠ 191 by omega), hn_u_ne _ _ _ (show 188 ≠ 190 by omega)])
    have a0 : ∀ b, b ≠ 188 → b ≠ 190 → b ≠ 191 → I2 b = I1 b := fun b h1 h2 h3 => by rw [hI2, hn_u_ne _ _ _ h1, hn_u_ne _ _ _ h1, hn_u_ne _ _ _ h3, hn_u_ne _ _ _ h2]
    exact b_return_ rfl trivial ((by rw [hP]; exact ⟨rfl, I2, J1, i, rfl, ⟨fun b h1 h2 h3 => (a0 b h1 h2 h3).trans (g.1 b h1 h2 h3), g.2.1, fun j j2 j3 j7 j8 => by rw [a188, if_neg j8, if_neg j7]; exact g.2.2 j j2 j3 j7 j8⟩, ⟨by omega, fun k hk => ⟨⟨by rw [a190, va_up, if_neg (by omega)]; exact (c k hk).1.1, by rw [a191, va_up, if_neg (by omega)]; exact (c k hk).1.2.1, (c k hk).1.2.2⟩, (c k hk).2⟩, by rw [a190, va_up, if_pos rfl], by rw [a191, va_up, if_pos rfl, e], by rw [e]⟩, by rw [a188, if_neg (by omega), if_neg (by omega)]; exact i2, by rw [a188, if_neg (by omega), if_pos rfl], by rw [a188, if_pos rfl]⟩))
  have lp : ∀ (m p i : Nat) (I1 : Nat → Nat → Int32) (J1 : Nat → Nat → Int64), p ≤ n → n - p ≤ m → i ≤ p → tok f n p = tq f n i → hs_cf I J I1 J1 → hs_ct I1 J1 f n i → I1 188 3 = nI n → I1 188 2 = 0 → hn_B 2 hm_M_cutAll P 17 [.ref 188, .int (nI i), .int (nI p), .null, .null, .null, .null] [] (I1, J1, R) := by
    intro m
    induction m with
    | zero =>
      intro p i I1 J1 hp hm hi ht g c i3 i2
      obtain rfl : p = n := by omega
      refine b_iload_n rfl rfl ?_
      refine b_aload_n rfl rfl ?_
      refine b_getI rfl (by first | rfl | assumption) rfl ?_
      rw [i3]
      refine b_icmp_ge rfl (fun c_22 => ?_) (fun c_22 => ?_)
      · exact S279 i I1 J1 hi ht g c i3 i2
      · exact absurd (nI_le (Nat.le_refl _) (by omega)) c_22
    | succ m ih =>
      intro p i I1 J1 hp hm hi ht g c i3 i2
      by_cases hpn : p = n
      · subst hpn
        refine b_iload_n rfl rfl ?_
        refine b_aload_n rfl rfl ?_
        refine b_getI rfl (by first | rfl | assumption) rfl ?_
        rw [i3]
        refine b_icmp_ge rfl (fun c_22 => ?_) (fun c_22 => ?_)
        · exact S279 i I1 J1 hi ht g c i3 i2
        · exact absurd (nI_le (Nat.le_refl _) (by omega)) c_22
      have hp : p < n := by omega
      have e189 : ∀ j, j < n → I1 189 j = nI (f j) ∧ f j < 128 := fun j hj => by rw [g.1 189 (by omega) (by omega) (by omega)]; exact hS j hj
      obtain ⟨ec, hc⟩ := e189 p hp
      have ie : ∀ d, d < 128 → (nI (f p) = nI d ↔ f p = d) := fun d hd => hi_nIe (by omega) (by omega)
      by_cases hb : isB (f p)
      · have S44 : hn_B 2 hm_M_cutAll P 44 [.ref 188, .int (nI i), .int (nI p), .int (nI (f p)), .null, .null, .null] [] (I1, J1, R) := by
          refine b_iinc rfl rfl (Nat.le_of_ble_eq_true rfl) ?_
          refine b_goto rfl ?_
          exact b_lp (ih (p + 1) i I1 J1 (by omega) (by omega) (by omega) (by rw [← tok_b hp hb]; exact ht) g c i3 i2) (le_e (le_e (le_q (by rw [nI_succ]) (le_n (le_n (le_n (le_n le_0))))))) rfl rfl
        refine b_iload_n rfl rfl ?_
        refine b_aload_n rfl rfl ?_
        refine b_getI rfl (by first | rfl | assumption) rfl ?_
        rw [i3]
        refine b_icmp_ge rfl (fun c_22 => ?_) (fun c_22 => ?_)
        · exact absurd c_22 (nI_ge hp (by omega))
        · refine b_aload_n rfl rfl ?_
          refine b_getR rfl (by first | rfl | assumption) rfl (by assumption) ?_
          refine b_iload_n rfl rfl ?_
          refine b_iaload rfl (by first | rfl | assumption) (nI_toInt (n := p) (by omega)) (by omega) ?_
          rw [ec]
          refine b_istore_n rfl (Nat.le_of_ble_eq_true rfl) ?_
          refine b_iload_n rfl rfl ?_
          refine b_bipush rfl ?_
          refine b_icmp_eq rfl (fun c_35 => ?_) (fun c_35 => ?_)
          · exact S44
          · refine b_iload_n rfl rfl ?_
            refine b_bipush rfl ?_
            refine b_icmp_ne rfl (fun c_41 => ?_) (fun c_41 => ?_)
            · rcases hb with hb | hb; (exact absurd (show nI (f p) = 32 by rw [hb]; rfl) c_41); (exact absurd (show nI (f p) = 10 by rw [hb]; rfl) c_35)
            · exact S44
      -- a token
      have hx := tok_x hp hb
      rw [ht] at hx
      have nxt : ∀ p2, (tq f n i).2.2.1 = p2 → tok f n p2 = tq f n (i + 1) := fun p2 h => by rw [← h]; rfl
      have S265 : ∀ (p2 : Nat) (kd : Int32) (v : Int64) (l3 l4 : Value), (tq f n i).2.2.1 = p2 → p < p2 → p2 ≤ n → hs_c1 (hn_u (hn_u I1 191 i (nI p)) 190 i kd) (hn_u J1 192 i v) i (tq f n i) → ¬ (tq f n i).1 = 0 → hn_B 2 hm_M_cutAll P 265 [.ref 188, .int (nI i), .int (nI p2), l3, l4, .long v, .null] [] (hn_u (hn_u I1 191 i (nI p)) 190 i kd, J1, R) := by
        intro p2 kd v l3 l4 h1 h3 h4 h5 h6
        refine b_aload_n rfl rfl ?_
        refine b_getR rfl (by first | rfl | assumption) rfl (by assumption) ?_
        refine b_iload_n rfl rfl ?_
        refine b_lload rfl rfl ?_
        refine b_lastore rfl (by first | rfl | assumption) (by decide) (nI_toInt (n := i) (by omega)) (by omega) ?_
        refine b_iinc rfl rfl (Nat.le_of_ble_eq_true rfl) ?_
        refine b_goto rfl ?_
        exact b_lp (ih p2 (i + 1) _ _ h4 (by omega) (by omega) (nxt p2 h1) ⟨fun b b1 b2 b3 => by rw [hn_u_ne _ _ _ b2, hn_u_ne _ _ _ b3]; exact g.1 b b1 b2 b3, fun b b1 => by rw [hn_u_ne _ _ _ b1]; exact g.2.1 b b1, fun j j2 j3 j7 j8 => by rw [hn_u_ne _ _ _ (by omega), hn_u_ne _ _ _ (by omega)]; exact g.2.2 j j2 j3 j7 j8⟩ (fun k hk => by (by_cases hki : k = i); (rw [hki]; exact ⟨h5, h6⟩); (exact ⟨hs_c1_u (c k (by omega)).1 (by omega), (c k (by omega)).2⟩)) (by rw [hn_u_ne _ _ _ (by omega), hn_u_ne _ _ _ (by omega)]; exact i3) (by rw [hn_u_ne _ _ _ (by omega), hn_u_ne _ _ _ (by omega)]; exact i2)) (le_e (le_q (by rw [nI_succ]) (le_e (le_n (le_n (le_n (le_n le_0))))))) rfl rfl
      obtain ⟨I2, hI2⟩ : ∃ z, z = hn_u I1 191 i (nI p) := ⟨_, rfl⟩
      have f189 : ∀ j, j < n → I2 189 j = nI (f j) ∧ f j < 128 := fun j hj => by rw [hI2, hn_u_ne _ _ _ (by omega)]; exact e189 j hj
      have f3 : I2 188 3 = nI n := by rw [hI2, hn_u_ne _ _ _ (by omega)]; exact i3
      have hci : ∀ kd v, hn_u (hn_u I1 191 i (nI p)) 190 i kd 190 i = kd ∧ hn_u (hn_u I1 191 i (nI p)) 190 i kd 191 i = nI p ∧ hn_u J1 192 i v 192 i = v := fun kd v => ⟨by rw [hn_u_eq, va_up, if_pos rfl], by rw [hn_u_ne _ _ _ (by omega), hn_u_eq, va_up, if_pos rfl], by rw [hn_u_eq, va_up, if_pos rfl]⟩
      have S63 : hn_B 2 hm_M_cutAll P 63 [.ref 188, .int (nI i), .int (nI p), .int (nI (f p)), .int (nI p), .long 0, .null] [] (I2, J1, R) := by
        by_cases hl : isL (f p)
        · rw [if_pos hl] at hx
          obtain ⟨e, he⟩ : ∃ e, e = run isL f (n - p) p := ⟨_, rfl⟩
          rw [← he] at hx
          have hel := run_le isL f (n - p) p
          have heA := run_all isL f (n - p) p
          have heN := run_at isL f (n - p) p
          have hef := run_first hp hl
          rw [← he] at hel heA heN hef
          have S129 : hn_B 2 hm_M_cutAll P 129 [.ref 188, .int (nI i), .int (nI e), .int (nI (f p)), .int (nI p), .long (nJ (w37 f p (mn 8 (e - p)))), .null] [] (I2, J1, R) := by
            by_cases h8 : 8 < e - p
            · rw [if_pos h8] at hx
              refine b_aload_n rfl rfl ?_
              refine b_getR rfl (by first | rfl | assumption) rfl (by assumption) ?_
              refine b_iload_n rfl rfl ?_
              refine b_iload_n rfl rfl ?_
              refine b_iload rfl rfl ?_
              refine b_isub rfl ?_
              rw [nI_sb hel.1]
              refine b_bipush rfl ?_
              refine b_icmp_le rfl (fun c_140 => ?_) (fun c_140 => ?_)
              · exact absurd ((nI_le_c (k := 8) (by omega) (by omega)).mp c_140) (by omega)
              · refine b_iconst rfl ?_
                refine b_goto rfl ?_
                refine b_iastore rfl (by first | rfl | assumption) (nI_toInt (n := i) (by omega)) (by omega) ?_
                refine b_goto rfl ?_
                rw [hI2]; exact S265 e 4 _ _ _ (by rw [hx]) hef (by omega) (by rw [hx]; exact ⟨(hci 4 0).1, (hci 4 0).2.1, (fun z => by cases z), (fun z => by rcases z with z | z <;> cases z)⟩) (by rw [hx]; exact fun z => by cases z)
            · rw [if_neg h8] at hx
              have emn : mn 8 (e - p) = e - p := by unfold mn; split <;> omega
              have ecv : nJ (w37 f p (e - p)) = nJ (cv (w27 f p (e - p))) := by show nJ (w37 f p (e - p)) = nJ (cvF 8 (w27 f p (e - p))); rw [cv_w (e - p) 8 (by omega) (fun i hi => heA _ (by omega) (by omega))]
              rw [emn]
              refine b_aload_n rfl rfl ?_
              refine b_getR rfl (by first | rfl | assumption) rfl (by assumption) ?_
              refine b_iload_n rfl rfl ?_
              refine b_iload_n rfl rfl ?_
              refine b_iload rfl rfl ?_
              refine b_isub rfl ?_
              rw [nI_sb hel.1]
              refine b_bipush rfl ?_
              refine b_icmp_le rfl (fun c_140 => ?_) (fun c_140 => ?_)
              · refine b_iconst rfl ?_
                refine b_iastore rfl (by first | rfl | assumption) (nI_toInt (n := i) (by omega)) (by omega) ?_
                refine b_goto rfl ?_
                rw [hI2]; exact S265 e 1 _ _ _ (by rw [hx]) hef (by omega) (by rw [hx]; exact ⟨(hci 1 0).1, (hci 1 0).2.1, fun _ => by rw [(hci 1 (nJ (w37 f p (e - p)))).2.2]; exact ecv, (fun z => by rcases z with z | z <;> cases z)⟩) (by rw [hx]; exact fun z => by cases z)
              · exact absurd ((nI_le_c (k := 8) (by omega) (by omega)).mpr (by omega)) c_140
          have L70 : ∀ d k, k + d = e → p ≤ k → hn_B 2 hm_M_cutAll P 70 [.ref 188, .int (nI i), .int (nI k), .int (nI (f p)), .int (nI p), .long (nJ (w37 f p (mn 8 (k - p)))), .null] [] (I2, J1, R) := by
            intro d
            induction d with
            | zero =>
              intro k hk hpk
              obtain rfl : k = e := by omega
              by_cases hkn : k < n
              · obtain ⟨fk, fk8⟩ := f189 k hkn
                have hnl := heN (by omega)
                refine b_iload_n rfl rfl ?_
                refine b_aload_n rfl rfl ?_
                refine b_getI rfl (by first | rfl | assumption) rfl ?_
                rw [f3]
                refine b_icmp_ge rfl (fun c_75 => ?_) (fun c_75 => ?_)
                · exact absurd c_75 (nI_ge hkn (by omega))
                · refine b_aload_n rfl rfl ?_
                  refine b_getR rfl (by first | rfl | assumption) rfl (by assumption) ?_
                  refine b_iload_n rfl rfl ?_
                  refine b_iaload rfl (by first | rfl | assumption) (nI_toInt (n := k) (by omega)) (by omega) ?_
                  rw [fk]
                  refine b_callS rfl rfl hk_M_isLetter rfl rfl rfl (Nat.le_of_ble_eq_true rfl) (q_M_isLetter fk8) (Nat.le_of_ble_eq_true rfl) (fun r_84 D_84 q_84 => ?_)
                  obtain ⟨⟨b, rfl, hb⟩, rfl⟩ := q_84
                  refine b_if_eq rfl (fun c_87 => ?_) (fun c_87 => ?_)
                  · exact S129
                  · rcases hb with ⟨hb, _⟩ | ⟨_, hb⟩ <;> first | exact absurd hb hnl | exact absurd hb c_87
              · refine b_iload_n rfl rfl ?_
                refine b_aload_n rfl rfl ?_
                refine b_getI rfl (by first | rfl | assumption) rfl ?_
                rw [f3, show k = n by omega]
                refine b_icmp_ge rfl (fun c_75 => ?_) (fun c_75 => ?_)
                · rw [show n = k by omega] at hn ⊢; exact S129
                · exact absurd (nI_le (Nat.le_refl _) (by omega)) c_75
            | succ d ihd =>
              intro k hk hpk
              have hkn : k < n := by omega
              obtain ⟨fk, fk8⟩ := f189 k hkn
              have hkl := heA k hpk (by omega)
              have hk1 : k + 1 - p = k - p + 1 := by omega
              have ihd := ihd (k + 1) (by omega) (by omega)
              rw [hk1] at ihd
              by_cases h8 : k - p < 8
              · have em : mn 8 (k - p) = k - p := if_pos h8
                have em1 : mn 8 (k - p + 1) = k - p + 1 := by unfold mn; split <;> omega
                have ew : w37 f p (k - p + 1) = 37 * w37 f p (k - p) + (f k - 96) := by
                  show 37 * w37 f p (k - p) + (f (p + (k - p)) - 96) = _
                  rw [show p + (k - p) = k by omega]
                rw [em1, ew] at ihd
                rw [em]
                refine b_iload_n rfl rfl ?_
                refine b_aload_n rfl rfl ?_
                refine b_getI rfl (by first | rfl | assumption) rfl ?_
                rw [f3]
                refine b_icmp_ge rfl (fun c_75 => ?_) (fun c_75 => ?_)
                · exact absurd c_75 (nI_ge hkn (by omega))
                · refine b_aload_n rfl rfl ?_
                  refine b_getR rfl (by first | rfl | assumption) rfl (by assumption) ?_
                  refine b_iload_n rfl rfl ?_
                  refine b_iaload rfl (by first | rfl | assumption) (nI_toInt (n := k) (by omega)) (by omega) ?_
                  rw [fk]
                  refine b_callS rfl rfl hk_M_isLetter rfl rfl rfl (Nat.le_of_ble_eq_true rfl) (q_M_isLetter fk8) (Nat.le_of_ble_eq_true rfl) (fun r_84 D_84 q_84 => ?_)
                  obtain ⟨⟨b, rfl, hb⟩, rfl⟩ := q_84
                  refine b_if_eq rfl (fun c_87 => ?_) (fun c_87 => ?_)
                  · rcases hb with ⟨_, hb⟩ | ⟨hb, _⟩ <;> first | exact absurd hkl hb | (rw [hb] at c_87; exact absurd c_87 (by decide))
                  · refine b_iload_n rfl rfl ?_
                    refine b_iload rfl rfl ?_
                    refine b_isub rfl ?_
                    rw [nI_sb hpk]
                    refine b_bipush rfl ?_
                    refine b_icmp_ge rfl (fun c_96 => ?_) (fun c_96 => ?_)
                    · exact absurd ((nI_le_c (c := 8) (by omega) (by omega)).mp c_96) (by omega)
                    · refine b_ldc2_w rfl ?_
                      refine b_lload rfl rfl ?_
                      refine b_lmul rfl ?_
                      refine b_aload_n rfl rfl ?_
                      refine b_getR rfl (by first | rfl | assumption) rfl (by assumption) ?_
                      refine b_iload_n rfl rfl ?_
                      refine b_iaload rfl (by first | rfl | assumption) (nI_toInt (n := k) (by omega)) (by omega) ?_
                      rw [fk]
                      refine b_callS rfl rfl hk_M_rank rfl rfl rfl (Nat.le_of_ble_eq_true rfl) (q_M_rank fk8 hkl) (Nat.le_of_ble_eq_true rfl) (fun r_111 D_111 q_111 => ?_)
                      obtain ⟨rfl, rfl⟩ := q_111
                      refine b_i2l rfl ?_
                      rw [nI_J (by omega)]
                      refine b_ladd rfl ?_
                      rw [nJ_37]
                      refine b_goto rfl ?_
                      refine b_lstore rfl (Nat.le_of_ble_eq_true rfl) ?_
                      refine b_iinc rfl rfl (Nat.le_of_ble_eq_true rfl) ?_
                      refine b_goto rfl ?_
                      exact b_lp ihd (le_e (le_e (le_q (by rw [nI_succ]) (le_e (le_e (le_e (le_n le_0))))))) rfl rfl
              · have em : mn 8 (k - p) = 8 := if_neg h8
                have em1 : mn 8 (k - p + 1) = 8 := by unfold mn; split <;> omega
                rw [em1] at ihd
                rw [em]
                refine b_iload_n rfl rfl ?_
                refine b_aload_n rfl rfl ?_
                refine b_getI rfl (by first | rfl | assumption) rfl ?_
                rw [f3]
                refine b_icmp_ge rfl (fun c_75 => ?_) (fun c_75 => ?_)
                · exact absurd c_75 (nI_ge hkn (by omega))
                · refine b_aload_n rfl rfl ?_
                  refine b_getR rfl (by first | rfl | assumption) rfl (by assumption) ?_
                  refine b_iload_n rfl rfl ?_
                  refine b_iaload rfl (by first | rfl | assumption) (nI_toInt (n := k) (by omega)) (by omega) ?_
                  rw [fk]
                  refine b_callS rfl rfl hk_M_isLetter rfl rfl rfl (Nat.le_of_ble_eq_true rfl) (q_M_isLetter fk8) (Nat.le_of_ble_eq_true rfl) (fun r_84 D_84 q_84 => ?_)
                  obtain ⟨⟨b, rfl, hb⟩, rfl⟩ := q_84
                  refine b_if_eq rfl (fun c_87 => ?_) (fun c_87 => ?_)
                  · rcases hb with ⟨_, hb⟩ | ⟨hb, _⟩ <;> first | exact absurd hkl hb | (rw [hb] at c_87; exact absurd c_87 (by decide))
                  · refine b_iload_n rfl rfl ?_
                    refine b_iload rfl rfl ?_
                    refine b_isub rfl ?_
                    rw [nI_sb hpk]
                    refine b_bipush rfl ?_
                    refine b_icmp_ge rfl (fun c_96 => ?_) (fun c_96 => ?_)
                    · refine b_lload rfl rfl ?_
                      refine b_lstore rfl (Nat.le_of_ble_eq_true rfl) ?_
                      refine b_iinc rfl rfl (Nat.le_of_ble_eq_true rfl) ?_
                      refine b_goto rfl ?_
                      exact b_lp ihd (le_e (le_e (le_q (by rw [nI_succ]) (le_e (le_e (le_e (le_n le_0))))))) rfl rfl
                    · exact absurd ((nI_le_c (c := 8) (by omega) (by omega)).mpr (by omega)) c_96
          have L70 := L70 (e - p) p (by omega) (Nat.le_refl _)
          rw [Nat.sub_self] at L70
          refine b_iload_n rfl rfl ?_
          refine b_callS rfl rfl hk_M_isLetter rfl rfl rfl (Nat.le_of_ble_eq_true rfl) (q_M_isLetter hc) (Nat.le_of_ble_eq_true rfl) (fun r_64 D_64 q_64 => ?_)
          obtain ⟨⟨b, rfl, hb⟩, rfl⟩ := q_64
          refine b_if_eq rfl (fun c_67 => ?_) (fun c_67 => ?_)
          · rcases hb with ⟨_, hb⟩ | ⟨hb, _⟩ <;> first | exact absurd hl hb | (rw [hb] at c_67; exact absurd c_67 (by decide))
          · exact L70
        rw [if_neg hl] at hx
        by_cases hd : isD (f p)
        · rw [if_pos hd] at hx
          obtain ⟨e, he⟩ : ∃ e, e = run isD f (n - p) p := ⟨_, rfl⟩
          rw [← he] at hx
          have hel := run_le isD f (n - p) p
          have heA := run_all isD f (n - p) p
          have heN := run_at isD f (n - p) p
          have hef := run_first hp hd
          rw [← he] at hel heA heN hef
          have S218 : hn_B 2 hm_M_cutAll P 218 [.ref 188, .int (nI i), .int (nI e), .int (nI (f p)), .int (nI p), .long (nJ (num f p (mn 4 (e - p)))), .null] [] (I2, J1, R) := by
            by_cases h8 : 4 < e - p
            · rw [if_pos h8] at hx
              refine b_aload_n rfl rfl ?_
              refine b_getR rfl (by first | rfl | assumption) rfl (by assumption) ?_
              refine b_iload_n rfl rfl ?_
              refine b_iload_n rfl rfl ?_
              refine b_iload rfl rfl ?_
              refine b_isub rfl ?_
              rw [nI_sb hel.1]
              refine b_iconst rfl ?_
              refine b_icmp_le rfl (fun c_228 => ?_) (fun c_228 => ?_)
              · exact absurd ((nI_le_c (k := 4) (by omega) (by omega)).mp c_228) (by omega)
              · refine b_iconst rfl ?_
                refine b_goto rfl ?_
                refine b_iastore rfl (by first | rfl | assumption) (nI_toInt (n := i) (by omega)) (by omega) ?_
                refine b_goto rfl ?_
                rw [hI2]; exact S265 e 4 _ _ _ (by rw [hx]) hef (by omega) (by rw [hx]; exact ⟨(hci 4 0).1, (hci 4 0).2.1, (fun z => by cases z), (fun z => by rcases z with z | z <;> cases z)⟩) (by rw [hx]; exact fun z => by cases z)
            · rw [if_neg h8] at hx
              have emn : mn 4 (e - p) = e - p := by unfold mn; split <;> omega
              rw [emn]
              refine b_aload_n rfl rfl ?_
              refine b_getR rfl (by first | rfl | assumption) rfl (by assumption) ?_
              refine b_iload_n rfl rfl ?_
              refine b_iload_n rfl rfl ?_
              refine b_iload rfl rfl ?_
              refine b_isub rfl ?_
              rw [nI_sb hel.1]
              refine b_iconst rfl ?_
              refine b_icmp_le rfl (fun c_228 => ?_) (fun c_228 => ?_)
              · refine b_iconst rfl ?_
                refine b_iastore rfl (by first | rfl | assumption) (nI_toInt (n := i) (by omega)) (by omega) ?_
                refine b_goto rfl ?_
                rw [hI2]; exact S265 e 2 _ _ _ (by rw [hx]) hef (by omega) (by rw [hx]; exact ⟨(hci 2 0).1, (hci 2 0).2.1, (fun z => by cases z), fun _ => (hci 2 (nJ (num f p (e - p)))).2.2⟩) (by rw [hx]; exact fun z => by cases z)
              · exact absurd ((nI_le_c (k := 4) (by omega) (by omega)).mpr (by omega)) c_228
          have L159 : ∀ d k, k + d = e → p ≤ k → hn_B 2 hm_M_cutAll P 159 [.ref 188, .int (nI i), .int (nI k), .int (nI (f p)), .int (nI p), .long (nJ (num f p (mn 4 (k - p)))), .null] [] (I2, J1, R) := by
            intro d
            induction d with
            | zero =>
              intro k hk hpk
              obtain rfl : k = e := by omega
              by_cases hkn : k < n
              · obtain ⟨fk, fk8⟩ := f189 k hkn
                have hnl := heN (by omega)
                refine b_iload_n rfl rfl ?_
                refine b_aload_n rfl rfl ?_
                refine b_getI rfl (by first | rfl | assumption) rfl ?_
                rw [f3]
                refine b_icmp_ge rfl (fun c_164 => ?_) (fun c_164 => ?_)
                · exact absurd c_164 (nI_ge hkn (by omega))
                · refine b_aload_n rfl rfl ?_
                  refine b_getR rfl (by first | rfl | assumption) rfl (by assumption) ?_
                  refine b_iload_n rfl rfl ?_
                  refine b_iaload rfl (by first | rfl | assumption) (nI_toInt (n := k) (by omega)) (by omega) ?_
                  rw [fk]
                  refine b_callS rfl rfl hk_M_isDigit rfl rfl rfl (Nat.le_of_ble_eq_true rfl) (q_M_isDigit fk8) (Nat.le_of_ble_eq_true rfl) (fun r_173 D_173 q_173 => ?_)
                  obtain ⟨⟨b, rfl, hb⟩, rfl⟩ := q_173
                  refine b_if_eq rfl (fun c_176 => ?_) (fun c_176 => ?_)
                  · exact S218
                  · rcases hb with ⟨hb, _⟩ | ⟨_, hb⟩ <;> first | exact absurd hb hnl | exact absurd hb c_176
              · refine b_iload_n rfl rfl ?_
                refine b_aload_n rfl rfl ?_
                refine b_getI rfl (by first | rfl | assumption) rfl ?_
                rw [f3, show k = n by omega]
                refine b_icmp_ge rfl (fun c_164 => ?_) (fun c_164 => ?_)
                · rw [show n = k by omega] at hn ⊢; exact S218
                · exact absurd (nI_le (Nat.le_refl _) (by omega)) c_164
            | succ d ihd =>
              intro k hk hpk
              have hkn : k < n := by omega
              obtain ⟨fk, fk8⟩ := f189 k hkn
              have hkl := heA k hpk (by omega)
              have hk1 : k + 1 - p = k - p + 1 := by omega
              have ihd := ihd (k + 1) (by omega) (by omega)
              rw [hk1] at ihd
              by_cases h8 : k - p < 4
              · have em : mn 4 (k - p) = k - p := if_pos h8
                have em1 : mn 4 (k - p + 1) = k - p + 1 := by unfold mn; split <;> omega
                have ew : num f p (k - p + 1) = num f p (k - p) * 10 + (f k - 48) := by
                  show num f p (k - p) * 10 + (f (p + (k - p)) - 48) = _
                  rw [show p + (k - p) = k by omega]
                rw [em1, ew] at ihd
                rw [em]
                refine b_iload_n rfl rfl ?_
                refine b_aload_n rfl rfl ?_
                refine b_getI rfl (by first | rfl | assumption) rfl ?_
                rw [f3]
                refine b_icmp_ge rfl (fun c_164 => ?_) (fun c_164 => ?_)
                · exact absurd c_164 (nI_ge hkn (by omega))
                · refine b_aload_n rfl rfl ?_
                  refine b_getR rfl (by first | rfl | assumption) rfl (by assumption) ?_
                  refine b_iload_n rfl rfl ?_
                  refine b_iaload rfl (by first | rfl | assumption) (nI_toInt (n := k) (by omega)) (by omega) ?_
                  rw [fk]
                  refine b_callS rfl rfl hk_M_isDigit rfl rfl rfl (Nat.le_of_ble_eq_true rfl) (q_M_isDigit fk8) (Nat.le_of_ble_eq_true rfl) (fun r_173 D_173 q_173 => ?_)
                  obtain ⟨⟨b, rfl, hb⟩, rfl⟩ := q_173
                  refine b_if_eq rfl (fun c_176 => ?_) (fun c_176 => ?_)
                  · rcases hb with ⟨_, hb⟩ | ⟨hb, _⟩ <;> first | exact absurd hkl hb | (rw [hb] at c_176; exact absurd c_176 (by decide))
                  · refine b_iload_n rfl rfl ?_
                    refine b_iload rfl rfl ?_
                    refine b_isub rfl ?_
                    rw [nI_sb hpk]
                    refine b_iconst rfl ?_
                    refine b_icmp_ge rfl (fun c_184 => ?_) (fun c_184 => ?_)
                    · exact absurd ((nI_le_c (c := 4) (by omega) (by omega)).mp c_184) (by omega)
                    · refine b_ldc2_w rfl ?_
                      refine b_lload rfl rfl ?_
                      refine b_lmul rfl ?_
                      refine b_aload_n rfl rfl ?_
                      refine b_getR rfl (by first | rfl | assumption) rfl (by assumption) ?_
                      refine b_iload_n rfl rfl ?_
                      refine b_iaload rfl (by first | rfl | assumption) (nI_toInt (n := k) (by omega)) (by omega) ?_
                      rw [fk]
                      refine b_i2l rfl ?_
                      rw [nI_J (by omega)]
                      refine b_ladd rfl ?_
                      refine b_ldc2_w rfl ?_
                      refine b_lsub rfl ?_
                      rw [nJ_10 hkl.1]
                      refine b_goto rfl ?_
                      refine b_lstore rfl (Nat.le_of_ble_eq_true rfl) ?_
                      refine b_iinc rfl rfl (Nat.le_of_ble_eq_true rfl) ?_
                      refine b_goto rfl ?_
                      exact b_lp ihd (le_e (le_e (le_q (by rw [nI_succ]) (le_e (le_e (le_e (le_n le_0))))))) rfl rfl
              · have em : mn 4 (k - p) = 4 := if_neg h8
                have em1 : mn 4 (k - p + 1) = 4 := by unfold mn; split <;> omega
                rw [em1] at ihd
                rw [em]
                refine b_iload_n rfl rfl ?_
                refine b_aload_n rfl rfl ?_
                refine b_getI rfl (by first | rfl | assumption) rfl ?_
                rw [f3]
                refine b_icmp_ge rfl (fun c_164 => ?_) (fun c_164 => ?_)
                · exact absurd c_164 (nI_ge hkn (by omega))
                · refine b_aload_n rfl rfl ?_
                  refine b_getR rfl (by first | rfl | assumption) rfl (by assumption) ?_
                  refine b_iload_n rfl rfl ?_
                  refine b_iaload rfl (by first | rfl | assumption) (nI_toInt (n := k) (by omega)) (by omega) ?_
                  rw [fk]
                  refine b_callS rfl rfl hk_M_isDigit rfl rfl rfl (Nat.le_of_ble_eq_true rfl) (q_M_isDigit fk8) (Nat.le_of_ble_eq_true rfl) (fun r_173 D_173 q_173 => ?_)
                  obtain ⟨⟨b, rfl, hb⟩, rfl⟩ := q_173
                  refine b_if_eq rfl (fun c_176 => ?_) (fun c_176 => ?_)
                  · rcases hb with ⟨_, hb⟩ | ⟨hb, _⟩ <;> first | exact absurd hkl hb | (rw [hb] at c_176; exact absurd c_176 (by decide))
                  · refine b_iload_n rfl rfl ?_
                    refine b_iload rfl rfl ?_
                    refine b_isub rfl ?_
                    rw [nI_sb hpk]
                    refine b_iconst rfl ?_
                    refine b_icmp_ge rfl (fun c_184 => ?_) (fun c_184 => ?_)
                    · refine b_lload rfl rfl ?_
                      refine b_lstore rfl (Nat.le_of_ble_eq_true rfl) ?_
                      refine b_iinc rfl rfl (Nat.le_of_ble_eq_true rfl) ?_
                      refine b_goto rfl ?_
                      exact b_lp ihd (le_e (le_e (le_q (by rw [nI_succ]) (le_e (le_e (le_e (le_n le_0))))))) rfl rfl
                    · exact absurd ((nI_le_c (c := 4) (by omega) (by omega)).mpr (by omega)) c_184
          have L159 := L159 (e - p) p (by omega) (Nat.le_refl _)
          rw [Nat.sub_self] at L159
          refine b_iload_n rfl rfl ?_
          refine b_callS rfl rfl hk_M_isLetter rfl rfl rfl (Nat.le_of_ble_eq_true rfl) (q_M_isLetter hc) (Nat.le_of_ble_eq_true rfl) (fun r_64 D_64 q_64 => ?_)
          obtain ⟨⟨b, rfl, hb⟩, rfl⟩ := q_64
          refine b_if_eq rfl (fun c_67 => ?_) (fun c_67 => ?_)
          · refine b_iload_n rfl rfl ?_
            refine b_callS rfl rfl hk_M_isDigit rfl rfl rfl (Nat.le_of_ble_eq_true rfl) (q_M_isDigit hc) (Nat.le_of_ble_eq_true rfl) (fun r_153 D_153 q_153 => ?_)
            obtain ⟨⟨b2, rfl, hb2⟩, rfl⟩ := q_153
            refine b_if_eq rfl (fun c_156 => ?_) (fun c_156 => ?_)
            · rcases hb2 with ⟨_, hb2⟩ | ⟨hb2, _⟩ <;> first | exact absurd hd hb2 | (rw [hb2] at c_156; exact absurd c_156 (by decide))
            · exact L159
          · rcases hb with ⟨hb, _⟩ | ⟨_, hb⟩ <;> first | exact absurd hb hl | exact absurd hb c_67
        rw [if_neg hd] at hx
        by_cases hs : isS (f p)
        · rw [if_pos hs] at hx
          refine b_iload_n rfl rfl ?_
          refine b_callS rfl rfl hk_M_isLetter rfl rfl rfl (Nat.le_of_ble_eq_true rfl) (q_M_isLetter hc) (Nat.le_of_ble_eq_true rfl) (fun r_64 D_64 q_64 => ?_)
          obtain ⟨⟨b, rfl, hb⟩, rfl⟩ := q_64
          refine b_if_eq rfl (fun c_67 => ?_) (fun c_67 => ?_)
          · refine b_iload_n rfl rfl ?_
            refine b_callS rfl rfl hk_M_isDigit rfl rfl rfl (Nat.le_of_ble_eq_true rfl) (q_M_isDigit hc) (Nat.le_of_ble_eq_true rfl) (fun r_153 D_153 q_153 => ?_)
            obtain ⟨⟨b2, rfl, hb2⟩, rfl⟩ := q_153
            refine b_if_eq rfl (fun c_156 => ?_) (fun c_156 => ?_)
            · refine b_iload_n rfl rfl ?_
              refine b_i2l rfl ?_
              rw [nI_J (by omega)]
              refine b_lstore rfl (Nat.le_of_ble_eq_true rfl) ?_
              refine b_aload_n rfl rfl ?_
              refine b_getR rfl (by first | rfl | assumption) rfl (by assumption) ?_
              refine b_iload_n rfl rfl ?_
              refine b_iload_n rfl rfl ?_
              refine b_callS rfl rfl hk_M_isSignOf rfl rfl rfl (Nat.le_of_ble_eq_true rfl) (q_M_isSignOf hc) (Nat.le_of_ble_eq_true rfl) (fun r_250 D_250 q_250 => ?_)
              obtain ⟨⟨b3, rfl, hb3⟩, rfl⟩ := q_250
              refine b_if_eq rfl (fun c_253 => ?_) (fun c_253 => ?_)
              · rcases hb3 with ⟨_, hb3⟩ | ⟨hb3, _⟩ <;> first | exact absurd hs hb3 | (rw [hb3] at c_253; exact absurd c_253 (by decide))
              · refine b_iconst rfl ?_
                refine b_goto rfl ?_
                refine b_iastore rfl (by first | rfl | assumption) (nI_toInt (n := i) (by omega)) (by omega) ?_
                refine b_iinc rfl rfl (Nat.le_of_ble_eq_true rfl) ?_
                rw [← nI_succ, hI2]; exact S265 (p + 1) 3 _ _ _ (by rw [hx]) (by omega) (by omega) (by rw [hx]; exact ⟨(hci 3 0).1, (hci 3 0).2.1, (fun z => by cases z), fun _ => (hci 3 (nJ (f p))).2.2⟩) (by rw [hx]; exact fun z => by cases z)
            · rcases hb2 with ⟨hb2, _⟩ | ⟨_, hb2⟩ <;> first | exact absurd hb2 hd | exact absurd hb2 c_156
          · rcases hb with ⟨hb, _⟩ | ⟨_, hb⟩ <;> first | exact absurd hb hl | exact absurd hb c_67
        · rw [if_neg hs] at hx
          refine b_iload_n rfl rfl ?_
          refine b_callS rfl rfl hk_M_isLetter rfl rfl rfl (Nat.le_of_ble_eq_true rfl) (q_M_isLetter hc) (Nat.le_of_ble_eq_true rfl) (fun r_64 D_64 q_64 => ?_)
          obtain ⟨⟨b, rfl, hb⟩, rfl⟩ := q_64
          refine b_if_eq rfl (fun c_67 => ?_) (fun c_67 => ?_)
          · refine b_iload_n rfl rfl ?_
            refine b_callS rfl rfl hk_M_isDigit rfl rfl rfl (Nat.le_of_ble_eq_true rfl) (q_M_isDigit hc) (Nat.le_of_ble_eq_true rfl) (fun r_153 D_153 q_153 => ?_)
            obtain ⟨⟨b2, rfl, hb2⟩, rfl⟩ := q_153
            refine b_if_eq rfl (fun c_156 => ?_) (fun c_156 => ?_)
            · refine b_iload_n rfl rfl ?_
              refine b_i2l rfl ?_
              rw [nI_J (by omega)]
              refine b_lstore rfl (Nat.le_of_ble_eq_true rfl) ?_
              refine b_aload_n rfl rfl ?_
              refine b_getR rfl (by first | rfl | assumption) rfl (by assumption) ?_
              refine b_iload_n rfl rfl ?_
              refine b_iload_n rfl rfl ?_
              refine b_callS rfl rfl hk_M_isSignOf rfl rfl rfl (Nat.le_of_ble_eq_true rfl) (q_M_isSignOf hc) (Nat.le_of_ble_eq_true rfl) (fun r_250 D_250 q_250 => ?_)
              obtain ⟨⟨b3, rfl, hb3⟩, rfl⟩ := q_250
              refine b_if_eq rfl (fun c_253 => ?_) (fun c_253 => ?_)
              · refine b_iconst rfl ?_
                refine b_iastore rfl (by first | rfl | assumption) (nI_toInt (n := i) (by omega)) (by omega) ?_
                refine b_iinc rfl rfl (Nat.le_of_ble_eq_true rfl) ?_
                rw [← nI_succ, hI2]; exact S265 (p + 1) 4 _ _ _ (by rw [hx]) (by omega) (by omega) (by rw [hx]; exact ⟨(hci 4 0).1, (hci 4 0).2.1, (fun z => by cases z), (fun z => by rcases z with z | z <;> cases z)⟩) (by rw [hx]; exact fun z => by cases z)
              · rcases hb3 with ⟨hb3, _⟩ | ⟨_, hb3⟩ <;> first | exact absurd hb3 hs | exact absurd hb3 c_253
            · rcases hb2 with ⟨hb2, _⟩ | ⟨_, hb2⟩ <;> first | exact absurd hb2 hd | exact absurd hb2 c_156
          · rcases hb with ⟨hb, _⟩ | ⟨_, hb⟩ <;> first | exact absurd hb hl | exact absurd hb c_67
      have b32 : ¬ nI (f p) = 32 := fun z => hb (Or.inl ((ie 32 (by omega)).mp z))
      have b10 : ¬ nI (f p) = 10 := fun z => hb (Or.inr ((ie 10 (by omega)).mp z))
      refine b_iload_n rfl rfl ?_
      refine b_aload_n rfl rfl ?_
      refine b_getI rfl (by first | rfl | assumption) rfl ?_
      rw [i3]
      refine b_icmp_ge rfl (fun c_22 => ?_) (fun c_22 => ?_)
      · exact absurd c_22 (nI_ge hp (by omega))
      · refine b_aload_n rfl rfl ?_
        refine b_getR rfl (by first | rfl | assumption) rfl (by assumption) ?_
        refine b_iload_n rfl rfl ?_
        refine b_iaload rfl (by first | rfl | assumption) (nI_toInt (n := p) (by omega)) (by omega) ?_
        rw [ec]
        refine b_istore_n rfl (Nat.le_of_ble_eq_true rfl) ?_
        refine b_iload_n rfl rfl ?_
        refine b_bipush rfl ?_
        refine b_icmp_eq rfl (fun c_35 => ?_) (fun c_35 => ?_)
        · exact absurd c_35 b10
        · refine b_iload_n rfl rfl ?_
          refine b_bipush rfl ?_
          refine b_icmp_ne rfl (fun c_41 => ?_) (fun c_41 => ?_)
          · refine b_iload_n rfl rfl ?_
            refine b_istore rfl (Nat.le_of_ble_eq_true rfl) ?_
            refine b_lconst rfl ?_
            refine b_lstore rfl (Nat.le_of_ble_eq_true rfl) ?_
            refine b_aload_n rfl rfl ?_
            refine b_getR rfl (by first | rfl | assumption) rfl (by assumption) ?_
            refine b_iload_n rfl rfl ?_
            refine b_iload_n rfl rfl ?_
            refine b_iastore rfl (by first | rfl | assumption) (nI_toInt (n := i) (by omega)) (by omega) ?_
            rw [← hI2]; exact S63
          · exact absurd c_41 b32
  refine b_aload_n rfl rfl ?_
  refine b_aload_n rfl rfl ?_
  refine b_getI rfl (by first | rfl | assumption) rfl ?_
  rw [h2]
  refine b_putI rfl (by first | rfl | assumption) rfl rfl ⟨rfl, rfl⟩ ?_
  refine b_aload_n rfl rfl ?_
  refine b_iconst rfl ?_
  refine b_putI rfl (by first | rfl | assumption) rfl rfl ⟨rfl, rfl⟩ ?_
  refine b_iconst rfl ?_
  refine b_istore_n rfl (Nat.le_of_ble_eq_true rfl) ?_
  refine b_iconst rfl ?_
  refine b_istore_n rfl (Nat.le_of_ble_eq_true rfl) ?_
  obtain ⟨I2, hI2⟩ : ∃ z, z = hn_u (hn_u I 188 3 (nI n)) 188 2 0 := ⟨_, rfl⟩
  rw [← hI2]
  exact b_lp (lp n 0 0 I2 J (Nat.zero_le _) (by omega) (Nat.le_refl _) rfl ⟨fun b h1 _ _ => by rw [hI2, hn_u_ne _ _ _ h1, hn_u_ne _ _ _ h1], fun b _ => rfl, fun j j2 j3 _ _ => by rw [hI2, hn_u_eq, va_up, if_neg j2, hn_u_eq, va_up, if_neg j3]⟩ (fun k hk => absurd hk (Nat.not_lt_zero _)) (by rw [hI2, hn_u_eq, va_up, if_neg (by omega), hn_u_eq, va_up, if_pos rfl]) (by rw [hI2, hn_u_eq, va_up, if_pos rfl])) (le_e (le_q (by rfl) (le_q (by rfl) (le_n (le_n (le_n (le_n le_0))))))) rfl rfl
end HNcutall
