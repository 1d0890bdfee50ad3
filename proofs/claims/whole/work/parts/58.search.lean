section HNsearch
variable {I I' : Nat → Nat → Int32} {J J' : Nat → Nat → Int64} {R : Nat → Nat → Option Nat} {t : Nat} {N : sp_N} {Q Q' S : sp_Q} {U : sp_U} {V : sp_V}
/-! bits of long numbers -/
abbrev jb (x : Int64) (k : Nat) : Prop := x.toBitVec.getLsbD k = true
theorem hl_b1 (y : Int64) : ¬ y &&& 1 = 0 ↔ y.toBitVec.getLsbD 0 = true := by
  have h : (y &&& 1).toBitVec = BitVec.setWidth 64 (BitVec.ofBool (y.toBitVec.getLsbD 0)) := by
    rw [Int64.toBitVec_and]
    exact BitVec.and_one_eq_setWidth_ofBool_getLsbD
  cases hb : y.toBitVec.getLsbD 0 with
  | false =>
    rw [hb] at h
    exact ⟨fun z => absurd (Int64.toBitVec_inj.mp (h.trans rfl)) z, fun z => by cases z⟩
  | true =>
    rw [hb] at h
    exact ⟨fun _ => rfl, fun _ z => by rw [z] at h; exact absurd h (by decide)⟩
theorem jb_sh {x : Int64} {k j : Nat} (hk : k < 63) : (x >>> ((nI k).toInt64 &&& 63)).toBitVec.getLsbD j = (if k + j < 64 then x.toBitVec.getLsbD (k + j) else x.toBitVec.msb && decide (j < 64)) := by
  have key : ∀ k : Fin 63, (((nI k.val).toInt64 &&& 63).toBitVec.smod 64).toNat = k.val := by decide +kernel
  rw [Int64.toBitVec_shiftRight, BitVec.sshiftRight_eq', key ⟨k, hk⟩, BitVec.getLsbD_sshiftRight]
  by_cases hj : j < 64
  · have h1 : decide (64 ≤ j) = false := decide_eq_false (by omega)
    have h2 : decide (j < 64) = true := decide_eq_true hj
    rw [h1, h2, Bool.not_false, Bool.true_and, Bool.and_true]
  · have h1 : decide (64 ≤ j) = true := decide_eq_true (by omega)
    have h2 : decide (j < 64) = false := decide_eq_false hj
    rw [h1, h2, Bool.not_true, Bool.false_and, Bool.and_false, if_neg (by omega)]
theorem jb_bit {x : Int64} {k : Nat} (hk : k < 63) : ¬ (x >>> ((nI k).toInt64 &&& 63)) &&& 1 = 0 ↔ jb x k := by
  rw [hl_b1, jb_sh hk, if_pos (by omega)]
  simp [jb]
theorem jb_ext {x y : Int64} (h : ∀ k, k < 64 → (jb x k ↔ jb y k)) : x = y := by
  refine Int64.toBitVec_inj.mp (BitVec.eq_of_getLsbD_eq (fun i hi => ?_))
  have := h i hi
  unfold jb at this
  cases hx : x.toBitVec.getLsbD i <;> cases hy : y.toBitVec.getLsbD i <;> simp_all
theorem jb_0 {k : Nat} : ¬ jb 0 k := by
  show ¬ (0 : Int64).toBitVec.getLsbD k = true
  have e : (0 : Int64).toBitVec = 0#64 := by decide
  rw [e]; simp
theorem jb_zero {x : Int64} : x = 0 ↔ ∀ k, k < 64 → ¬ jb x k := by
  constructor
  · rintro rfl k _; exact jb_0
  · intro h; exact jb_ext (fun k hk => ⟨fun z => absurd z (h k hk), fun z => absurd z jb_0⟩)
theorem jb_or {x y : Int64} {k : Nat} : jb (x ||| y) k ↔ jb x k ∨ jb y k := by
  unfold jb
  rw [Int64.toBitVec_or, BitVec.getLsbD_or, Bool.or_eq_true]
theorem jb_and1 {x : Int64} {k : Nat} : jb (x &&& 1) k ↔ k = 0 ∧ jb x 0 := by
  unfold jb
  rw [Int64.toBitVec_and, BitVec.getLsbD_and]
  have e : (1 : Int64).toBitVec = 1#64 := by decide
  rw [e, BitVec.getLsbD_one]
  by_cases h : k = 0
  · subst h; simp
  · simp [h]
theorem jb_1 {j k : Nat} (hj : j < 63) (hk : k < 64) : jb ((1 : Int64) <<< ((nI j).toInt64 &&& 63)) k ↔ k = j := by
  have h : ∀ j : Fin 63, ∀ k : Fin 64, ((1 : Int64) <<< ((nI j.val).toInt64 &&& 63)).toBitVec.getLsbD k.val = true ↔ k.val = j.val := by decide +kernel
  exact h ⟨j, hj⟩ ⟨k, hk⟩
/-- no bits from k on -/
theorem jb_none {x : Int64} {k : Nat} (hk : k < 63) (hx : ¬ jb x 63) : (x >>> ((nI k).toInt64 &&& 63)) = 0 ↔ ∀ j, k ≤ j → j < 64 → ¬ jb x j := by
  rw [jb_zero]
  have hm : x.toBitVec.msb = false := by
    rw [BitVec.msb_eq_getLsbD_last]
    cases h : x.toBitVec.getLsbD (64 - 1) with
    | false => rfl
    | true => exact absurd h hx
  constructor
  · intro h j hj h64 hb
    have := h (j - k) (by omega)
    unfold jb at this
    rw [jb_sh hk, if_pos (by omega), show k + (j - k) = j by omega] at this
    exact this hb
  · intro h j hj hb
    unfold jb at hb
    rw [jb_sh hk] at hb
    by_cases hl : k + j < 64
    · rw [if_pos hl] at hb; exact h (k + j) (by omega) hl hb
    · rw [if_neg hl, hm] at hb; simp at hb
/-! the fewest shifts -/
abbrev sr_w (N : sp_N) (sh : Int32) (n k u : Nat) : Int32 := sp_will (nK N) (nH N) (nF N) 0 k (nI u) (sh + nI n) 0
def wn (N : sp_N) (sh : Int32) (n k u : Nat) : Nat := (sr_w N sh n k u).toInt.toNat
theorem wn_of {sh : Int32} {n k u : Nat} (hu : u ≤ 40) : sr_w N sh n k u = nI (wn N sh n k u) ∧ wn N sh n k u ≤ 40 := by
  obtain ⟨j, hj, e⟩ := sp_will_bd (kd := nK N) (hd := nH N) (lf := nF N) (fm := 0) (k := k) (many := sh + nI n) (others := 0) (will := nI u) ⟨u, hu, rfl⟩
  have e2 : wn N sh n k u = j := by unfold wn sr_w; rw [e, nI_toInt (by omega)]; omega
  rw [e2]; exact ⟨e, hj⟩
abbrev sr_f (N : sp_N) (sh : Int32) (n k u : Nat) : Prop := sp_fall (nK N) (nH N) 0 k (sr_w N sh n k u)
def sw (N : sp_N) (s : Nat → Int32) (sh : Int32) (pl w0 : Nat) : Nat → Nat → Nat → Prop
  | 0, k, w => k = pl ∧ w = w0
  | n + 1, k, w => k < N.1 ∧ ∃ f u, f < 8 ∧ 1 ≤ u ∧ u ≤ 40 ∧ sw N s sh pl w0 n f u ∧ sp_bit (s f) k ∧ w = wn N sh n k u ∧ ¬ sr_f N sh n k u
def sfl (N : sp_N) (s : Nat → Int32) (sh : Int32) (pl w0 : Nat) (n : Nat) : Prop := ∃ k f u, k < N.1 ∧ f < 8 ∧ 1 ≤ u ∧ u ≤ 40 ∧ sw N s sh pl w0 n f u ∧ sp_bit (s f) k ∧ sr_f N sh n k u
theorem sw_lt {s : Nat → Int32} {sh : Int32} {pl w0 : Nat} (hp : pl < N.1) (hw : w0 ≤ 40) : ∀ n k w, sw N s sh pl w0 n k w → k < N.1 ∧ w ≤ 40
  | 0, k, w, h => ⟨by have := h.1; omega, by have := h.2; omega⟩
  | n + 1, k, w, h => by
    obtain ⟨h1, f, u, _, _, hu, _, _, e, _⟩ := h
    exact ⟨h1, by rw [e]; exact (wn_of hu).2⟩
/-- an aim: a knot, 8 asleep, 9 fallen -/
def sg (N : sp_N) (s : Nat → Int32) (sh : Int32) (pl w0 aim n : Nat) : Prop :=
  if aim = 9 then ∃ m, m < n ∧ sfl N s sh pl w0 m else if aim = 8 then ∃ k, k < 8 ∧ sw N s sh pl w0 n k 0 else ∃ w, sw N s sh pl w0 n aim w
noncomputable def v_few (N : sp_N) (s : Nat → Int32) (sh : Int32) (pl w0 aim : Nat) : Int32 := @sp_first (sg N s sh pl w0 aim) (fun _ => Classical.propDecidable _) 31 0
/-- the class's rows of it -/
def hs_W (J : Nat → Nat → Int64) (a : Nat) (W : Nat → Nat → Prop) : Prop := ∀ k, k < 8 → ∀ w, w < 64 → (jb (J a k) w ↔ W k w)
theorem hs_Se1 (hR : hs_refs R) : R 183 0 = some 184 ∧ R 183 1 = some 185 ∧ R 0 16 = some 183 := ⟨hR (183, 0, 184) (by decide +kernel), hR (183, 1, 185) (by decide +kernel), hR (0, 16, 183) (by decide +kernel)⟩
/-- what a search may change -/
abbrev hs_q (t b : Nat) : Prop := b = 183 ∨ b = t + 9 ∨ b = t + 10
theorem hs_Nx_q (hN : hs_Nx I t N) (ht : t = 4 ∨ t = 20) (hf : ∀ b, ¬ hs_q t b → I' b = I b) : hs_Nx I' t N := hs_Nx_fr (fun b hb => hf b (fun e => hb (by unfold hs_q at e; unfold hs_xs; omega))) ht hN
theorem sr_skip {sh : Int32} {n k m w : Nat} {x : Int64} (hfa : sr_f N sh n k m) : (∃ u, 1 ≤ u ∧ u < m ∧ jb x u ∧ w = wn N sh n k u ∧ ¬ sr_f N sh n k u) ↔ ∃ u, 1 ≤ u ∧ u < m + 1 ∧ jb x u ∧ w = wn N sh n k u ∧ ¬ sr_f N sh n k u := by
  constructor
  · rintro ⟨u, h1, h2, h3⟩; exact ⟨u, h1, by omega, h3⟩
  · rintro ⟨u, h1, h2, h3, h4, h5⟩; exact ⟨u, h1, by have : u ≠ m := fun e => h5 (e ▸ hfa); omega, h3, h4, h5⟩
theorem sr_fall {sh : Int32} {n k m : Nat} {x : Int64} {F : Prop} {a b : Int32} (h : fg (F ∨ ∃ u, 1 ≤ u ∧ u < m ∧ jb x u ∧ sr_f N sh n k u) a) (hfa : ¬ sr_f N sh n k m) (e : b = a) : fg (F ∨ ∃ u, 1 ≤ u ∧ u < m + 1 ∧ jb x u ∧ sr_f N sh n k u) b := by
  subst e
  have e : (F ∨ ∃ u, 1 ≤ u ∧ u < m ∧ jb x u ∧ sr_f N sh n k u) ↔ (F ∨ ∃ u, 1 ≤ u ∧ u < m + 1 ∧ jb x u ∧ sr_f N sh n k u) := by
    constructor
    · rintro (h | ⟨u, h1, h2, h3⟩)
      · exact Or.inl h
      · exact Or.inr ⟨u, h1, by omega, h3⟩
    · rintro (h | ⟨u, h1, h2, h3, h4⟩)
      · exact Or.inl h
      · exact Or.inr ⟨u, h1, by have : u ≠ m := fun e => hfa (e ▸ h4); omega, h3, h4⟩
  rw [← e]; exact h
theorem sr_start {sh : Int32} {n k : Nat} {x : Int64} {F : Prop} {a : Int32} (h : fg F a) : fg (F ∨ ∃ u, 1 ≤ u ∧ u < 1 ∧ jb x u ∧ sr_f N sh n k u) a := by
  have e : (F ∨ ∃ u, 1 ≤ u ∧ u < 1 ∧ jb x u ∧ sr_f N sh n k u) ↔ F := ⟨fun z => z.elim id (fun ⟨u, h1, h2, _⟩ => absurd h2 (by omega)), Or.inl⟩
  rw [e]; exact h
theorem sr_add {sh : Int32} {n k m w : Nat} {x y : Int64} (hy : jb y w ↔ ∃ u, 1 ≤ u ∧ u < m ∧ jb x u ∧ w = wn N sh n k u ∧ ¬ sr_f N sh n k u) (hm : 1 ≤ m) (hb : jb x m) (hfa : ¬ sr_f N sh n k m) (hl : wn N sh n k m < 63) (hw : w < 64) : jb (y ||| ((1 : Int64) <<< ((nI (wn N sh n k m)).toInt64 &&& 63))) w ↔ ∃ u, 1 ≤ u ∧ u < m + 1 ∧ jb x u ∧ w = wn N sh n k u ∧ ¬ sr_f N sh n k u := by
  rw [jb_or, hy, jb_1 hl hw]
  constructor
  · rintro (⟨u, h1, h2, h3⟩ | e)
    · exact ⟨u, h1, by omega, h3⟩
    · exact ⟨m, hm, by omega, hb, e, hfa⟩
  · rintro ⟨u, h1, h2, h3, h4, h5⟩
    by_cases e : u = m
    · subst e; exact Or.inr h4
    · exact Or.inl ⟨u, h1, by omega, h3, h4, h5⟩
theorem q_Search_arrive {k n : Nat} {sh : Int32} {x : Int64} {F : Prop} (hR : hs_refs R) (ht : t = 4 ∨ t = 20) (hN : hs_Nx I t N) (hk : k < 8) (hx : ¬ jb x 63) (hx4 : ∀ w, 40 < w → w < 64 → ¬ jb x w) (hF : fg F (I 183 2)) : hn_F 4 hm_Search_arrive [.ref 183, .ref t, .int (nI k), .long x, .int (sh + nI n)] (I, J, R) (fun r D' => ∃ I2 y, D' = (I2, J, R) ∧ r = some (.long y) ∧ (∀ b, ¬ hs_q t b → I2 b = I b) ∧ fg (F ∨ ∃ u, 1 ≤ u ∧ u ≤ 40 ∧ jb x u ∧ sr_f N sh n k u) (I2 183 2) ∧ ∀ w, w < 64 → (jb y w ↔ ∃ u, 1 ≤ u ∧ u ≤ 40 ∧ jb x u ∧ w = wn N sh n k u ∧ ¬ sr_f N sh n k u)) := by
  have hNt := hs_Net_of hR ht
  obtain ⟨s0, s1, s2⟩ := hs_Se1 hR
  obtain ⟨tt5, tn0, tn1, tn2, tn3, tn4, tn5, tn6, tn7, tn8, tn9, tn10, ts1, ts2, ts3, ts4, ts5, ts7, ts8, tl0, tl2, tl6, tl7⟩ := id hNt
  refine hn_F_of _ hk_Search_arrive rfl (Nat.le_of_ble_eq_true rfl) ?_
  obtain ⟨P, hPd⟩ : ∃ P : Option Value → hnD → Prop, P = (fun r D' => ∃ I2 y, D' = (I2, J, R) ∧ r = some (.long y) ∧ (∀ b, ¬ hs_q t b → I2 b = I b) ∧ fg (F ∨ ∃ u, 1 ≤ u ∧ u ≤ 40 ∧ jb x u ∧ sr_f N sh n k u) (I2 183 2) ∧ ∀ w, w < 64 → (jb y w ↔ ∃ u, 1 ≤ u ∧ u ≤ 40 ∧ jb x u ∧ w = wn N sh n k u ∧ ¬ sr_f N sh n k u)) := ⟨_, rfl⟩
  rw [← hPd]
  have fin : ∀ I2 y (m : Nat), m ≤ 41 → (∀ u, m ≤ u → u ≤ 40 → ¬ jb x u) → (∀ b, ¬ hs_q t b → I2 b = I b) → fg (F ∨ ∃ u, 1 ≤ u ∧ u < m ∧ jb x u ∧ sr_f N sh n k u) (I2 183 2) → (∀ w, w < 64 → (jb y w ↔ ∃ u, 1 ≤ u ∧ u < m ∧ jb x u ∧ w = wn N sh n k u ∧ ¬ sr_f N sh n k u)) → P (some (.long y)) (I2, J, R) := by
    intro I2 y m hm hno hf hfl hy
    have hu : ∀ u, jb x u → u ≤ 40 → u < m := fun u hb h => Nat.lt_of_not_le (fun z => hno u z h hb)
    rw [hPd]
    refine ⟨I2, y, rfl, rfl, hf, ?_, fun w hw => ?_⟩
    · have e : (F ∨ ∃ u, 1 ≤ u ∧ u < m ∧ jb x u ∧ sr_f N sh n k u) ↔ (F ∨ ∃ u, 1 ≤ u ∧ u ≤ 40 ∧ jb x u ∧ sr_f N sh n k u) := by
        constructor
        · rintro (h | ⟨u, h1, h2, h3⟩)
          · exact Or.inl h
          · exact Or.inr ⟨u, h1, by omega, h3⟩
        · rintro (h | ⟨u, h1, h2, h3, h4⟩)
          · exact Or.inl h
          · exact Or.inr ⟨u, h1, hu u h3 h2, h3, h4⟩
      rw [← e]; exact hfl
    · rw [hy w hw]
      constructor
      · rintro ⟨u, h1, h2, h3⟩; exact ⟨u, h1, by omega, h3⟩
      · rintro ⟨u, h1, h2, h3, h4⟩; exact ⟨u, h1, hu u h3 h2, h3, h4⟩
  have lp : ∀ I2 y, (∀ b, ¬ hs_q t b → I2 b = I b) → fg (F ∨ ∃ u, 1 ≤ u ∧ u < 1 ∧ jb x u ∧ sr_f N sh n k u) (I2 183 2) → (∀ w, w < 64 → (jb y w ↔ ∃ u, 1 ≤ u ∧ u < 1 ∧ jb x u ∧ w = wn N sh n k u ∧ ¬ sr_f N sh n k u)) → hn_B 4 hm_Search_arrive P 6 [.ref 183, .ref t, .int (nI k), .long x, .null, .int (sh + nI n), .long y, .null, .int (nI 1), .null] [] (I2, J, R) := by
    refine sp_indk 1 41 (by omega) (fun m => ∀ I2 y, (∀ b, ¬ hs_q t b → I2 b = I b) → fg (F ∨ ∃ u, 1 ≤ u ∧ u < m ∧ jb x u ∧ sr_f N sh n k u) (I2 183 2) → (∀ w, w < 64 → (jb y w ↔ ∃ u, 1 ≤ u ∧ u < m ∧ jb x u ∧ w = wn N sh n k u ∧ ¬ sr_f N sh n k u)) → hn_B 4 hm_Search_arrive P 6 [.ref 183, .ref t, .int (nI k), .long x, .null, .int (sh + nI n), .long y, .null, .int (nI m), .null] [] (I2, J, R)) ?_ ?_
    · intro I2 y hf hfl hy
      refine b_iload rfl rfl ?_
      refine b_bipush rfl ?_
      refine b_icmp_gt rfl (fun c_10 => ?_) (fun c_10 => ?_)
      · refine b_lload rfl rfl ?_
        exact b_lreturn rfl trivial ((fin I2 y 41 (by omega) (fun u h1 h2 => absurd h2 (by omega)) hf hfl hy))
      · exact absurd (show (40 : Int32) < nI 41 by decide) c_10
    · intro m hm1 hm ih I2 y hf hfl hy
      have c10 : ¬ (40 : Int32) < nI m := fun z => by
        have := (hi_lt (show (40 : Int32).toInt = 40 from rfl) (nI_toInt (n := m) (by omega))).mp z
        omega
      by_cases hz : (x >>> ((nI m).toInt64 &&& 63)) = 0
      · have hno := (jb_none (by omega) hx).mp hz
        refine b_iload rfl rfl ?_
        refine b_bipush rfl ?_
        refine b_icmp_gt rfl (fun c_10 => ?_) (fun c_10 => ?_)
        · exact absurd c_10 c10
        · refine b_lload_n rfl rfl ?_
          refine b_iload rfl rfl ?_
          refine b_lshr rfl ?_
          refine b_lconst rfl ?_
          refine b_lcmp rfl ?_
          refine b_if_eq rfl (fun c_19 => ?_) (fun c_19 => ?_)
          · refine b_lload rfl rfl ?_
            exact b_lreturn rfl trivial ((fin I2 y m (by omega) (fun u h1 h2 => hno u h1 (by omega)) hf hfl hy))
          · exact absurd ((lg_cmp_eq _ _).mpr hz) c_19
      · have skip : ¬ jb x m → hn_B 4 hm_Search_arrive P 6 [.ref 183, .ref t, .int (nI k), .long x, .null, .int (sh + nI n), .long y, .null, .int (nI (m + 1)), .null] [] (I2, J, R) := by
          intro hb
          refine ih I2 y hf ?_ (fun w hw => ?_)
          · have e : (F ∨ ∃ u, 1 ≤ u ∧ u < m ∧ jb x u ∧ sr_f N sh n k u) ↔ (F ∨ ∃ u, 1 ≤ u ∧ u < m + 1 ∧ jb x u ∧ sr_f N sh n k u) := by
              constructor
              · rintro (h | ⟨u, h1, h2, h3⟩)
                · exact Or.inl h
                · exact Or.inr ⟨u, h1, by omega, h3⟩
              · rintro (h | ⟨u, h1, h2, h3, h4⟩)
                · exact Or.inl h
                · exact Or.inr ⟨u, h1, by have : u ≠ m := fun e => hb (e ▸ h3); omega, h3, h4⟩
            rw [← e]; exact hfl
          · rw [hy w hw]
            constructor
            · rintro ⟨u, h1, h2, h3⟩; exact ⟨u, h1, by omega, h3⟩
            · rintro ⟨u, h1, h2, h3, h4⟩; exact ⟨u, h1, by have : u ≠ m := fun e => hb (e ▸ h3); omega, h3, h4⟩
        by_cases hb : jb x m
        · have hN2 := hs_Nx_q hN ht hf
          obtain ⟨n0, n8, n4, nk, nh, na, hc, ncd⟩ := hN2
          obtain ⟨we, wl⟩ := wn_of (N := N) (sh := sh) (n := n) (k := k) (show m ≤ 40 by omega)
          by_cases hfa : sr_f N sh n k m
          · refine b_iload rfl rfl ?_
            refine b_bipush rfl ?_
            refine b_icmp_gt rfl (fun c_10 => ?_) (fun c_10 => ?_)
            · exact absurd c_10 c10
            · refine b_lload_n rfl rfl ?_
              refine b_iload rfl rfl ?_
              refine b_lshr rfl ?_
              refine b_lconst rfl ?_
              refine b_lcmp rfl ?_
              refine b_if_eq rfl (fun c_19 => ?_) (fun c_19 => ?_)
              · exact absurd ((lg_cmp_eq _ _).mp c_19) hz
              · refine b_lload_n rfl rfl ?_
                refine b_iload rfl rfl ?_
                refine b_lshr rfl ?_
                refine b_lconst rfl ?_
                refine b_land rfl ?_
                refine b_lconst rfl ?_
                refine b_lcmp rfl ?_
                refine b_if_ne rfl (fun c_30 => ?_) (fun c_30 => ?_)
                · refine b_aload_n rfl rfl ?_
                  refine b_iload_n rfl rfl ?_
                  refine b_iload rfl rfl ?_
                  refine b_iload rfl rfl ?_
                  refine b_iconst rfl ?_
                  refine b_iconst rfl ?_
                  refine b_callV rfl rfl hk_Net_willAt rfl rfl rfl (by first | rfl | assumption) rfl (Nat.le_of_ble_eq_true rfl) (q_Net_willAt hNt hc hk) (Nat.le_of_ble_eq_true rfl) (fun r_44 D_44 q_44 => ?_)
                  obtain ⟨hf9, hq9⟩ := q_44
                  obtain ⟨I3, rfl, hI3⟩ := hf9.out
                  rw [nk, nh, show hs_lf I2 t (nS N) = nF N by unfold hs_lf; rw [ncd]] at hq9
                  subst hq9
                  have e3k : I3 (t + 2) = nK N := by rw [hI3 _ (by omega)]; exact nk
                  have e3h : I3 (t + 3) = nH N := by rw [hI3 _ (by omega)]; exact nh
                  refine b_istore rfl (Nat.le_of_ble_eq_true rfl) ?_
                  refine b_aload_n rfl rfl ?_
                  refine b_iload_n rfl rfl ?_
                  refine b_iload rfl rfl ?_
                  refine b_iconst rfl ?_
                  refine b_callV rfl rfl hk_Net_letsThrough rfl rfl rfl (by first | rfl | assumption) rfl (Nat.le_of_ble_eq_true rfl) (q_Net_letsThrough hNt hk) (Nat.le_of_ble_eq_true rfl) (fun r_54 D_54 q_54 => ?_)
                  obtain ⟨rfl, hq9⟩ := q_54
                  rw [e3k, e3h, if_pos hfa] at hq9
                  subst hq9
                  refine b_if_eq rfl (fun c_57 => ?_) (fun c_57 => ?_)
                  · exact absurd c_57 (by decide)
                  · refine b_aload_n rfl rfl ?_
                    refine b_iconst rfl ?_
                    refine b_putI rfl (by first | rfl | assumption) rfl rfl ⟨rfl, rfl⟩ ?_
                    refine b_goto rfl ?_
                    refine b_iinc rfl rfl (Nat.le_of_ble_eq_true rfl) ?_
                    refine b_goto rfl ?_
                    exact b_lp (ih (hn_u I3 183 2 1) y (fun b hb9 => by rw [hn_u_ne _ _ _ (fun e => hb9 (Or.inl e)), hI3 b (fun e => hb9 (Or.inr e))]; exact hf b hb9) (Or.inl ⟨Or.inr ⟨m, hm1, by omega, hb, hfa⟩, by rw [hn_u_eq, va_up, if_pos rfl]⟩) (fun w hw => by rw [hy w hw]; exact sr_skip hfa)) (le_e (le_e (le_e (le_e (le_n (le_e (le_e (le_n (le_q (by rw [nI_succ]) (le_n le_0)))))))))) rfl rfl
                · exact absurd ((lg_cmp_eq _ _).mp c_30) ((jb_bit (by omega)).mpr hb)
          · refine b_iload rfl rfl ?_
            refine b_bipush rfl ?_
            refine b_icmp_gt rfl (fun c_10 => ?_) (fun c_10 => ?_)
            · exact absurd c_10 c10
            · refine b_lload_n rfl rfl ?_
              refine b_iload rfl rfl ?_
              refine b_lshr rfl ?_
              refine b_lconst rfl ?_
              refine b_lcmp rfl ?_
              refine b_if_eq rfl (fun c_19 => ?_) (fun c_19 => ?_)
              · exact absurd ((lg_cmp_eq _ _).mp c_19) hz
              · refine b_lload_n rfl rfl ?_
                refine b_iload rfl rfl ?_
                refine b_lshr rfl ?_
                refine b_lconst rfl ?_
                refine b_land rfl ?_
                refine b_lconst rfl ?_
                refine b_lcmp rfl ?_
                refine b_if_ne rfl (fun c_30 => ?_) (fun c_30 => ?_)
                · refine b_aload_n rfl rfl ?_
                  refine b_iload_n rfl rfl ?_
                  refine b_iload rfl rfl ?_
                  refine b_iload rfl rfl ?_
                  refine b_iconst rfl ?_
                  refine b_iconst rfl ?_
                  refine b_callV rfl rfl hk_Net_willAt rfl rfl rfl (by first | rfl | assumption) rfl (Nat.le_of_ble_eq_true rfl) (q_Net_willAt hNt hc hk) (Nat.le_of_ble_eq_true rfl) (fun r_44 D_44 q_44 => ?_)
                  obtain ⟨hf9, hq9⟩ := q_44
                  obtain ⟨I3, rfl, hI3⟩ := hf9.out
                  rw [nk, nh, show hs_lf I2 t (nS N) = nF N by unfold hs_lf; rw [ncd]] at hq9
                  subst hq9
                  have e3k : I3 (t + 2) = nK N := by rw [hI3 _ (by omega)]; exact nk
                  have e3h : I3 (t + 3) = nH N := by rw [hI3 _ (by omega)]; exact nh
                  refine b_istore rfl (Nat.le_of_ble_eq_true rfl) ?_
                  refine b_aload_n rfl rfl ?_
                  refine b_iload_n rfl rfl ?_
                  refine b_iload rfl rfl ?_
                  refine b_iconst rfl ?_
                  refine b_callV rfl rfl hk_Net_letsThrough rfl rfl rfl (by first | rfl | assumption) rfl (Nat.le_of_ble_eq_true rfl) (q_Net_letsThrough hNt hk) (Nat.le_of_ble_eq_true rfl) (fun r_54 D_54 q_54 => ?_)
                  obtain ⟨rfl, hq9⟩ := q_54
                  rw [e3k, e3h, if_neg hfa] at hq9
                  subst hq9
                  refine b_if_eq rfl (fun c_57 => ?_) (fun c_57 => ?_)
                  · refine b_lload rfl rfl ?_
                    refine b_lconst rfl ?_
                    refine b_iload rfl rfl ?_
                    rw [show sp_will (nK N) (nH N) (nF N) 0 k (nI m) (sh + nI n) 0 = nI (wn N sh n k m) from we]
                    refine b_lshl rfl ?_
                    refine b_lor rfl ?_
                    refine b_lstore rfl (Nat.le_of_ble_eq_true rfl) ?_
                    refine b_iinc rfl rfl (Nat.le_of_ble_eq_true rfl) ?_
                    refine b_goto rfl ?_
                    exact b_lp (ih I3 (y ||| ((1 : Int64) <<< ((nI (wn N sh n k m)).toInt64 &&& 63))) (fun b hb9 => by rw [hI3 b (fun e => hb9 (Or.inr e))]; exact hf b hb9) (sr_fall hfl hfa (by rw [hI3 183 (by omega)])) (fun w hw => sr_add (hy w hw) hm1 hb hfa (by omega) hw)) (le_e (le_e (le_e (le_e (le_n (le_e (le_e (le_n (le_q (by rw [nI_succ]) (le_n le_0)))))))))) rfl rfl
                  · exact absurd rfl c_57
                · exact absurd ((lg_cmp_eq _ _).mp c_30) ((jb_bit (by omega)).mpr hb)
        · refine b_iload rfl rfl ?_
          refine b_bipush rfl ?_
          refine b_icmp_gt rfl (fun c_10 => ?_) (fun c_10 => ?_)
          · exact absurd c_10 c10
          · refine b_lload_n rfl rfl ?_
            refine b_iload rfl rfl ?_
            refine b_lshr rfl ?_
            refine b_lconst rfl ?_
            refine b_lcmp rfl ?_
            refine b_if_eq rfl (fun c_19 => ?_) (fun c_19 => ?_)
            · exact absurd ((lg_cmp_eq _ _).mp c_19) hz
            · refine b_lload_n rfl rfl ?_
              refine b_iload rfl rfl ?_
              refine b_lshr rfl ?_
              refine b_lconst rfl ?_
              refine b_land rfl ?_
              refine b_lconst rfl ?_
              refine b_lcmp rfl ?_
              refine b_if_ne rfl (fun c_30 => ?_) (fun c_30 => ?_)
              · exact absurd ((lg_cmp_eq _ _).mpr (Classical.byContradiction (fun z => hb ((jb_bit (by omega)).mp z)))) c_30
              · refine b_goto rfl ?_
                refine b_iinc rfl rfl (Nat.le_of_ble_eq_true rfl) ?_
                refine b_goto rfl ?_
                exact b_lp (skip hb) (le_e (le_e (le_e (le_e (le_n (le_e (le_e (le_n (le_q (by rw [nI_succ]) (le_n le_0)))))))))) rfl rfl
  refine b_lconst rfl ?_
  refine b_lstore rfl (Nat.le_of_ble_eq_true rfl) ?_
  refine b_iconst rfl ?_
  refine b_istore rfl (Nat.le_of_ble_eq_true rfl) ?_
  exact b_lp (lp I 0 (fun _ _ => rfl) (sr_start hF) (fun w hw => ⟨fun z => absurd z jb_0, fun ⟨u, h1, h2, _⟩ => absurd h2 (by omega)⟩)) (le_e (le_e (le_e (le_e (le_n (le_e (le_e (le_n (le_q (by rfl) (le_n le_0)))))))))) rfl rfl
end HNsearch
