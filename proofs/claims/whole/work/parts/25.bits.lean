section HNbits
theorem hi_b1 (y : Int32) : ¬ y &&& 1 = 0 ↔ y.toBitVec.getLsbD 0 = true := by
  have h : (y &&& 1).toBitVec = BitVec.setWidth 32 (BitVec.ofBool (y.toBitVec.getLsbD 0)) := by
    rw [Int32.toBitVec_and]
    exact BitVec.and_one_eq_setWidth_ofBool_getLsbD
  cases hb : y.toBitVec.getLsbD 0 with
  | false =>
    rw [hb] at h
    exact ⟨fun z => absurd (Int32.toBitVec_inj.mp (h.trans rfl)) z, fun z => by cases z⟩
  | true =>
    rw [hb] at h
    exact ⟨fun _ => rfl, fun _ z => by rw [z] at h; exact absurd h (by decide)⟩
theorem sp_bit_iff {x : Int32} {k : Nat} (hk : k < 31) : sp_bit x k ↔ x.toBitVec.getLsbD k = true := by
  have key : ∀ k : Fin 31, ((nI k &&& 31).toBitVec.smod 32).toNat = k := by decide +kernel
  unfold sp_bit
  rw [hi_b1, Int32.toBitVec_shiftRight, BitVec.sshiftRight_eq', key ⟨k, hk⟩, BitVec.getLsbD_sshiftRight]
  have h1 : k + 0 < 32 := by omega
  rw [if_pos h1]
  simp
theorem sp_bit_or {a b : Int32} {k : Nat} (hk : k < 31) : sp_bit (a ||| b) k ↔ sp_bit a k ∨ sp_bit b k := by
  rw [sp_bit_iff hk, sp_bit_iff hk, sp_bit_iff hk, Int32.toBitVec_or, BitVec.getLsbD_or, Bool.or_eq_true]
theorem sp_bit_and {a b : Int32} {k : Nat} (hk : k < 31) : sp_bit (a &&& b) k ↔ sp_bit a k ∧ sp_bit b k := by
  rw [sp_bit_iff hk, sp_bit_iff hk, sp_bit_iff hk, Int32.toBitVec_and, BitVec.getLsbD_and, Bool.and_eq_true]
theorem sp_bit_not {a : Int32} {k : Nat} (hk : k < 31) : sp_bit (a ^^^ -1) k ↔ ¬ sp_bit a k := by
  have h1 : ∀ k : Fin 31, (-1 : Int32).toBitVec.getLsbD k = true := by decide +kernel
  rw [sp_bit_iff hk, sp_bit_iff hk, Int32.toBitVec_xor, BitVec.getLsbD_xor, h1 ⟨k, hk⟩]
  cases a.toBitVec.getLsbD k <;> simp
theorem sp_bit_0 {k : Nat} (hk : k < 31) : ¬ sp_bit 0 k := by
  have h : ∀ k : Fin 31, ¬ sp_bit 0 k := by decide +kernel
  exact h ⟨k, hk⟩
theorem sp_bit_1 {j k : Nat} (hj : j < 31) (hk : k < 31) : sp_bit ((1 : Int32) <<< (nI j &&& 31)) k ↔ k = j := by
  have h : ∀ j k : Fin 31, sp_bit ((1 : Int32) <<< (nI j &&& 31)) k ↔ k.val = j.val := by decide +kernel
  exact h ⟨j, hj⟩ ⟨k, hk⟩
theorem nI_or (a b : Nat) : nI a ||| nI b = nI (a ||| b) := by
  rw [← Int32.toBitVec_inj, Int32.toBitVec_or]
  simp [nI, Int32.toBitVec_ofNat', BitVec.ofNat_or]
theorem nI_and (a b : Nat) : nI a &&& nI b = nI (a &&& b) := by
  rw [← Int32.toBitVec_inj, Int32.toBitVec_and]
  simp [nI, Int32.toBitVec_ofNat', BitVec.ofNat_and]
/-- one of the first 2 ^ n numbers -/
abbrev sp_lt (n : Nat) (x : Int32) : Prop := ∃ i : Nat, i < 2 ^ n ∧ x = nI i
theorem sp_lt_0 {n : Nat} : sp_lt n 0 := ⟨0, Nat.two_pow_pos n, rfl⟩
theorem sp_lt_or {n : Nat} {a b : Int32} (ha : sp_lt n a) (hb : sp_lt n b) : sp_lt n (a ||| b) := by
  obtain ⟨i, hi, rfl⟩ := ha
  obtain ⟨j, hj, rfl⟩ := hb
  exact ⟨i ||| j, Nat.or_lt_two_pow hi hj, nI_or i j⟩
theorem sp_lt_and {n : Nat} {a b : Int32} (ha : sp_lt n a) (hb : sp_lt 31 b) : sp_lt n (a &&& b) := by
  obtain ⟨i, hi, rfl⟩ := ha
  obtain ⟨j, hj, rfl⟩ := hb
  exact ⟨i &&& j, Nat.lt_of_le_of_lt Nat.and_le_left hi, nI_and i j⟩
theorem sp_lt_mono {n m : Nat} {a : Int32} (h : n ≤ m) (ha : sp_lt n a) : sp_lt m a := by
  obtain ⟨i, hi, rfl⟩ := ha
  exact ⟨i, Nat.lt_of_lt_of_le hi (Nat.pow_le_pow_right (by omega) h), rfl⟩
theorem nI_shl {k : Nat} (hk : k < 31) : (1 : Int32) <<< (nI k &&& 31) = nI (2 ^ k) := by
  have h : ∀ k : Fin 31, (1 : Int32) <<< (nI k &&& 31) = nI (2 ^ k.val) := by decide +kernel
  exact h ⟨k, hk⟩
theorem sp_lt_shl {n k : Nat} (hk : k < n) (hn : n ≤ 31) : sp_lt n ((1 : Int32) <<< (nI k &&& 31)) := ⟨2 ^ k, Nat.pow_lt_pow_right (by omega) hk, nI_shl (by omega)⟩
theorem nI_all {n : Nat} (hn : n ≤ 8) : ((1 : Int32) <<< (nI n &&& 31)) - 1 = nI (2 ^ n - 1) := by
  have h : ∀ n : Fin 9, ((1 : Int32) <<< (nI n &&& 31)) - 1 = nI (2 ^ n.val - 1) := by decide +kernel
  exact h ⟨n, by omega⟩
theorem sp_bit_all {n k : Nat} (hn : n ≤ 8) (hk : k < 31) : sp_bit (((1 : Int32) <<< (nI n &&& 31)) - 1) k ↔ k < n := by
  have h : ∀ n : Fin 9, ∀ k : Fin 31, sp_bit (((1 : Int32) <<< (nI n &&& 31)) - 1) k ↔ k.val < n.val := by decide +kernel
  exact h ⟨n, by omega⟩ ⟨k, hk⟩
theorem sp_bit_lt {n k : Nat} {x : Int32} (hx : sp_lt n x) (hn : n ≤ k) (hk : k < 31) : ¬ sp_bit x k := by
  obtain ⟨i, hi, rfl⟩ := hx
  have h2 : i < 2 ^ k := Nat.lt_of_lt_of_le hi (Nat.pow_le_pow_right (by omega) hn)
  rw [sp_bit_iff hk]
  simp [nI, Int32.toBitVec_ofNat', BitVec.getLsbD_ofNat, Nat.testBit_lt_two_pow h2]
theorem sp_ext {n : Nat} {x y : Int32} (hx : sp_lt n x) (hy : sp_lt n y) (hn : n ≤ 31) (h : ∀ k, k < n → (sp_bit x k ↔ sp_bit y k)) : x = y := by
  obtain ⟨i, hi, rfl⟩ := hx
  obtain ⟨j, hj, rfl⟩ := hy
  congr 1
  refine Nat.eq_of_testBit_eq (fun k => ?_)
  by_cases hk : k < n
  · have hh := h k hk
    rw [sp_bit_iff (by omega), sp_bit_iff (by omega)] at hh
    simp only [nI, Int32.toBitVec_ofNat', BitVec.getLsbD_ofNat, show k < 32 by omega, decide_true, Bool.true_and] at hh
    exact Bool.eq_iff_iff.mpr hh
  · have a1 : i < 2 ^ k := Nat.lt_of_lt_of_le hi (Nat.pow_le_pow_right (by omega) (by omega))
    have a2 : j < 2 ^ k := Nat.lt_of_lt_of_le hj (Nat.pow_le_pow_right (by omega) (by omega))
    rw [Nat.testBit_lt_two_pow a1, Nat.testBit_lt_two_pow a2]
theorem sp_zero {n : Nat} {x : Int32} (hx : sp_lt n x) (hn : n ≤ 31) : x = 0 ↔ ∀ k, k < n → ¬ sp_bit x k := by
  constructor
  · rintro rfl k hk
    exact sp_bit_0 (by omega)
  · intro h
    exact sp_ext hx sp_lt_0 hn (fun k hk => ⟨fun z => absurd z (h k hk), fun z => absurd z (sp_bit_0 (by omega))⟩)
/-- the set of those below n that c tells -/
def sp_set (c : Nat → Prop) [DecidablePred c] (n : Nat) : Int32 := sp_up (fun k s => if c k then s ||| ((1 : Int32) <<< (nI k &&& 31)) else s) 0 n
theorem sp_set_lt (c : Nat → Prop) [DecidablePred c] : ∀ (n m : Nat), n ≤ m → m ≤ 31 → sp_lt m (sp_set c n)
  | 0, m, _, _ => sp_lt_0
  | n + 1, m, h, hm => by
    have ih := sp_set_lt c n m (by omega) hm
    show sp_lt m (if c n then sp_set c n ||| ((1 : Int32) <<< (nI n &&& 31)) else sp_set c n)
    by_cases hc : c n
    · rw [if_pos hc]; exact sp_lt_or ih (sp_lt_shl (by omega) hm)
    · rw [if_neg hc]; exact ih
theorem sp_set_bit (c : Nat → Prop) [DecidablePred c] {k : Nat} (hk : k < 31) : ∀ n : Nat, n ≤ 31 → (sp_bit (sp_set c n) k ↔ k < n ∧ c k)
  | 0, _ => ⟨fun z => absurd z (sp_bit_0 hk), fun z => absurd z.1 (Nat.not_lt_zero k)⟩
  | n + 1, hn => by
    have ih := sp_set_bit c hk n (by omega)
    show sp_bit (if c n then sp_set c n ||| ((1 : Int32) <<< (nI n &&& 31)) else sp_set c n) k ↔ _
    by_cases hc : c n
    · rw [if_pos hc, sp_bit_or hk, sp_bit_1 (by omega) hk, ih]
      constructor
      · rintro (⟨h1, h2⟩ | rfl)
        · exact ⟨by omega, h2⟩
        · exact ⟨by omega, hc⟩
      · rintro ⟨h1, h2⟩
        rcases (show k < n ∨ k = n by omega) with h | h
        · exact Or.inl ⟨h, h2⟩
        · exact Or.inr h
    · rw [if_neg hc, ih]
      constructor
      · rintro ⟨h1, h2⟩; exact ⟨by omega, h2⟩
      · rintro ⟨h1, h2⟩
        refine ⟨?_, h2⟩
        rcases (show k < n ∨ k = n by omega) with h | h
        · exact h
        · rw [h] at h2; exact absurd h2 hc
theorem sp_set_congr {c e : Nat → Prop} [DecidablePred c] [DecidablePred e] {n : Nat} (h : ∀ k, k < n → (c k ↔ e k)) : sp_set c n = sp_set e n := by
  refine sp_up_congr (fun k s hk => ?_)
  by_cases hc : c k
  · rw [if_pos hc, if_pos ((h k hk).mp hc)]
  · rw [if_neg hc, if_neg (fun z => hc ((h k hk).mpr z))]
/-! strings from a set -/
theorem sp_union_bit (s : Nat → Int32) (m : Int32) {j : Nat} (hj : j < 31) : ∀ n, sp_bit (sp_union s m n) j ↔ ∃ k, k < n ∧ sp_bit m k ∧ sp_bit (s k) j
  | 0 => ⟨fun z => absurd z (sp_bit_0 hj), fun ⟨k, hk, _⟩ => absurd hk (Nat.not_lt_zero k)⟩
  | n + 1 => by
    have ih := sp_union_bit s m hj n
    show sp_bit (if sp_bit m n then sp_union s m n ||| s n else sp_union s m n) j ↔ _
    by_cases hc : sp_bit m n
    · rw [if_pos hc, sp_bit_or hj, ih]
      constructor
      · rintro (⟨k, hk, h1, h2⟩ | h)
        · exact ⟨k, by omega, h1, h2⟩
        · exact ⟨n, by omega, hc, h⟩
      · rintro ⟨k, hk, h1, h2⟩
        rcases (show k < n ∨ k = n by omega) with h | h
        · exact Or.inl ⟨k, h, h1, h2⟩
        · rw [h] at h2; exact Or.inr h2
    · rw [if_neg hc, ih]
      constructor
      · rintro ⟨k, hk, h1, h2⟩; exact ⟨k, by omega, h1, h2⟩
      · rintro ⟨k, hk, h1, h2⟩
        rcases (show k < n ∨ k = n by omega) with h | h
        · exact ⟨k, h, h1, h2⟩
        · rw [h] at h1; exact absurd h1 hc
theorem sp_union_n (s : Nat → Int32) (m : Int32) {n : Nat} (h : ∀ k, n ≤ k → s k = 0) : ∀ j, sp_union s m (n + j) = sp_union s m n
  | 0 => rfl
  | j + 1 => by
    have ih := sp_union_n s m h j
    show (if sp_bit m (n + j) then sp_union s m (n + j) ||| s (n + j) else sp_union s m (n + j)) = _
    rw [h (n + j) (by omega), ih]
    by_cases hc : sp_bit m (n + j)
    · rw [if_pos hc, Int32.or_zero]
    · rw [if_neg hc]
theorem sp_union_8 {s : Nat → Int32} {m : Int32} {n : Nat} (h : ∀ k, n ≤ k → s k = 0) (hn : n ≤ 8) : sp_union s m 8 = sp_union s m n := by
  have := sp_union_n s m h (8 - n)
  rw [show n + (8 - n) = 8 by omega] at this
  exact this
theorem sp_union_lt {s : Nat → Int32} {m : Int32} {q : Nat} (h : ∀ k, sp_lt q (s k)) : ∀ n, sp_lt q (sp_union s m n)
  | 0 => sp_lt_0
  | n + 1 => by
    have ih := sp_union_lt (m := m) h n
    show sp_lt q (if sp_bit m n then sp_union s m n ||| s n else sp_union s m n)
    by_cases hc : sp_bit m n
    · rw [if_pos hc]; exact sp_lt_or ih (h n)
    · rw [if_neg hc]; exact ih
end HNbits
