/-! an abstract machine over the kit's rows: cells by numbers in the order of their making; ints, longs and references in three tables -/
section HNcore
/-- a row of a method: place, instruction, length, next place, target or word's place, constant, class or name, slot or count -/
abbrev hnR : Type := Instr × Nat × Nat × Nat × Value × Nat × Nat
abbrev hnI : Type := List (Nat × hnR)
/-- a method: name, bytes, locals, answer; count of arguments, kind (0 static, 1 virtual, 2 <init>), places of its words, rows -/
abbrev hnM : Type := MethodName × ByteArray × Nat × Option FieldType × Nat × Nat × List Nat × hnI
abbrev hnD : Type := (Nat → Nat → Int32) × (Nat → Nat → Int64) × (Nat → Nat → Option Nat)
abbrev hn_y (M : hnM) : MethodName := M.1
abbrev hn_b (M : hnM) : ByteArray := M.2.1
abbrev hn_mx (M : hnM) : Nat := M.2.2.1
abbrev hn_ret (M : hnM) : Option FieldType := M.2.2.2.1
abbrev hn_na (M : hnM) : Nat := M.2.2.2.2.1
abbrev hn_kd (M : hnM) : Nat := M.2.2.2.2.2.1
abbrev hn_pl (M : hnM) : List Nat := M.2.2.2.2.2.2.1
abbrev hn_rows (M : hnM) : hnI := M.2.2.2.2.2.2.2
def hn_lk : hnI → Nat → Option hnR
  | [], _ => none
  | r :: t, q => match Nat.beq r.1 q with
    | true => some r.2
    | false => hn_lk t q
def hn_T : List Cond := lw_tbl.filter goodWord
def hn_at (w : Cond) (i : Nat) : Bool := decide (lw_tbl[i]? = some w) && goodWord w
theorem hn_at_in {w : Cond} {i : Nat} (h : hn_at w i = true) : w ∈ hn_T := by
  simp only [hn_at, Bool.and_eq_true, decide_eq_true_eq] at h
  exact List.mem_filter.mpr ⟨List.mem_of_getElem? h.1, h.2⟩
/-- two-place update: cell a, slot k -/
def hn_u {α : Type} (f : Nat → Nat → α) (a k : Nat) (v : α) : Nat → Nat → α := fun b => if b = a then va_up (f a) k v else f b
/-- a cell's row anew -/
def hn_ur {α : Type} (f : Nat → Nat → α) (a : Nat) (r : Nat → α) : Nat → Nat → α := fun b => if b = a then r else f b
theorem hn_u_eq {α : Type} (f : Nat → Nat → α) (a k : Nat) (v : α) : hn_u f a k v a = va_up (f a) k v := by simp [hn_u]
theorem hn_u_ne {α : Type} (f : Nat → Nat → α) {a b : Nat} (k : Nat) (v : α) (h : b ≠ a) : hn_u f a k v b = f b := by simp [hn_u, h]
theorem hn_ur_eq {α : Type} (f : Nat → Nat → α) (a : Nat) (r : Nat → α) : hn_ur f a r a = r := by simp [hn_ur]
theorem hn_ur_ne {α : Type} (f : Nat → Nat → α) {a b : Nat} (r : Nat → α) (h : b ≠ a) : hn_ur f a r b = f b := by simp [hn_ur, h]
/-- a value with its number of a cell as an address -/
def hn_v (ad : Nat → Nat) : Value → Value
  | .ref a => .ref (ad a)
  | v => v
theorem hn_v_cat (ad : Nat → Nat) (v : Value) : (hn_v ad v).category = v.category := by cases v <;> rfl
theorem hn_v_null (ad : Nat → Nat) {v : Value} (h : hn_v ad v = .null) : v = .null := by cases v <;> first | rfl | cases h
/-- a field by its tag: 0 int, 1 long, else a reference -/
def hn_f1 (ad : Nat → Nat) (D : hnD) (a k : Nat) : Nat → Value
  | 0 => .int (D.1 a k)
  | 1 => .long (D.2.1 a k)
  | _ => va_rf ((D.2.2 a k).map ad)
def hn_fs (ad : Nat → Nat) (D : hnD) (a : Nat) : List Nat → Nat → List Value
  | [], _ => []
  | t :: ts, k => hn_f1 ad D a k t :: hn_fs ad D a ts (k + 1)
theorem hn_fs_len (ad : Nat → Nat) (D : hnD) (a : Nat) : ∀ (ts : List Nat) (k : Nat), (hn_fs ad D a ts k).length = ts.length
  | [], _ => rfl
  | t :: ts, k => by simp [hn_fs, hn_fs_len ad D a ts (k + 1)]
theorem hn_fs_get (ad : Nat → Nat) (D : hnD) (a : Nat) : ∀ (ts : List Nat) (k j : Nat) (t : Nat), ts[j]? = some t → (hn_fs ad D a ts k)[j]? = some (hn_f1 ad D a (k + j) t)
  | [], k, j, t, h => by simp at h
  | u :: ts, k, 0, t, h => by
    simp only [List.getElem?_cons_zero, Option.some.injEq] at h
    subst h
    rfl
  | u :: ts, k, j + 1, t, h => by
    rw [List.getElem?_cons_succ] at h
    simp only [hn_fs, List.getElem?_cons_succ]
    rw [hn_fs_get ad D a ts (k + 1) j t h, Nat.add_assoc, Nat.add_comm 1 j]
theorem hn_fs_set (ad : Nat → Nat) (D D' : hnD) (a q : Nat) (v : Value) : ∀ (ts : List Nat) (k j : Nat), q = k + j → (∀ i t, i ≠ q → hn_f1 ad D' a i t = hn_f1 ad D a i t) → (∀ t, ts[j]? = some t → hn_f1 ad D' a q t = v) → j < ts.length → (hn_fs ad D a ts k).set j v = hn_fs ad D' a ts k
  | [], k, j, _, _, _, h => by simp at h
  | u :: ts, k, 0, hq, hne, hv, _ => by
    have e : ∀ (ts : List Nat) (k : Nat), q < k → hn_fs ad D a ts k = hn_fs ad D' a ts k := by
      intro ts
      induction ts with
      | nil => intro k _; rfl
      | cons t ts ih => intro k hk; simp only [hn_fs]; rw [hne k t (by omega), ih (k + 1) (by omega)]
    simp only [hn_fs, List.set_cons_zero]
    rw [e ts (k + 1) (by omega)]
    have h1 := hv u rfl
    have h2 : q = k := by omega
    rw [← h1, h2]
  | u :: ts, k, j + 1, hq, hne, hv, hl => by
    simp only [hn_fs, List.set_cons_succ]
    rw [hn_fs_set ad D D' a q v ts (k + 1) j (by omega) hne (fun t ht => hv t (by rw [List.getElem?_cons_succ]; exact ht)) (by simpa using hl), hne k u (by omega)]
end HNcore
