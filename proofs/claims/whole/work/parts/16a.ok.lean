/-! ===== level 2: total steps of plain functions ===== -/
def Ok {α : Type} (x : Option α) (P : α → Prop) : Prop := ∃ a, x = some a ∧ P a
theorem Ok.some {α : Type} {a : α} {P : α → Prop} (h : P a) : Ok (some a) P := ⟨a, rfl, h⟩
theorem Ok.eq {α : Type} {x : Option α} {a : α} {P : α → Prop} (e : x = Option.some a) (h : P a) : Ok x P := ⟨a, e, h⟩
theorem Ok.bind {α β : Type} {x : Option α} {f : α → Option β} {P : β → Prop} (h : Ok x (fun a => Ok (f a) P)) : Ok (x.bind f) P := by
  obtain ⟨a, rfl, b, hb, hp⟩ := h
  exact ⟨b, hb, hp⟩
theorem Ok.gd {α : Type} {c : Prop} [Decidable c] {x : Option α} {P : α → Prop} (hc : c) (h : Ok x P) : Ok (gd c x) P := by rw [gd_pos hc]; exact h
theorem Ok.lt {α β : Type} {v : α} {f : α → Option β} {P : β → Prop} (h : Ok (f v) P) : Ok (lt v f) P := h
theorem Ok.imp {α : Type} {x : Option α} {P Q : α → Prop} (h : Ok x P) (hq : ∀ a, P a → Q a) : Ok x Q := by
  obtain ⟨a, e, hp⟩ := h
  exact ⟨a, e, hq a hp⟩
theorem Ok.then {α β : Type} {x : Option α} {f : α → Option β} {P : α → Prop} {Q : β → Prop} (h : Ok x P) (hq : ∀ a, P a → Ok (f a) Q) : Ok (x.bind f) Q := Ok.bind (h.imp hq)
theorem Ok.ite {α : Type} {c : Prop} [Decidable c] {x y : Option α} {P : α → Prop} (h1 : c → Ok x P) (h2 : ¬ c → Ok y P) : Ok (if c then x else y) P := by
  by_cases hc : c
  · rw [if_pos hc]; exact h1 hc
  · rw [if_neg hc]; exact h2 hc
theorem Ok.get {α : Type} {x : Option α} {P : α → Prop} (h : Ok x P) : ∃ a, x = Option.some a ∧ P a := h
/-- a loop that counts up to n: what holds at each place, what holds at its end -/
theorem loop_to {S R : Type} {body : S → Option (S ⊕ R)} {Q : R → Prop} (n : Nat) (I : Nat → S → Prop) (hs : ∀ i s, i < n → I i s → Ok (body s) (Sum.elim (I (i + 1)) Q)) (he : ∀ s, I n s → Ok (body s) (Sum.elim (fun _ => False) Q)) : ∀ (fuel a : Nat) (s : S), a ≤ n → n - a < fuel → I a s → Ok (loopN body fuel s) Q
  | 0, a, s => fun _ h _ => absurd h (by omega)
  | fuel + 1, a, s => fun h1 h2 h3 => by
    by_cases ha : a = n
    · subst ha
      obtain ⟨o, e, ho⟩ := he s h3
      unfold loopN
      rw [e]
      match o, ho with
      | .inr r, ho => exact ⟨r, rfl, ho⟩
    · obtain ⟨o, e, ho⟩ := hs a s (by omega) h3
      unfold loopN
      rw [e]
      match o, ho with
      | .inl s2, ho => exact loop_to n I hs he fuel (a + 1) s2 (by omega) (by omega) ho
      | .inr r, ho => exact ⟨r, rfl, ho⟩
/-- a loop with a measure -/
theorem loop_ok {S R : Type} {body : S → Option (S ⊕ R)} {Q : R → Prop} (m : S → Nat) (I : S → Prop) (hs : ∀ s, I s → Ok (body s) (Sum.elim (fun s2 => I s2 ∧ m s2 < m s) Q)) : ∀ (fuel : Nat) (s : S), m s < fuel → I s → Ok (loopN body fuel s) Q
  | 0, s => fun h _ => absurd h (by omega)
  | fuel + 1, s => fun h1 h3 => by
    obtain ⟨o, e, ho⟩ := hs s h3
    unfold loopN
    rw [e]
    match o, ho with
    | .inl s2, ho => exact loop_ok m I hs fuel s2 (by have := ho.2; omega) ho.1
    | .inr r, ho => exact ⟨r, rfl, ho⟩
theorem loop_FU {S R : Type} {body : S → Option (S ⊕ R)} {Q : R → Prop} {s : S} (n : Nat) (I : Nat → S → Prop) (a : Nat) (h0 : I a s) (ha : a ≤ n) (hn : n < 100000000) (hs : ∀ i s, i < n → I i s → Ok (body s) (Sum.elim (I (i + 1)) Q)) (he : ∀ s, I n s → Ok (body s) (Sum.elim (fun _ => False) Q)) : Ok (loopN body FU s) Q :=
  loop_to n I hs he FU a s ha (by show n - a < 1000000000; omega) h0
/-! numbers that are small -/
theorem w32_n {a : Nat} (h : a < 2147483648) : w32 (a : Int) = a := w32_eq (by omega) (by omega)
theorem w64_n {a : Nat} (h : a < 2147483648) : w64 (a : Int) = a := w64_eq (by omega) (by omega)
theorem bv_n (a : Nat) : (Int32.ofInt (a : Int)).toBitVec = BitVec.ofNat 32 a := by
  show BitVec.ofInt 32 (a : Int) = _
  exact BitVec.ofInt_natCast 32 a
theorem bv_toInt {b : BitVec 32} (h : b.toNat < 2147483648) : b.toInt = (b.toNat : Int) := BitVec.toInt_eq_toNat_of_lt (by omega)
theorem bv_small {a : Nat} (h : a < 2147483648) : (BitVec.ofNat 32 a).toNat = a := by
  rw [BitVec.toNat_ofNat]; omega
theorem i_and_n {a b : Nat} (ha : a < 2147483648) (hb : b < 2147483648) : i_and a b = ((a &&& b : Nat) : Int) := by
  have h : (BitVec.ofNat 32 a &&& BitVec.ofNat 32 b).toNat = a &&& b := by rw [BitVec.toNat_and, bv_small ha, bv_small hb]
  have hl : a &&& b ≤ a := Nat.and_le_left
  show ((Int32.ofInt (a : Int)).toBitVec &&& (Int32.ofInt (b : Int)).toBitVec).toInt = _
  rw [bv_n, bv_n, bv_toInt (by rw [h]; omega), h]
theorem i_or_n {a b : Nat} (ha : a < 2147483648) (hb : b < 2147483648) : i_or a b = ((a ||| b : Nat) : Int) := by
  have h : (BitVec.ofNat 32 a ||| BitVec.ofNat 32 b).toNat = a ||| b := by rw [BitVec.toNat_or, bv_small ha, bv_small hb]
  have hl : a ||| b < 2 ^ 31 := Nat.or_lt_two_pow (by omega) (by omega)
  show ((Int32.ofInt (a : Int)).toBitVec ||| (Int32.ofInt (b : Int)).toBitVec).toInt = _
  rw [bv_n, bv_n, bv_toInt (by rw [h]; omega), h]
theorem i_xor_n {a b : Nat} (ha : a < 2147483648) (hb : b < 2147483648) : i_xor a b = ((a ^^^ b : Nat) : Int) := by
  have h : (BitVec.ofNat 32 a ^^^ BitVec.ofNat 32 b).toNat = a ^^^ b := by rw [BitVec.toNat_xor, bv_small ha, bv_small hb]
  have hl : a ^^^ b < 2 ^ 31 := Nat.xor_lt_two_pow (by omega) (by omega)
  show ((Int32.ofInt (a : Int)).toBitVec ^^^ (Int32.ofInt (b : Int)).toBitVec).toInt = _
  rw [bv_n, bv_n, bv_toInt (by rw [h]; omega), h]
theorem sh_amt : ∀ s : Nat, s < 32 → ((Int32.ofInt (s : Int) &&& 31).toBitVec.smod 32) = BitVec.ofNat 32 s := by decide +kernel
theorem i_shl_n {a s : Nat} (hs : s < 32) (ha : a * 2 ^ s < 2147483648) : i_shl a s = ((a * 2 ^ s : Nat) : Int) := by
  show ((Int32.ofInt (a : Int)).toBitVec <<< ((Int32.ofInt (s : Int) &&& 31).toBitVec.smod 32)).toInt = _
  rw [sh_amt s hs, bv_n]
  have h : (BitVec.ofNat 32 a <<< BitVec.ofNat 32 s).toNat = a * 2 ^ s := by
    rw [BitVec.shiftLeft_eq', BitVec.toNat_shiftLeft, bv_small (by omega : s < 2147483648)]
    have h1 : 1 ≤ 2 ^ s := Nat.one_le_two_pow
    have h2 : a ≤ a * 2 ^ s := Nat.le_mul_of_pos_right a (by omega)
    rw [bv_small (by omega), Nat.shiftLeft_eq]
    exact Nat.mod_eq_of_lt (by omega)
  rw [bv_toInt (by rw [h]; exact ha), h]
theorem i_shr_n {a s : Nat} (hs : s < 32) (ha : a < 2147483648) : i_shr a s = ((a / 2 ^ s : Nat) : Int) := by
  show (BitVec.sshiftRight' (Int32.ofInt (a : Int)).toBitVec ((Int32.ofInt (s : Int) &&& 31).toBitVec.smod 32)).toInt = _
  rw [sh_amt s hs, bv_n]
  unfold BitVec.sshiftRight'
  rw [BitVec.toInt_sshiftRight, bv_small (by omega : s < 2147483648), bv_toInt (by rw [bv_small ha]; exact ha), bv_small ha, Int.shiftRight_eq_div_pow]
  norm_cast
theorem i_div_n {a b : Nat} (ha : a < 2147483648) (hb : b < 2147483648) : i_div a b = ((a / b : Nat) : Int) := by
  unfold i_div
  rw [Int32.toInt_div]
  have e1 : (Int32.ofInt (a : Int)).toInt = a := w32_n ha
  have e2 : (Int32.ofInt (b : Int)).toInt = b := w32_n hb
  rw [e1, e2]
  have h : Int.tdiv (a : Int) (b : Int) = ((a / b : Nat) : Int) := rfl
  rw [h]
  have h2 : a / b ≤ a := Nat.div_le_self a b
  generalize a / b = q at h2 ⊢
  have h3 : (q : Int) ≤ (a : Int) := by omega
  have h4 : (a : Int) < 2147483648 := by omega
  have h5 : (0 : Int) ≤ (q : Int) := Int.natCast_nonneg q
  exact Int.bmod_eq_of_le (by show -((4294967296 : Int) / 2) ≤ _; omega) (by show _ < ((4294967296 : Int) + 1) / 2; omega)
theorem i_rem_n {a b : Nat} (ha : a < 2147483648) (hb : b < 2147483648) : i_rem a b = ((a % b : Nat) : Int) := by
  have h1 : Int32.ofInt (a : Int) / Int32.ofInt (b : Int) = Int32.ofInt ((a / b : Nat) : Int) := by
    rw [← Int32.toInt_inj]
    have := i_div_n ha hb
    unfold i_div at this
    have h2 : a / b ≤ a := Nat.div_le_self a b
    rw [this]
    exact (w32_n (by omega)).symm
  unfold i_rem
  rw [h1, ← Int32.ofInt_mul, ← Int32.ofInt_sub]
  have h3 := Nat.div_add_mod a b
  have h4 : (a : Int) - ((a / b : Nat) : Int) * (b : Int) = ((a % b : Nat) : Int) := by
    have : (a : Int) = (b : Int) * ((a / b : Nat) : Int) + ((a % b : Nat) : Int) := by exact_mod_cast h3.symm
    rw [Int.mul_comm] at this
    omega
  rw [h4]
  have h5 : a % b ≤ a := Nat.mod_le a b
  exact w32_n (by omega)
