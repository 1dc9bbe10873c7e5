/-! ===== level 2: orders of up to five cakes ===== -/
def fac : Nat → Nat
  | 0 => 1
  | n + 1 => (n + 1) * fac n
/-- the least cake of a set from a cake on, but for so many (so many cakes are left to look at) -/
def cbN : Nat → Nat → Nat → Nat → Nat
  | 0, _, _, _ => 0
  | f + 1, set0, rest, c => if set0 / 2 ^ c % 2 = 1 then (if rest = 0 then c else cbN f set0 (rest - 1) (c + 1)) else cbN f set0 rest (c + 1)
/-- the cakes of an order: f places are left, out of n -/
def permA (n : Nat) : Nat → Nat → Nat → List Nat
  | 0, _, _ => []
  | f + 1, set0, r => cbN n set0 (r / fac f) 0 :: permA n f (set0 - 2 ^ cbN n set0 (r / fac f) 0) (r - r / fac f * fac f)
def perm (n r : Nat) : List Nat := permA n n (2 ^ n - 1) r
def pA (n r i : Nat) : Nat := (perm n r).getD i 0
/-- how many behind a place are less than what is there -/
def lesN (l : List Nat) : Nat := (l.drop 1).countP (fun x => x < l.getD 0 0)
def rankL : List Nat → Nat
  | [] => 0
  | a :: l => (l.countP (fun x => x < a)) * fac l.length + rankL l
def turnL (m : Nat) (l : List Nat) : List Nat := (l.take m).reverse ++ l.drop m
def TO (n r m : Nat) : Nat := rankL (turnL m (perm n r))
theorem perm_facts : ∀ n, n < 6 → ∀ r, r < fac n → (perm n r).length = n ∧ (∀ i, i < n → pA n r i < n) ∧ (∀ i, i < n → ∀ j, j < n → pA n r i = pA n r j → i = j) ∧ rankL (perm n r) = r := by decide +kernel
theorem turn_facts : ∀ n, n < 6 → ∀ r, r < fac n → ∀ m, m < n + 1 → TO n r m < fac n ∧ perm n (TO n r m) = turnL m (perm n r) ∧ TO n (TO n r m) m = r := by decide +kernel
theorem id_facts : ∀ n, n < 6 → 0 < fac n ∧ fac n ≤ 120 ∧ perm n 0 = List.range n := by decide +kernel
/-- where a cake lies -/
def posA (n r k : Nat) : Nat := (perm n r).idxOf k
theorem pos_facts : ∀ n, n < 6 → ∀ r, r < fac n → ∀ k, k < n → posA n r k < n ∧ pA n r (posA n r k) = k := by decide +kernel
section ORD
variable {n r : Nat}
theorem perm_len (hn : n < 6) (hr : r < fac n) : (perm n r).length = n := (perm_facts n hn r hr).1
theorem pA_lt (hn : n < 6) (hr : r < fac n) {i : Nat} (hi : i < n) : pA n r i < n := (perm_facts n hn r hr).2.1 i hi
theorem pA_inj (hn : n < 6) (hr : r < fac n) {i j : Nat} (hi : i < n) (hj : j < n) (h : pA n r i = pA n r j) : i = j := (perm_facts n hn r hr).2.2.1 i hi j hj h
theorem rank_perm (hn : n < 6) (hr : r < fac n) : rankL (perm n r) = r := (perm_facts n hn r hr).2.2.2
theorem TO_lt (hn : n < 6) (hr : r < fac n) {m : Nat} (hm : m ≤ n) : TO n r m < fac n := (turn_facts n hn r hr m (by omega)).1
theorem perm_TO (hn : n < 6) (hr : r < fac n) {m : Nat} (hm : m ≤ n) : perm n (TO n r m) = turnL m (perm n r) := (turn_facts n hn r hr m (by omega)).2.1
theorem TO_TO (hn : n < 6) (hr : r < fac n) {m : Nat} (hm : m ≤ n) : TO n (TO n r m) m = r := (turn_facts n hn r hr m (by omega)).2.2
theorem fac_le (hn : n < 6) : fac n ≤ 120 := (id_facts n hn).2.1
theorem fac_pos (hn : n < 6) : 0 < fac n := (id_facts n hn).1
theorem turnL_get {l : List Nat} {m i : Nat} (hm : m ≤ l.length) : (turnL m l).getD i 0 = l.getD (if i < m then m - 1 - i else i) 0 := by
  unfold turnL
  simp only [List.getD_eq_getElem?_getD]
  by_cases hi : i < m
  · rw [if_pos hi, List.getElem?_append_left (by simp; omega), List.getElem?_reverse (by simp; omega), List.length_take, Nat.min_eq_left hm, List.getElem?_take_of_lt (by omega)]
  · rw [if_neg hi, List.getElem?_append_right (by simp; omega), List.length_reverse, List.length_take, Nat.min_eq_left hm, List.getElem?_drop]
    congr 2; omega
theorem pA_TO (hn : n < 6) (hr : r < fac n) {m i : Nat} (hm : m ≤ n) : pA n (TO n r m) i = pA n r (if i < m then m - 1 - i else i) := by
  unfold pA
  rw [perm_TO hn hr hm]
  exact turnL_get (by rw [perm_len hn hr]; exact hm)
theorem posA_lt (hn : n < 6) (hr : r < fac n) {k : Nat} (hk : k < n) : posA n r k < n := (pos_facts n hn r hr k hk).1
theorem pA_posA (hn : n < 6) (hr : r < fac n) {k : Nat} (hk : k < n) : pA n r (posA n r k) = k := (pos_facts n hn r hr k hk).2
/-- a sum over places is a sum over cakes -/
theorem sm_pA (hn : n < 6) (hr : r < fac n) {f : Nat → Nat} : sm n (fun i => f (pA n r i)) = sm n f := sm_perm n (pA n r) f (fun _ hi => pA_lt hn hr hi) (fun _ _ hi hj h => pA_inj hn hr hi hj h)
end ORD
/-! the same number, place by place: the class's, the reference's -/
def lesAt (p : Nat → Nat) (n i : Nat) : Nat := cn n (fun j => decide (i < j) && decide (p j < p i))
def rankC (n : Nat) (p : Nat → Nat) : Nat := sm n (fun i => lesAt p n i * fac (n - 1 - i))
def rankH (n : Nat) (p : Nat → Nat) : Nat → Nat
  | 0 => 0
  | i + 1 => rankH n p i * (n - i) + lesAt p n i
theorem rank_facts : ∀ n, n < 6 → ∀ r, r < fac n → rankC n (pA n r) = r ∧ rankH n (pA n r) n = r := by decide +kernel
theorem lesAt_congr {n i : Nat} {p q : Nat → Nat} (hi : i < n) (h : ∀ j, j < n → p j = q j) : lesAt p n i = lesAt q n i := cn_congr (fun j hj => by rw [h j hj, h i hi])
theorem rankC_eq {n r : Nat} {p : Nat → Nat} (hn : n < 6) (hr : r < fac n) (h : ∀ j, j < n → p j = pA n r j) : rankC n p = r := by
  rw [← (rank_facts n hn r hr).1]
  exact sm_congr (fun i hi => by rw [lesAt_congr hi h])
theorem rankH_congr {n : Nat} {p q : Nat → Nat} (h : ∀ j, j < n → p j = q j) : ∀ i, i ≤ n → rankH n p i = rankH n q i
  | 0, _ => rfl
  | i + 1, hi => by rw [rankH, rankH, rankH_congr h i (by omega), lesAt_congr (by omega) h]
theorem rankH_eq {n r : Nat} {p : Nat → Nat} (hn : n < 6) (hr : r < fac n) (h : ∀ j, j < n → p j = pA n r j) : rankH n p n = r := by
  rw [rankH_congr h n (Nat.le_refl _)]; exact (rank_facts n hn r hr).2
/-! the reference's way from a number to an order -/
/-- the least cake that is not met, but for so many -/
def skipN : Nat → Nat → Nat → Nat → Nat
  | 0, _, _, k => k
  | f + 1, met, less, k => if met / 2 ^ k % 2 = 1 then skipN f met less (k + 1) else if 0 < less then skipN f met (less - 1) (k + 1) else k
def layA (n : Nat) (r : Nat) : Nat → Nat × Nat × List Nat
  | 0 => (r, 0, [])
  | i + 1 => let q := layA n r i; let k := skipN n q.2.1 (q.1 / fac (n - 1 - i)) 0; (q.1 % fac (n - 1 - i), q.2.1 + 2 ^ k, q.2.2 ++ [k])
theorem lay_facts : ∀ n, n < 6 → ∀ r, r < fac n → ∀ i, i < n → (layA n r i).1 / fac (n - 1 - i) < n ∧ (layA n r i).1 < 120 ∧ (layA n r i).2.1 < 32 ∧ skipN n (layA n r i).2.1 ((layA n r i).1 / fac (n - 1 - i)) 0 = pA n r i ∧ (layA n r i).2.1 / 2 ^ (pA n r i) % 2 = 0 := by decide +kernel
/-- the set of those that are at the first places -/
def metN (n r : Nat) : Nat → Nat
  | 0 => 0
  | i + 1 => metN n r i + 2 ^ pA n r i
theorem met_facts : ∀ n, n < 6 → ∀ r, r < fac n → ∀ i, i < n → (layA n r i).2.1 = metN n r i := by decide +kernel
