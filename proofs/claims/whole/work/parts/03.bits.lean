/-! sets of at most five places as naturals below 32: closed tables -/
def mp_bit (c q : Nat) : Nat := c / 2 ^ q % 2
/-- the set c with place p put to m -/
def mp_set (c p m : Nat) : Nat := c - mp_bit c p * 2 ^ p + m * 2 ^ p
def mp_cnt (c : Nat) : Nat → Nat
  | 0 => 0
  | k + 1 => mp_cnt c k + mp_bit c k
theorem mp_bit_le (c q : Nat) : mp_bit c q ≤ 1 := by unfold mp_bit; omega
theorem mp_tb : ∀ c, c < 32 → ∀ q, q < 5 → ((nI c >>> (nI q &&& 31)) &&& 1) = nI (mp_bit c q) := by decide +kernel
theorem mp_tsh : ∀ n, n < 6 → ((1 : Int32) <<< (nI n &&& 31)) = nI (2 ^ n) := by decide +kernel
theorem mp_tfull : ∀ n, n < 6 → nI (2 ^ n) - 1 = nI (2 ^ n - 1) := by decide +kernel
theorem mp_tmax : ∀ c, c < 32 → ∀ o, o < 32 → ((nI c &&& (nI o ^^^ (-1))) = 0 ↔ c &&& o = c) := by decide +kernel
theorem mp_tand : ∀ c, c < 32 → ∀ o, o < 32 → nI c &&& nI o = nI (c &&& o) := by decide +kernel
theorem mp_tor : ∀ c, c < 32 → ∀ o, o < 32 → nI c ||| nI o = nI (c ||| o) := by decide +kernel
theorem mp_tand0 {c o : Nat} (hc : c < 32) (ho : o < 32) : (nI c &&& nI o) = 0 ↔ c &&& o = 0 := by
  rw [mp_tand c hc o ho, ← nI_0]
  exact nI_eq (Nat.lt_of_le_of_lt Nat.and_le_left (by omega)) (by omega)
theorem mp_tandc {c o : Nat} (hc : c < 32) (ho : o < 32) : (nI c &&& nI o) = nI c ↔ c &&& o = c := by
  rw [mp_tand c hc o ho]
  exact nI_eq (Nat.lt_of_le_of_lt Nat.and_le_left (by omega)) (by omega)
theorem mp_tco : ∀ n, n < 6 → ∀ o, o < 2 ^ n → ∀ c, c < 2 ^ n → (c &&& (2 ^ n - 1 - o) = c ↔ c &&& o = 0) := by decide +kernel
theorem mp_big {c s N : Nat} (hs : s < N) (hc : N ≤ c) : ¬ c &&& s = c := by
  intro h
  have := Nat.and_le_right (n := c) (m := s)
  omega
theorem mp_tset : ∀ c, c < 32 → ∀ p, p < 5 → ∀ m, m < 2 → ((nI c &&& (((1 : Int32) <<< (nI p &&& 31)) ^^^ (-1))) ||| (nI m <<< (nI p &&& 31))) = nI (mp_set c p m) := by decide +kernel
theorem mp_set_lt : ∀ n, n < 6 → ∀ c, c < 2 ^ n → ∀ p, p < n → ∀ m, m < 2 → mp_set c p m < 2 ^ n := by decide +kernel
theorem mp_set_bit : ∀ c, c < 32 → ∀ p, p < 5 → ∀ m, m < 2 → ∀ q, q < 5 → mp_bit (mp_set c p m) q = if q = p then m else mp_bit c q := by decide +kernel
theorem mp_tnone : ∀ c, c < 32 → ((nI c &&& ((0 : Int32) ^^^ (-1))) ||| 0) = nI c := by decide +kernel
theorem mp_tmir : ∀ n, n < 6 → ∀ c, c < 2 ^ n → nI c ^^^ nI (2 ^ n - 1) = nI (2 ^ n - 1 - c) := by decide +kernel
theorem mp_mir_bit : ∀ n, n < 6 → ∀ c, c < 2 ^ n → ∀ q, q < n → mp_bit (2 ^ n - 1 - c) q = 1 - mp_bit c q := by decide +kernel
theorem mp_tin : ∀ c, c < 32 → ∀ i, i < 5 → mp_bit c i = 1 → nI (c % 2 ^ i) ||| nI (2 ^ i) = nI (c % 2 ^ (i + 1)) := by decide +kernel
theorem mp_tout : ∀ c, c < 32 → ∀ i, i < 5 → mp_bit c i = 0 → c % 2 ^ (i + 1) = c % 2 ^ i := by decide +kernel
theorem mp_cnt5 : ∀ n, n < 6 → ∀ c, c < 2 ^ n → mp_cnt c 5 = mp_cnt c n := by decide +kernel
theorem mp_cnt_le (c : Nat) : ∀ k, mp_cnt c k ≤ k := by
  intro k
  induction k with
  | zero => exact Nat.le_refl _
  | succ k ih =>
    have h := mp_bit_le c k
    show mp_cnt c k + mp_bit c k ≤ k + 1
    omega
theorem mp_give : ∀ c, c < 32 → ∀ s, s < 32 → s &&& c = 0 → ∀ q, q < 5 → mp_bit (c ||| s) q = if mp_bit s q = 1 then 1 else mp_bit c q := by decide +kernel
theorem mp_back : ∀ c, c < 32 → ∀ s, s < 32 → s &&& c = 0 → ∀ q, q < 5 → mp_bit s q = 1 → mp_bit c q = 0 := by decide +kernel
theorem mp_orlt {n a b : Nat} (ha : a < 2 ^ n) (hb : b < 2 ^ n) : a ||| b < 2 ^ n := Nat.or_lt_two_pow ha hb
