/-! small numbers as Int32, the walk on a graph of at most five places, its mean in sixtieths -/
def mp_z (z : Int) : Int32 := Int32.ofInt z
theorem mp_zt {a : Int} (h1 : -1000000 ≤ a) (h2 : a ≤ 1000000) : (mp_z a).toInt = a :=
  Int32.toInt_ofInt_of_le (by omega) (by omega)
theorem mp_zle {a b : Int} (h1 : -1000000 ≤ a) (h2 : a ≤ 1000000) (h3 : -1000000 ≤ b) (h4 : b ≤ 1000000) : mp_z a ≤ mp_z b ↔ a ≤ b := by
  rw [Int32.le_iff_toInt_le, mp_zt h1 h2, mp_zt h3 h4]
theorem mp_zlt {a b : Int} (h1 : -1000000 ≤ a) (h2 : a ≤ 1000000) (h3 : -1000000 ≤ b) (h4 : b ≤ 1000000) : mp_z a < mp_z b ↔ a < b := by
  rw [Int32.lt_iff_toInt_lt, mp_zt h1 h2, mp_zt h3 h4]
theorem mp_zeq {a b : Int} (h1 : -1000000 ≤ a) (h2 : a ≤ 1000000) (h3 : -1000000 ≤ b) (h4 : b ≤ 1000000) : mp_z a = mp_z b ↔ a = b := by
  constructor
  · intro h
    have h5 := congrArg Int32.toInt h
    rwa [mp_zt h1 h2, mp_zt h3 h4] at h5
  · intro h; rw [h]
theorem mp_zadd (a b : Int) : mp_z a + mp_z b = mp_z (a + b) := (Int32.ofInt_add a b).symm
theorem mp_zsub (a b : Int) : mp_z a - mp_z b = mp_z (a - b) := (Int32.ofInt_sub a b).symm
theorem mp_zmul (a b : Int) : mp_z a * mp_z b = mp_z (a * b) := (Int32.ofInt_mul a b).symm
theorem mp_zneg (a : Int) : -mp_z a = mp_z (-a) := (Int32.ofInt_neg a).symm
theorem mp_zn (n : Nat) : nI n = mp_z (n : Int) := Int32.ofInt_eq_ofNat.symm
theorem mp_zdiv {a b : Int} (h1 : -1000000 ≤ a) (h2 : a ≤ 1000000) (h3 : -1000000 ≤ b) (h4 : b ≤ 1000000) : mp_z a / mp_z b = mp_z (a.tdiv b) := by
  have e1 : Int32.minValue.toInt = -2147483648 := by decide
  have e2 : Int32.maxValue.toInt = 2147483647 := by decide
  exact (Int32.ofInt_tdiv (by rw [e1]; omega) (by rw [e2]; omega) (by rw [e1]; omega) (by rw [e2]; omega)).symm
theorem mp_zrem {a b : Int} (h1 : -1000000 ≤ a) (h2 : a ≤ 1000000) (h3 : -1000000 ≤ b) (h4 : b ≤ 1000000) : mp_z a - mp_z a / mp_z b * mp_z b = mp_z (a.tmod b) := by
  rw [mp_zdiv h1 h2 h3 h4, mp_zmul, mp_zsub, Int.tmod_def, Int.mul_comm]
theorem mp_z0 : mp_z 0 = 0 := by decide
theorem mp_zrem0 {a : Int} (b : Int) (h1 : -1000000 ≤ a) (h2 : a ≤ 1000000) (h3 : 1 ≤ b) (h4 : b ≤ 1000) : mp_z a - mp_z a / mp_z b * mp_z b = 0 ↔ b ∣ a := by
  rw [mp_zrem h1 h2 (by omega) (by omega), ← mp_z0, Int.dvd_iff_tmod_eq_zero]
  have b1 := Int.lt_tmod_of_pos a (show 0 < b by omega)
  have b2 := Int.tmod_lt_of_pos a (show 0 < b by omega)
  exact mp_zeq (by omega) (by omega) (by omega) (by omega)
/-- a branch on small whole numbers -/
theorem mp_ble {x y : Int32} {A B : Prop} (a b : Int) (f : a ≤ b → A) (g : b < a → B) (hx : x = mp_z a) (hy : y = mp_z b) (h1 : -1000000 ≤ a := by omega) (h2 : a ≤ 1000000 := by omega) (h3 : -1000000 ≤ b := by omega) (h4 : b ≤ 1000000 := by omega) : (x ≤ y → A) ∧ (¬ x ≤ y → B) := by
  subst hx; subst hy
  rw [mp_zle h1 h2 h3 h4]
  exact ⟨f, fun h => g (by omega)⟩
theorem mp_blt {x y : Int32} {A B : Prop} (a b : Int) (f : a < b → A) (g : b ≤ a → B) (hx : x = mp_z a) (hy : y = mp_z b) (h1 : -1000000 ≤ a := by omega) (h2 : a ≤ 1000000 := by omega) (h3 : -1000000 ≤ b := by omega) (h4 : b ≤ 1000000 := by omega) : (x < y → A) ∧ (¬ x < y → B) := by
  subst hx; subst hy
  rw [mp_zlt h1 h2 h3 h4]
  exact ⟨f, fun h => g (by omega)⟩
theorem mp_beq {x y : Int32} {A B : Prop} (a b : Int) (f : a = b → A) (g : a ≠ b → B) (hx : x = mp_z a) (hy : y = mp_z b) (h1 : -1000000 ≤ a := by omega) (h2 : a ≤ 1000000 := by omega) (h3 : -1000000 ≤ b := by omega) (h4 : b ≤ 1000000 := by omega) : (x = y → A) ∧ (¬ x = y → B) := by
  subst hx; subst hy
  rw [mp_zeq h1 h2 h3 h4]
  exact ⟨f, g⟩
theorem mp_bif {c d A B : Prop} (e : c ↔ d) (f : d → A) (g : ¬ d → B) : (c → A) ∧ (¬ c → B) :=
  ⟨fun h => f (e.mp h), fun h => g (fun k => h (e.mpr k))⟩
theorem mp_le5 {n : Nat} (h1 : 1 ≤ n) (h5 : n ≤ 5) : n = 1 ∨ n = 2 ∨ n = 3 ∨ n = 4 ∨ n = 5 := by omega
theorem mp_le5i {n : Int} (h1 : 1 ≤ n) (h5 : n ≤ 5) : n = 1 ∨ n = 2 ∨ n = 3 ∨ n = 4 ∨ n = 5 := by omega
theorem mp_lt5 {n : Nat} (h5 : n < 5) : n = 0 ∨ n = 1 ∨ n = 2 ∨ n = 3 ∨ n = 4 := by omega

theorem mp_pig : ∀ (n : Nat) (a : Nat → Nat), (∀ k, k ≤ n → a k < n) → ∃ i j, i < j ∧ j ≤ n ∧ a i = a j := by
  intro n
  induction n with
  | zero => intro a h; exact absurd (h 0 (Nat.le_refl _)) (by omega)
  | succ n ih =>
    intro a h
    by_cases e : ∃ i, i ≤ n ∧ a i = a (n + 1)
    · obtain ⟨i, hi, he⟩ := e
      exact ⟨i, n + 1, by omega, Nat.le_refl _, he⟩
    · have e' : ∀ i, i ≤ n → a i ≠ a (n + 1) := fun i hi he => e ⟨i, hi, he⟩
      obtain ⟨i, j, hij, hj, he⟩ := ih (fun k => if a (n + 1) < a k then a k - 1 else a k) (by
        intro k hk
        have h1 := h k (by omega)
        have h2 := h (n + 1) (Nat.le_refl _)
        have h3 := e' k hk
        split <;> omega)
      refine ⟨i, j, hij, by omega, ?_⟩
      have h1 := e' i (by omega)
      have h2 := e' j hj
      split at he <;> split at he <;> omega
theorem mp_least (P : Nat → Prop) : ∀ k, P k → ∃ m, m ≤ k ∧ P m ∧ ∀ j, j < m → ¬ P j := by
  intro k
  induction k using Nat.strongRecOn with
  | ind k ih =>
    intro hk
    by_cases e : ∃ j, j < k ∧ P j
    · obtain ⟨j, hj, hp⟩ := e
      obtain ⟨m, hm, h1, h2⟩ := ih j hj hp
      exact ⟨m, by omega, h1, h2⟩
    · exact ⟨k, Nat.le_refl _, hk, fun j hj hp => e ⟨j, hj, hp⟩⟩

def mp_at (f : Nat → Nat) (p : Nat) : Nat → Nat
  | 0 => p
  | k + 1 => f (mp_at f p k)
def mp_sm (g : Nat → Int) (a : Nat → Nat) (s : Nat) : Nat → Int
  | 0 => 0
  | k + 1 => mp_sm g a s k + g (a (s + k))
/-- sixty times the mean of the way from p, where n moves are made before the count -/
def mp_mn (n : Nat) (f : Nat → Nat) (g : Nat → Int) (p : Nat) : Int := mp_sm g (mp_at f p) n 60

theorem mp_at_lt {f : Nat → Nat} {n p : Nat} (hf : ∀ q, q < n → f q < n) (hp : p < n) : ∀ k, mp_at f p k < n := by
  intro k
  induction k with
  | zero => exact hp
  | succ k ih => exact hf _ ih
theorem mp_at_per {f : Nat → Nat} {p i L : Nat} (h : mp_at f p (i + L) = mp_at f p i) : ∀ k, mp_at f p (i + k + L) = mp_at f p (i + k) := by
  intro k
  induction k with
  | zero => exact h
  | succ k ih =>
    have e : i + (k + 1) + L = (i + k + L) + 1 := by omega
    rw [e]
    show f (mp_at f p (i + k + L)) = f (mp_at f p (i + k))
    rw [ih]
theorem mp_at_mul {f : Nat → Nat} {p i L : Nat} (h : mp_at f p (i + L) = mp_at f p i) (m : Nat) : ∀ k, mp_at f p (i + k + m * L) = mp_at f p (i + k) := by
  induction m with
  | zero => intro k; rw [Nat.zero_mul, Nat.add_zero]
  | succ m ih =>
    intro k
    have e : i + k + (m + 1) * L = i + (k + m * L) + L := by rw [Nat.succ_mul]; omega
    rw [e, mp_at_per h, ← ih k, Nat.add_assoc]
theorem mp_sm_add (g : Nat → Int) (a : Nat → Nat) (s k : Nat) : ∀ l, mp_sm g a s (k + l) = mp_sm g a s k + mp_sm g a (s + k) l := by
  intro l
  induction l with
  | zero => show mp_sm g a s k = mp_sm g a s k + 0; omega
  | succ l ih =>
    show mp_sm g a s (k + l) + g (a (s + (k + l))) = mp_sm g a s k + (mp_sm g a (s + k) l + g (a (s + k + l)))
    rw [ih, Nat.add_assoc s k l]; omega
theorem mp_sm_shift (g : Nat → Int) (a : Nat → Nat) (s d : Nat) : ∀ k, (∀ j, j < k → a (s + j + d) = a (s + j)) → mp_sm g a (s + d) k = mp_sm g a s k := by
  intro k
  induction k with
  | zero => intro _; rfl
  | succ k ih =>
    intro h
    have e := h k (by omega)
    show mp_sm g a (s + d) k + g (a (s + d + k)) = mp_sm g a s k + g (a (s + k))
    rw [ih (fun j hj => h j (by omega)), show s + d + k = s + k + d by omega, e]
theorem mp_sm_mul {f : Nat → Nat} {p s L : Nat} (g : Nat → Int) (h : mp_at f p (s + L) = mp_at f p s) : ∀ m : Nat, mp_sm g (mp_at f p) s (m * L) = (m : Int) * mp_sm g (mp_at f p) s L := by
  intro m
  induction m with
  | zero => rw [Nat.zero_mul]; show (0 : Int) = _; simp
  | succ m ih =>
    rw [Nat.succ_mul, mp_sm_add, ih, mp_sm_shift g (mp_at f p) s (m * L) L (fun j _ => mp_at_mul h m j)]
    rw [show ((m + 1 : Nat) : Int) = (m : Int) + 1 by omega, Int.add_mul, Int.one_mul]
theorem mp_sm_slide (g : Nat → Int) (a : Nat → Nat) (s : Nat) (h : a (s + 60) = a s) : mp_sm g a (s + 1) 60 = mp_sm g a s 60 := by
  have e1 : mp_sm g a s (60 + 1) = mp_sm g a s 60 + g (a (s + 60)) := rfl
  have e2 : mp_sm g a s (1 + 60) = mp_sm g a s 1 + mp_sm g a (s + 1) 60 := mp_sm_add g a s 1 60
  have e3 : mp_sm g a s 1 = 0 + g (a (s + 0)) := rfl
  rw [h] at e1
  rw [Nat.add_zero] at e3
  rw [show 1 + 60 = 60 + 1 from rfl] at e2
  omega
theorem mp_sm_slides (g : Nat → Int) (a : Nat → Nat) (s : Nat) (h : ∀ k, a (s + k + 60) = a (s + k)) : ∀ d, mp_sm g a (s + d) 60 = mp_sm g a s 60 := by
  intro d
  induction d with
  | zero => rfl
  | succ d ih => rw [← ih]; exact mp_sm_slide g a (s + d) (h d)
theorem mp_60 {L : Nat} (h1 : 1 ≤ L) (h5 : L ≤ 5) : ∃ m, m * L = 60 := by
  rcases mp_le5 h1 h5 with rfl | rfl | rfl | rfl | rfl
  · exact ⟨60, rfl⟩
  · exact ⟨30, rfl⟩
  · exact ⟨20, rfl⟩
  · exact ⟨15, rfl⟩
  · exact ⟨12, rfl⟩
theorem mp_cyc {n p : Nat} {f : Nat → Nat} (g : Nat → Int) (h5 : n ≤ 5) (hf : ∀ q, q < n → f q < n) (hp : p < n) :
    ∃ L, 1 ≤ L ∧ L ≤ n ∧ mp_at f p (5 + L) = mp_at f p 5 ∧ (∀ j, 1 ≤ j → j < L → mp_at f p (5 + j) ≠ mp_at f p 5) ∧
      mp_mn n f g p * (L : Int) = 60 * mp_sm g (mp_at f p) 5 L := by
  obtain ⟨i, j, hij, hj, he⟩ := mp_pig n (mp_at f p) (fun k _ => mp_at_lt hf hp k)
  have hD : mp_at f p (i + (j - i)) = mp_at f p i := by rw [show i + (j - i) = j by omega]; exact he.symm
  have hP : mp_at f p (5 + (j - i)) = mp_at f p 5 := by
    have h := mp_at_per hD (5 - i)
    rwa [show i + (5 - i) = 5 by omega] at h
  obtain ⟨L, hL, ⟨h1, hr⟩, hm⟩ := mp_least (fun m => 1 ≤ m ∧ mp_at f p (5 + m) = mp_at f p 5) (j - i) ⟨by omega, hP⟩
  refine ⟨L, h1, by omega, hr, fun k hk1 hk2 e => hm k hk2 ⟨hk1, e⟩, ?_⟩
  obtain ⟨m, hmL⟩ := mp_60 h1 (by omega)
  obtain ⟨m', hmD⟩ := mp_60 (L := j - i) (by omega) (by omega)
  have e1 : mp_mn n f g p = mp_sm g (mp_at f p) 5 60 := by
    have h := mp_sm_slides g (mp_at f p) n (fun k => by
      have h := mp_at_mul hD m' (n - i + k)
      rw [hmD, show i + (n - i + k) = n + k by omega] at h
      exact h) (5 - n)
    rw [show n + (5 - n) = 5 by omega] at h
    exact h.symm
  have e2 := mp_sm_mul g hr m
  rw [hmL] at e2
  rw [e1, e2, Int.mul_right_comm, show (m : Int) * (L : Int) = 60 by rw [← Int.natCast_mul, hmL]; rfl]
theorem mp_sm_bd {g : Nat → Int} {a : Nat → Nat} {n : Nat} (hg : ∀ q, q < n → -3 ≤ g q ∧ g q ≤ 3) (ha : ∀ k, a k < n) (s : Nat) : ∀ k : Nat, -3 * (k : Int) ≤ mp_sm g a s k ∧ mp_sm g a s k ≤ 3 * (k : Int) := by
  intro k
  induction k with
  | zero => exact ⟨by show _ ≤ (0 : Int); omega, by show (0 : Int) ≤ _; omega⟩
  | succ k ih =>
    have h := hg _ (ha (s + k))
    have e : mp_sm g a s (k + 1) = mp_sm g a s k + g (a (s + k)) := rfl
    rw [e]
    omega
theorem mp_mn_bd {n p : Nat} {f : Nat → Nat} {g : Nat → Int} (hf : ∀ q, q < n → f q < n) (hg : ∀ q, q < n → -3 ≤ g q ∧ g q ≤ 3) (hp : p < n) : -180 ≤ mp_mn n f g p ∧ mp_mn n f g p ≤ 180 := by
  have h := mp_sm_bd hg (mp_at_lt hf hp) n 60
  unfold mp_mn
  omega
theorem mp_mn_congr {n p : Nat} {f f' : Nat → Nat} {g g' : Nat → Int} (hr : ∀ q, q < n → f q < n) (hp : p < n) (hf : ∀ q, q < n → f' q = f q) (hg : ∀ q, q < n → g' q = g q) : mp_mn n f' g' p = mp_mn n f g p := by
  have ha : ∀ k, mp_at f' p k = mp_at f p k := by
    intro k
    induction k with
    | zero => rfl
    | succ k ih =>
      show f' (mp_at f' p k) = f (mp_at f p k)
      rw [ih, hf _ (mp_at_lt hr hp k)]
  have hs : ∀ s k, mp_sm g' (mp_at f' p) s k = mp_sm g (mp_at f p) s k := by
    intro s k
    induction k with
    | zero => rfl
    | succ k ih =>
      show mp_sm g' (mp_at f' p) s k + g' (mp_at f' p (s + k)) = mp_sm g (mp_at f p) s k + g (mp_at f p (s + k))
      rw [ih, ha, hg _ (mp_at_lt hr hp _)]
  exact hs n 60
