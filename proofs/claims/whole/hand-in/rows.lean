section
/-! rows pasted from kit/rows/PURE-ROWS -/
theorem pk_us {f : Nat → Int32} {k : Nat} {x : Int32} : upd f k x k = x := if_pos rfl
theorem pk_un {f : Nat → Int32} {k j : Nat} {x : Int32} (h : j ≠ k) : upd f k x j = f j := if_neg h
theorem pk_sub {a b : Nat} (h : b ≤ a) : nI a - nI b = nI (a - b) := by
  obtain ⟨c, rfl⟩ : ∃ c, a = c + b := ⟨a - b, by omega⟩
  rw [← nI_add, Int32.add_sub_cancel, Nat.add_sub_cancel]
theorem pk_m1 (n : Nat) : nI (n + 1) + (-1) = nI n := by
  rw [← nI_1, Int32.add_assoc, show (1 : Int32) + (-1) = 0 from rfl, Int32.add_zero]
theorem pk_mul (a b : Nat) : nI a * nI b = nI (a * b) := (Int32.ofNat_mul a b).symm
theorem pk_div {a d : Nat} (ha : a < 2 ^ 31) (h0 : 0 < d) (hd : d < 2 ^ 31) : nI a / nI d = nI (a / d) := by
  apply Int32.toInt_inj.mp
  rw [lg_idiv_nonneg (by rw [nI_toInt ha]; omega) (by rw [nI_toInt hd]; omega), nI_toInt ha, nI_toInt hd, nI_toInt (Nat.lt_of_le_of_lt (Nat.div_le_self a d) ha)]
  first | rfl | exact (Int.natCast_ediv _ _).symm
theorem pk_rem {a d : Nat} (ha : a < 2 ^ 31) (h0 : 0 < d) (hd : d < 2 ^ 31) : nI a - nI a / nI d * nI d = nI (a % d) := by
  rw [pk_div ha h0 hd, pk_mul, pk_sub (Nat.div_mul_le_self a d)]
  exact congrArg nI (by have := Nat.div_add_mod' a d; omega)
theorem pk_ix (x : Int32) {n : Nat} (hn : n < 2 ^ 31) : x < 0 ∨ nI n ≤ x ∨ ∃ j : Nat, j < n ∧ x = nI j := by
  by_cases h : x < 0
  · exact Or.inl h
  · obtain ⟨j, hj, rfl⟩ := nI_of h
    by_cases h2 : j < n
    · exact Or.inr (Or.inr ⟨j, h2, rfl⟩)
    · exact Or.inr (Or.inl (nI_le (by omega) hj))
theorem pk_le {x y : Int32} {A B : Prop} (a b : Nat) (f : a ≤ b → A) (g : b < a → B) (hx : x = nI a := by rfl) (hy : y = nI b := by rfl) (ha : a < 2 ^ 31 := by omega) (hb : b < 2 ^ 31 := by omega) : (x ≤ y → A) ∧ (¬ x ≤ y → B) := by
  subst hx hy
  rw [nI_leI ha hb]
  exact ⟨f, fun z => g (by omega)⟩
theorem pk_lt {x y : Int32} {A B : Prop} (a b : Nat) (f : a < b → A) (g : b ≤ a → B) (hx : x = nI a := by rfl) (hy : y = nI b := by rfl) (ha : a < 2 ^ 31 := by omega) (hb : b < 2 ^ 31 := by omega) : (x < y → A) ∧ (¬ x < y → B) := by
  subst hx hy
  rw [nI_ltI ha hb]
  exact ⟨f, fun z => g (by omega)⟩
theorem pk_eq {x y : Int32} {A B : Prop} (a b : Nat) (f : a = b → A) (g : a ≠ b → B) (hx : x = nI a := by rfl) (hy : y = nI b := by rfl) (ha : a < 2 ^ 31 := by omega) (hb : b < 2 ^ 31 := by omega) : (x = y → A) ∧ (¬ x = y → B) := by
  subst hx hy
  rw [nI_eq ha hb]
  exact ⟨f, g⟩
theorem pk_in {x : Int32} (n N : Nat) (h : n < N) (hx : x = nI n := by rfl) (hN : N < 2 ^ 31 := by omega) : vp_in x N := by
  subst hx
  exact vp_in_nI h hN
theorem pk_cl {x : Int32} (n : Nat) (hx : x = nI n := by rfl) (h : n < 2 ^ 31 := by omega) : x.toNatClampNeg = n := by
  subst hx
  exact nI_clamp h
end
section
/-! small numbers as Int32, the walk on a graph of at most five places, its mean in sixtieths -/
def mp_z (z : Int) : Int32 := Int32.ofInt z
theorem mp_zt {a : Int} (h1 : -1000000 ≤ a) (h2 : a ≤ 1000000) : (mp_z a).toInt = a :=
  Int32.toInt_ofInt_of_le (by omega) (by omega)
theorem mp_zle {a b : Int} (h1 : -1000000 ≤ a) (h2 : a ≤ 1000000) (h3 : -1000000 ≤ b) (h4 : b ≤ 1000000) : mp_z a ≤ mp_z b ↔ a ≤ b := by
  rw [Int32.le_iff_toInt_le, mp_zt h1 h2, mp_zt h3 h4]
theorem mp_zlt {a b : Int} (h1 : -1000000 ≤ a) (h2 : a ≤ 1000000) (h3 : -1000000 ≤ b) (h4 : b ≤ 1000000) : mp_z a < mp_z b ↔ a < b := by
  rw [Int32.lt_iff_toInt_lt, mp_zt h1 h2, mp_zt h3 h4]
theorem mp_zeq {a b : Int} (h1 : -1000000 ≤ a) (h2 : a ≤ 1000000) (h3 : -1000000 ≤ b) (h4 : b ≤ 1000000) : mp_z a = mp_z b ↔ a = b := by
  constructor
  · intro h
    have h5 := congrArg Int32.toInt h
    rwa [mp_zt h1 h2, mp_zt h3 h4] at h5
  · intro h; rw [h]
theorem mp_zadd (a b : Int) : mp_z a + mp_z b = mp_z (a + b) := (Int32.ofInt_add a b).symm
theorem mp_zsub (a b : Int) : mp_z a - mp_z b = mp_z (a - b) := (Int32.ofInt_sub a b).symm
theorem mp_zmul (a b : Int) : mp_z a * mp_z b = mp_z (a * b) := (Int32.ofInt_mul a b).symm
theorem mp_zneg (a : Int) : -mp_z a = mp_z (-a) := (Int32.ofInt_neg a).symm
theorem mp_zn (n : Nat) : nI n = mp_z (n : Int) := Int32.ofInt_eq_ofNat.symm
theorem mp_zdiv {a b : Int} (h1 : -1000000 ≤ a) (h2 : a ≤ 1000000) (h3 : -1000000 ≤ b) (h4 : b ≤ 1000000) : mp_z a / mp_z b = mp_z (a.tdiv b) := by
  have e1 : Int32.minValue.toInt = -2147483648 := by decide
  have e2 : Int32.maxValue.toInt = 2147483647 := by decide
  exact (Int32.ofInt_tdiv (by rw [e1]; omega) (by rw [e2]; omega) (by rw [e1]; omega) (by rw [e2]; omega)).symm
theorem mp_zrem {a b : Int} (h1 : -1000000 ≤ a) (h2 : a ≤ 1000000) (h3 : -1000000 ≤ b) (h4 : b ≤ 1000000) : mp_z a - mp_z a / mp_z b * mp_z b = mp_z (a.tmod b) := by
  rw [mp_zdiv h1 h2 h3 h4, mp_zmul, mp_zsub, Int.tmod_def, Int.mul_comm]
theorem mp_z0 : mp_z 0 = 0 := by decide
theorem mp_zrem0 {a : Int} (b : Int) (h1 : -1000000 ≤ a) (h2 : a ≤ 1000000) (h3 : 1 ≤ b) (h4 : b ≤ 1000) : mp_z a - mp_z a / mp_z b * mp_z b = 0 ↔ b ∣ a := by
  rw [mp_zrem h1 h2 (by omega) (by omega), ← mp_z0, Int.dvd_iff_tmod_eq_zero]
  have b1 := Int.lt_tmod_of_pos a (show 0 < b by omega)
  have b2 := Int.tmod_lt_of_pos a (show 0 < b by omega)
  exact mp_zeq (by omega) (by omega) (by omega) (by omega)
/-- a branch on small whole numbers -/
theorem mp_ble {x y : Int32} {A B : Prop} (a b : Int) (f : a ≤ b → A) (g : b < a → B) (hx : x = mp_z a) (hy : y = mp_z b) (h1 : -1000000 ≤ a := by omega) (h2 : a ≤ 1000000 := by omega) (h3 : -1000000 ≤ b := by omega) (h4 : b ≤ 1000000 := by omega) : (x ≤ y → A) ∧ (¬ x ≤ y → B) := by
  subst hx; subst hy
  rw [mp_zle h1 h2 h3 h4]
  exact ⟨f, fun h => g (by omega)⟩
theorem mp_blt {x y : Int32} {A B : Prop} (a b : Int) (f : a < b → A) (g : b ≤ a → B) (hx : x = mp_z a) (hy : y = mp_z b) (h1 : -1000000 ≤ a := by omega) (h2 : a ≤ 1000000 := by omega) (h3 : -1000000 ≤ b := by omega) (h4 : b ≤ 1000000 := by omega) : (x < y → A) ∧ (¬ x < y → B) := by
  subst hx; subst hy
  rw [mp_zlt h1 h2 h3 h4]
  exact ⟨f, fun h => g (by omega)⟩
theorem mp_beq {x y : Int32} {A B : Prop} (a b : Int) (f : a = b → A) (g : a ≠ b → B) (hx : x = mp_z a) (hy : y = mp_z b) (h1 : -1000000 ≤ a := by omega) (h2 : a ≤ 1000000 := by omega) (h3 : -1000000 ≤ b := by omega) (h4 : b ≤ 1000000 := by omega) : (x = y → A) ∧ (¬ x = y → B) := by
  subst hx; subst hy
  rw [mp_zeq h1 h2 h3 h4]
  exact ⟨f, g⟩
theorem mp_bif {c d A B : Prop} (e : c ↔ d) (f : d → A) (g : ¬ d → B) : (c → A) ∧ (¬ c → B) :=
  ⟨fun h => f (e.mp h), fun h => g (fun k => h (e.mpr k))⟩
theorem mp_le5 {n : Nat} (h1 : 1 ≤ n) (h5 : n ≤ 5) : n = 1 ∨ n = 2 ∨ n = 3 ∨ n = 4 ∨ n = 5 := by omega
theorem mp_le5i {n : Int} (h1 : 1 ≤ n) (h5 : n ≤ 5) : n = 1 ∨ n = 2 ∨ n = 3 ∨ n = 4 ∨ n = 5 := by omega
theorem mp_lt5 {n : Nat} (h5 : n < 5) : n = 0 ∨ n = 1 ∨ n = 2 ∨ n = 3 ∨ n = 4 := by omega

theorem mp_pig : ∀ (n : Nat) (a : Nat → Nat), (∀ k, k ≤ n → a k < n) → ∃ i j, i < j ∧ j ≤ n ∧ a i = a j := by
  intro n
  induction n with
  | zero => intro a h; exact absurd (h 0 (Nat.le_refl _)) (by omega)
  | succ n ih =>
    intro a h
    by_cases e : ∃ i, i ≤ n ∧ a i = a (n + 1)
    · obtain ⟨i, hi, he⟩ := e
      exact ⟨i, n + 1, by omega, Nat.le_refl _, he⟩
    · have e' : ∀ i, i ≤ n → a i ≠ a (n + 1) := fun i hi he => e ⟨i, hi, he⟩
      obtain ⟨i, j, hij, hj, he⟩ := ih (fun k => if a (n + 1) < a k then a k - 1 else a k) (by
        intro k hk
        have h1 := h k (by omega)
        have h2 := h (n + 1) (Nat.le_refl _)
        have h3 := e' k hk
        split <;> omega)
      refine ⟨i, j, hij, by omega, ?_⟩
      have h1 := e' i (by omega)
      have h2 := e' j hj
      split at he <;> split at he <;> omega
theorem mp_least (P : Nat → Prop) : ∀ k, P k → ∃ m, m ≤ k ∧ P m ∧ ∀ j, j < m → ¬ P j := by
  intro k
  induction k using Nat.strongRecOn with
  | ind k ih =>
    intro hk
    by_cases e : ∃ j, j < k ∧ P j
    · obtain ⟨j, hj, hp⟩ := e
      obtain ⟨m, hm, h1, h2⟩ := ih j hj hp
      exact ⟨m, by omega, h1, h2⟩
    · exact ⟨k, Nat.le_refl _, hk, fun j hj hp => e ⟨j, hj, hp⟩⟩

def mp_at (f : Nat → Nat) (p : Nat) : Nat → Nat
  | 0 => p
  | k + 1 => f (mp_at f p k)
def mp_sm (g : Nat → Int) (a : Nat → Nat) (s : Nat) : Nat → Int
  | 0 => 0
  | k + 1 => mp_sm g a s k + g (a (s + k))
/-- sixty times the mean of the way from p, where n moves are made before the count -/
def mp_mn (n : Nat) (f : Nat → Nat) (g : Nat → Int) (p : Nat) : Int := mp_sm g (mp_at f p) n 60

theorem mp_at_lt {f : Nat → Nat} {n p : Nat} (hf : ∀ q, q < n → f q < n) (hp : p < n) : ∀ k, mp_at f p k < n := by
  intro k
  induction k with
  | zero => exact hp
  | succ k ih => exact hf _ ih
theorem mp_at_per {f : Nat → Nat} {p i L : Nat} (h : mp_at f p (i + L) = mp_at f p i) : ∀ k, mp_at f p (i + k + L) = mp_at f p (i + k) := by
  intro k
  induction k with
  | zero => exact h
  | succ k ih =>
    have e : i + (k + 1) + L = (i + k + L) + 1 := by omega
    rw [e]
    show f (mp_at f p (i + k + L)) = f (mp_at f p (i + k))
    rw [ih]
theorem mp_at_mul {f : Nat → Nat} {p i L : Nat} (h : mp_at f p (i + L) = mp_at f p i) (m : Nat) : ∀ k, mp_at f p (i + k + m * L) = mp_at f p (i + k) := by
  induction m with
  | zero => intro k; rw [Nat.zero_mul, Nat.add_zero]
  | succ m ih =>
    intro k
    have e : i + k + (m + 1) * L = i + (k + m * L) + L := by rw [Nat.succ_mul]; omega
    rw [e, mp_at_per h, ← ih k, Nat.add_assoc]
theorem mp_sm_add (g : Nat → Int) (a : Nat → Nat) (s k : Nat) : ∀ l, mp_sm g a s (k + l) = mp_sm g a s k + mp_sm g a (s + k) l := by
  intro l
  induction l with
  | zero => show mp_sm g a s k = mp_sm g a s k + 0; omega
  | succ l ih =>
    show mp_sm g a s (k + l) + g (a (s + (k + l))) = mp_sm g a s k + (mp_sm g a (s + k) l + g (a (s + k + l)))
    rw [ih, Nat.add_assoc s k l]; omega
theorem mp_sm_shift (g : Nat → Int) (a : Nat → Nat) (s d : Nat) : ∀ k, (∀ j, j < k → a (s + j + d) = a (s + j)) → mp_sm g a (s + d) k = mp_sm g a s k := by
  intro k
  induction k with
  | zero => intro _; rfl
  | succ k ih =>
    intro h
    have e := h k (by omega)
    show mp_sm g a (s + d) k + g (a (s + d + k)) = mp_sm g a s k + g (a (s + k))
    rw [ih (fun j hj => h j (by omega)), show s + d + k = s + k + d by omega, e]
theorem mp_sm_mul {f : Nat → Nat} {p s L : Nat} (g : Nat → Int) (h : mp_at f p (s + L) = mp_at f p s) : ∀ m : Nat, mp_sm g (mp_at f p) s (m * L) = (m : Int) * mp_sm g (mp_at f p) s L := by
  intro m
  induction m with
  | zero => rw [Nat.zero_mul]; show (0 : Int) = _; simp
  | succ m ih =>
    rw [Nat.succ_mul, mp_sm_add, ih, mp_sm_shift g (mp_at f p) s (m * L) L (fun j _ => mp_at_mul h m j)]
    rw [show ((m + 1 : Nat) : Int) = (m : Int) + 1 by omega, Int.add_mul, Int.one_mul]
theorem mp_sm_slide (g : Nat → Int) (a : Nat → Nat) (s : Nat) (h : a (s + 60) = a s) : mp_sm g a (s + 1) 60 = mp_sm g a s 60 := by
  have e1 : mp_sm g a s (60 + 1) = mp_sm g a s 60 + g (a (s + 60)) := rfl
  have e2 : mp_sm g a s (1 + 60) = mp_sm g a s 1 + mp_sm g a (s + 1) 60 := mp_sm_add g a s 1 60
  have e3 : mp_sm g a s 1 = 0 + g (a (s + 0)) := rfl
  rw [h] at e1
  rw [Nat.add_zero] at e3
  rw [show 1 + 60 = 60 + 1 from rfl] at e2
  omega
theorem mp_sm_slides (g : Nat → Int) (a : Nat → Nat) (s : Nat) (h : ∀ k, a (s + k + 60) = a (s + k)) : ∀ d, mp_sm g a (s + d) 60 = mp_sm g a s 60 := by
  intro d
  induction d with
  | zero => rfl
  | succ d ih => rw [← ih]; exact mp_sm_slide g a (s + d) (h d)
theorem mp_60 {L : Nat} (h1 : 1 ≤ L) (h5 : L ≤ 5) : ∃ m, m * L = 60 := by
  rcases mp_le5 h1 h5 with rfl | rfl | rfl | rfl | rfl
  · exact ⟨60, rfl⟩
  · exact ⟨30, rfl⟩
  · exact ⟨20, rfl⟩
  · exact ⟨15, rfl⟩
  · exact ⟨12, rfl⟩
theorem mp_cyc {n p : Nat} {f : Nat → Nat} (g : Nat → Int) (h5 : n ≤ 5) (hf : ∀ q, q < n → f q < n) (hp : p < n) :
    ∃ L, 1 ≤ L ∧ L ≤ n ∧ mp_at f p (5 + L) = mp_at f p 5 ∧ (∀ j, 1 ≤ j → j < L → mp_at f p (5 + j) ≠ mp_at f p 5) ∧
      mp_mn n f g p * (L : Int) = 60 * mp_sm g (mp_at f p) 5 L := by
  obtain ⟨i, j, hij, hj, he⟩ := mp_pig n (mp_at f p) (fun k _ => mp_at_lt hf hp k)
  have hD : mp_at f p (i + (j - i)) = mp_at f p i := by rw [show i + (j - i) = j by omega]; exact he.symm
  have hP : mp_at f p (5 + (j - i)) = mp_at f p 5 := by
    have h := mp_at_per hD (5 - i)
    rwa [show i + (5 - i) = 5 by omega] at h
  obtain ⟨L, hL, ⟨h1, hr⟩, hm⟩ := mp_least (fun m => 1 ≤ m ∧ mp_at f p (5 + m) = mp_at f p 5) (j - i) ⟨by omega, hP⟩
  refine ⟨L, h1, by omega, hr, fun k hk1 hk2 e => hm k hk2 ⟨hk1, e⟩, ?_⟩
  obtain ⟨m, hmL⟩ := mp_60 h1 (by omega)
  obtain ⟨m', hmD⟩ := mp_60 (L := j - i) (by omega) (by omega)
  have e1 : mp_mn n f g p = mp_sm g (mp_at f p) 5 60 := by
    have h := mp_sm_slides g (mp_at f p) n (fun k => by
      have h := mp_at_mul hD m' (n - i + k)
      rw [hmD, show i + (n - i + k) = n + k by omega] at h
      exact h) (5 - n)
    rw [show n + (5 - n) = 5 by omega] at h
    exact h.symm
  have e2 := mp_sm_mul g hr m
  rw [hmL] at e2
  rw [e1, e2, Int.mul_right_comm, show (m : Int) * (L : Int) = 60 by rw [← Int.natCast_mul, hmL]; rfl]
theorem mp_sm_bd {g : Nat → Int} {a : Nat → Nat} {n : Nat} (hg : ∀ q, q < n → -3 ≤ g q ∧ g q ≤ 3) (ha : ∀ k, a k < n) (s : Nat) : ∀ k : Nat, -3 * (k : Int) ≤ mp_sm g a s k ∧ mp_sm g a s k ≤ 3 * (k : Int) := by
  intro k
  induction k with
  | zero => exact ⟨by show _ ≤ (0 : Int); omega, by show (0 : Int) ≤ _; omega⟩
  | succ k ih =>
    have h := hg _ (ha (s + k))
    have e : mp_sm g a s (k + 1) = mp_sm g a s k + g (a (s + k)) := rfl
    rw [e]
    omega
theorem mp_mn_bd {n p : Nat} {f : Nat → Nat} {g : Nat → Int} (hf : ∀ q, q < n → f q < n) (hg : ∀ q, q < n → -3 ≤ g q ∧ g q ≤ 3) (hp : p < n) : -180 ≤ mp_mn n f g p ∧ mp_mn n f g p ≤ 180 := by
  have h := mp_sm_bd hg (mp_at_lt hf hp) n 60
  unfold mp_mn
  omega
theorem mp_mn_congr {n p : Nat} {f f' : Nat → Nat} {g g' : Nat → Int} (hr : ∀ q, q < n → f q < n) (hp : p < n) (hf : ∀ q, q < n → f' q = f q) (hg : ∀ q, q < n → g' q = g q) : mp_mn n f' g' p = mp_mn n f g p := by
  have ha : ∀ k, mp_at f' p k = mp_at f p k := by
    intro k
    induction k with
    | zero => rfl
    | succ k ih =>
      show f' (mp_at f' p k) = f (mp_at f p k)
      rw [ih, hf _ (mp_at_lt hr hp k)]
  have hs : ∀ s k, mp_sm g' (mp_at f' p) s k = mp_sm g (mp_at f p) s k := by
    intro s k
    induction k with
    | zero => rfl
    | succ k ih =>
      show mp_sm g' (mp_at f' p) s k + g' (mp_at f' p (s + k)) = mp_sm g (mp_at f p) s k + g (mp_at f p (s + k))
      rw [ih, ha, hg _ (mp_at_lt hr hp _)]
  exact hs n 60
end
section
/-! the value as the best of the worst; fractions against sixtieths -/
def mp_wo (m : Nat → Int) (o M : Nat) : Nat → Int
  | 0 => 181
  | k + 1 => if k &&& o = 0 then (if m (M ||| k) < mp_wo m o M k then m (M ||| k) else mp_wo m o M k) else mp_wo m o M k
def mp_va (w : Nat → Int) (o : Nat) : Nat → Int
  | 0 => -181
  | k + 1 => if k &&& o = k then (if mp_va w o k < w k then w k else mp_va w o k) else mp_va w o k
/-- the value of a place in sixtieths: m has the mean of each choice, o is MAX's places, 2 ^ n the number of choices -/
def mp_val (n : Nat) (m : Nat → Int) (o : Nat) : Int := mp_va (fun M => mp_wo m o M (2 ^ n)) o (2 ^ n)
def mp_ok (m : Nat → Int) : Prop := ∀ c, c < 32 → -180 ≤ m c ∧ m c ≤ 180
theorem mp_or32 {a b : Nat} (ha : a < 32) (hb : b < 32) : a ||| b < 32 := Nat.or_lt_two_pow (n := 5) ha hb
theorem mp_wo_bd {m : Nat → Int} (h : mp_ok m) (o : Nat) {M : Nat} (hM : M < 32) : ∀ k, k ≤ 32 → -180 ≤ mp_wo m o M k ∧ mp_wo m o M k ≤ 181 := by
  intro k
  induction k with
  | zero => intro _; exact ⟨by show _ ≤ (181 : Int); omega, by show (181 : Int) ≤ _; omega⟩
  | succ k ih =>
    intro hk
    have h1 := ih (by omega)
    have h2 := h (M ||| k) (mp_or32 hM (by omega))
    unfold mp_wo
    split
    · split <;> omega
    · exact h1
theorem mp_wo_bd1 {m : Nat → Int} (h : mp_ok m) (o : Nat) {M : Nat} (hM : M < 32) : ∀ k, k < 32 → -180 ≤ mp_wo m o M (k + 1) ∧ mp_wo m o M (k + 1) ≤ 180 := by
  intro k
  induction k with
  | zero =>
    intro _
    have h2 := h (M ||| 0) (mp_or32 hM (by omega))
    have e : mp_wo m o M (0 + 1) = if 0 &&& o = 0 then (if m (M ||| 0) < 181 then m (M ||| 0) else 181) else 181 := rfl
    rw [e, if_pos (Nat.zero_and o)]
    split <;> omega
  | succ k ih =>
    intro hk
    have h1 := ih (by omega)
    have h2 := h (M ||| (k + 1)) (mp_or32 hM (by omega))
    have e : mp_wo m o M (k + 1 + 1) = if (k + 1) &&& o = 0 then (if m (M ||| (k + 1)) < mp_wo m o M (k + 1) then m (M ||| (k + 1)) else mp_wo m o M (k + 1)) else mp_wo m o M (k + 1) := rfl
    rw [e]
    split
    · split <;> omega
    · exact h1
theorem mp_va_bd {w : Nat → Int} (h : mp_ok w) (o : Nat) : ∀ k, k ≤ 32 → -181 ≤ mp_va w o k ∧ mp_va w o k ≤ 180 := by
  intro k
  induction k with
  | zero => intro _; exact ⟨by show _ ≤ (-181 : Int); omega, by show (-181 : Int) ≤ _; omega⟩
  | succ k ih =>
    intro hk
    have h1 := ih (by omega)
    have h2 := h k (by omega)
    unfold mp_va
    split
    · split <;> omega
    · exact h1
theorem mp_va_bd1 {w : Nat → Int} (h : mp_ok w) (o : Nat) : ∀ k, k < 32 → -180 ≤ mp_va w o (k + 1) ∧ mp_va w o (k + 1) ≤ 180 := by
  intro k
  induction k with
  | zero =>
    intro _
    have h2 := h 0 (by omega)
    have e : mp_va w o (0 + 1) = if 0 &&& o = 0 then (if -181 < w 0 then w 0 else -181) else -181 := rfl
    rw [e, if_pos (Nat.zero_and o)]
    split <;> omega
  | succ k ih =>
    intro hk
    have h1 := ih (by omega)
    have h2 := h (k + 1) (by omega)
    have e : mp_va w o (k + 1 + 1) = if (k + 1) &&& o = k + 1 then (if mp_va w o (k + 1) < w (k + 1) then w (k + 1) else mp_va w o (k + 1)) else mp_va w o (k + 1) := rfl
    rw [e]
    split
    · split <;> omega
    · exact h1
theorem mp_p2 {n : Nat} (h1 : 1 ≤ n) (h5 : n ≤ 5) : 2 ≤ 2 ^ n ∧ 2 ^ n ≤ 32 := by
  rcases mp_le5 h1 h5 with rfl | rfl | rfl | rfl | rfl <;> decide
theorem mp_wo_ok {n : Nat} (h1 : 1 ≤ n) (h5 : n ≤ 5) {m : Nat → Int} (h : mp_ok m) (o : Nat) : mp_ok (fun M => mp_wo m o M (2 ^ n)) := by
  intro c hc
  have h2 := mp_p2 h1 h5
  have h3 := mp_wo_bd1 h o hc (2 ^ n - 1) (by omega)
  rw [show 2 ^ n - 1 + 1 = 2 ^ n by omega] at h3
  exact h3
theorem mp_val_bd {n : Nat} (h1 : 1 ≤ n) (h5 : n ≤ 5) {m : Nat → Int} (h : mp_ok m) (o : Nat) : -180 ≤ mp_val n m o ∧ mp_val n m o ≤ 180 := by
  have h2 := mp_p2 h1 h5
  have h3 := mp_va_bd1 (mp_wo_ok h1 h5 h o) o (2 ^ n - 1) (by omega)
  rw [show 2 ^ n - 1 + 1 = 2 ^ n by omega] at h3
  exact h3

/-- the fraction t / b is V sixtieths -/
def mp_fr (V t b : Int) : Prop := 1 ≤ b ∧ b ≤ 5 ∧ -15 ≤ t ∧ t ≤ 15 ∧ V * b = 60 * t
theorem mp_cross {V t b V' t' b' : Int} (h : mp_fr V t b) (h' : mp_fr V' t' b') : t * b' < t' * b ↔ V < V' := by
  obtain ⟨h1, h2, _, _, e⟩ := h
  obtain ⟨h1', h2', _, _, e'⟩ := h'
  rcases mp_le5i h1 h2 with rfl | rfl | rfl | rfl | rfl <;> rcases mp_le5i h1' h2' with rfl | rfl | rfl | rfl | rfl <;> constructor <;> intro h <;> omega
def mp_low (t b : Int) : Prop := b = 1 ∨ (b = 2 ∧ t % 2 ≠ 0) ∨ (b = 3 ∧ t % 3 ≠ 0) ∨ (b = 4 ∧ t % 2 ≠ 0) ∨ (b = 5 ∧ t % 5 ≠ 0)
theorem mp_uniq {V t b V' t' b' : Int} (h : mp_fr V t b) (l : mp_low t b) (h' : mp_fr V' t' b') (l' : mp_low t' b') : (t = t' ∧ b = b') ↔ V = V' := by
  obtain ⟨h1, h2, _, _, e⟩ := h
  obtain ⟨h1', h2', _, _, e'⟩ := h'
  unfold mp_low at l l'
  rcases mp_le5i h1 h2 with rfl | rfl | rfl | rfl | rfl <;> rcases mp_le5i h1' h2' with rfl | rfl | rfl | rfl | rfl <;> constructor <;> intro h <;> omega
/-- no d below b makes V * d a multiple of 60 -/
theorem mp_den {V t b : Int} (h : mp_fr V t b) (l : mp_low t b) {d : Int} (h1 : 1 ≤ d) (hd : d < b) : ¬ (60 : Int) ∣ V * d := by
  obtain ⟨hb1, hb2, _, _, e⟩ := h
  unfold mp_low at l
  rcases mp_le5i hb1 hb2 with rfl | rfl | rfl | rfl | rfl <;> rcases mp_le5i h1 (by omega) with rfl | rfl | rfl | rfl | rfl <;> intro h <;> omega
/-- the state of the reduction: every e above d fails to divide both -/
def mp_red (d t b : Int) : Prop := ∀ e, d < e → e ≤ 5 → ¬ (e ∣ t ∧ e ∣ b)
theorem mp_red_low {t b : Int} (h1 : 1 ≤ b) (h2 : b ≤ 5) (h : mp_red 1 t b) : mp_low t b := by
  have a2 := h 2 (by omega) (by omega)
  have a3 := h 3 (by omega) (by omega)
  have a4 := h 4 (by omega) (by omega)
  have a5 := h 5 (by omega) (by omega)
  unfold mp_low
  rcases mp_le5i h1 h2 with rfl | rfl | rfl | rfl | rfl <;> omega
theorem mp_red_no {d t b : Int} (h : mp_red d t b) (hn : ¬ (d ∣ t ∧ d ∣ b)) : mp_red (d - 1) t b := by
  intro e he h5
  by_cases ed : e = d
  · subst ed; exact hn
  · exact h e (by omega) h5
theorem mp_red_yes {d t b V : Int} (hd1 : 2 ≤ d) (hd2 : d ≤ 5) (hf : mp_fr V t b) (h : mp_red d t b) (ht : d ∣ t) (hb : d ∣ b) : ∃ t' b', t = d * t' ∧ b = d * b' ∧ mp_fr V t' b' ∧ mp_red (d - 1) t' b' := by
  obtain ⟨t', rfl⟩ := ht
  obtain ⟨b', rfl⟩ := hb
  obtain ⟨h1, h2, h3, h4, e⟩ := hf
  have hd : d = 2 ∨ d = 3 ∨ d = 4 ∨ d = 5 := by omega
  have a3 := h 3
  have a4 := h 4
  have a5 := h 5
  refine ⟨t', b', rfl, rfl, ?_, ?_⟩
  · unfold mp_fr
    rcases hd with rfl | rfl | rfl | rfl
    · have hb' : b' = 1 ∨ b' = 2 := by omega
      rcases hb' with rfl | rfl <;> omega
    · have hb' : b' = 1 := by omega
      subst hb'; omega
    · have hb' : b' = 1 := by omega
      subst hb'; omega
    · have hb' : b' = 1 := by omega
      subst hb'; omega
  · intro x hx h5 ⟨q1, q2⟩
    rcases hd with rfl | rfl | rfl | rfl
    · have hb' : b' = 1 ∨ b' = 2 := by omega
      have he' : x = 2 ∨ x = 3 ∨ x = 4 ∨ x = 5 := by omega
      rcases hb' with rfl | rfl <;> rcases he' with rfl | rfl | rfl | rfl <;> omega
    · have hb' : b' = 1 := by omega
      have he' : x = 3 ∨ x = 4 ∨ x = 5 := by omega
      subst hb'; rcases he' with rfl | rfl | rfl <;> omega
    · have hb' : b' = 1 := by omega
      have he' : x = 4 ∨ x = 5 := by omega
      subst hb'; rcases he' with rfl | rfl <;> omega
    · have hb' : b' = 1 := by omega
      have he' : x = 5 := by omega
      subst hb'; subst he'; omega
end
section
/-! sets of at most five places as naturals below 32: closed tables -/
def mp_bit (c q : Nat) : Nat := c / 2 ^ q % 2
/-- the set c with place p put to m -/
def mp_set (c p m : Nat) : Nat := c - mp_bit c p * 2 ^ p + m * 2 ^ p
def mp_cnt (c : Nat) : Nat → Nat
  | 0 => 0
  | k + 1 => mp_cnt c k + mp_bit c k
theorem mp_bit_le (c q : Nat) : mp_bit c q ≤ 1 := by unfold mp_bit; omega
theorem mp_tb : ∀ c, c < 32 → ∀ q, q < 5 → ((nI c >>> (nI q &&& 31)) &&& 1) = nI (mp_bit c q) := by decide +kernel
theorem mp_tsh : ∀ n, n < 6 → ((1 : Int32) <<< (nI n &&& 31)) = nI (2 ^ n) := by decide +kernel
theorem mp_tfull : ∀ n, n < 6 → nI (2 ^ n) - 1 = nI (2 ^ n - 1) := by decide +kernel
theorem mp_tmax : ∀ c, c < 32 → ∀ o, o < 32 → ((nI c &&& (nI o ^^^ (-1))) = 0 ↔ c &&& o = c) := by decide +kernel
theorem mp_tand : ∀ c, c < 32 → ∀ o, o < 32 → nI c &&& nI o = nI (c &&& o) := by decide +kernel
theorem mp_tor : ∀ c, c < 32 → ∀ o, o < 32 → nI c ||| nI o = nI (c ||| o) := by decide +kernel
theorem mp_tand0 {c o : Nat} (hc : c < 32) (ho : o < 32) : (nI c &&& nI o) = 0 ↔ c &&& o = 0 := by
  rw [mp_tand c hc o ho, ← nI_0]
  exact nI_eq (Nat.lt_of_le_of_lt Nat.and_le_left (by omega)) (by omega)
theorem mp_tandc {c o : Nat} (hc : c < 32) (ho : o < 32) : (nI c &&& nI o) = nI c ↔ c &&& o = c := by
  rw [mp_tand c hc o ho]
  exact nI_eq (Nat.lt_of_le_of_lt Nat.and_le_left (by omega)) (by omega)
theorem mp_tco : ∀ n, n < 6 → ∀ o, o < 2 ^ n → ∀ c, c < 2 ^ n → (c &&& (2 ^ n - 1 - o) = c ↔ c &&& o = 0) := by decide +kernel
theorem mp_big {c s N : Nat} (hs : s < N) (hc : N ≤ c) : ¬ c &&& s = c := by
  intro h
  have := Nat.and_le_right (n := c) (m := s)
  omega
theorem mp_tset : ∀ c, c < 32 → ∀ p, p < 5 → ∀ m, m < 2 → ((nI c &&& (((1 : Int32) <<< (nI p &&& 31)) ^^^ (-1))) ||| (nI m <<< (nI p &&& 31))) = nI (mp_set c p m) := by decide +kernel
theorem mp_set_lt : ∀ n, n < 6 → ∀ c, c < 2 ^ n → ∀ p, p < n → ∀ m, m < 2 → mp_set c p m < 2 ^ n := by decide +kernel
theorem mp_set_bit : ∀ c, c < 32 → ∀ p, p < 5 → ∀ m, m < 2 → ∀ q, q < 5 → mp_bit (mp_set c p m) q = if q = p then m else mp_bit c q := by decide +kernel
theorem mp_tnone : ∀ c, c < 32 → ((nI c &&& ((0 : Int32) ^^^ (-1))) ||| 0) = nI c := by decide +kernel
theorem mp_tmir : ∀ n, n < 6 → ∀ c, c < 2 ^ n → nI c ^^^ nI (2 ^ n - 1) = nI (2 ^ n - 1 - c) := by decide +kernel
theorem mp_mir_bit : ∀ n, n < 6 → ∀ c, c < 2 ^ n → ∀ q, q < n → mp_bit (2 ^ n - 1 - c) q = 1 - mp_bit c q := by decide +kernel
theorem mp_tin : ∀ c, c < 32 → ∀ i, i < 5 → mp_bit c i = 1 → nI (c % 2 ^ i) ||| nI (2 ^ i) = nI (c % 2 ^ (i + 1)) := by decide +kernel
theorem mp_tout : ∀ c, c < 32 → ∀ i, i < 5 → mp_bit c i = 0 → c % 2 ^ (i + 1) = c % 2 ^ i := by decide +kernel
theorem mp_cnt5 : ∀ n, n < 6 → ∀ c, c < 2 ^ n → mp_cnt c 5 = mp_cnt c n := by decide +kernel
theorem mp_cnt_le (c : Nat) : ∀ k, mp_cnt c k ≤ k := by
  intro k
  induction k with
  | zero => exact Nat.le_refl _
  | succ k ih =>
    have h := mp_bit_le c k
    show mp_cnt c k + mp_bit c k ≤ k + 1
    omega
theorem mp_give : ∀ c, c < 32 → ∀ s, s < 32 → s &&& c = 0 → ∀ q, q < 5 → mp_bit (c ||| s) q = if mp_bit s q = 1 then 1 else mp_bit c q := by decide +kernel
theorem mp_back : ∀ c, c < 32 → ∀ s, s < 32 → s &&& c = 0 → ∀ q, q < 5 → mp_bit s q = 1 → mp_bit c q = 0 := by decide +kernel
theorem mp_orlt {n a b : Nat} (ha : a < 2 ^ n) (hb : b < 2 ^ n) : a ||| b < 2 ^ n := Nat.or_lt_two_pow ha hb
end
section
/-! the component's private methods against the pure picture -/
/-- n places, targets T and weights W, and the arrays that hold them up to 2 * n -/
def mp_X (n : Nat) (T : Nat → Nat) (W : Nat → Int) (ta wa : Nat → Int32) : Prop :=
  1 ≤ n ∧ n ≤ 5 ∧ ∀ i, i < 2 * n → T i < n ∧ -3 ≤ W i ∧ W i ≤ 3 ∧ ta i = nI (T i) ∧ wa i = mp_z (W i)
def mp_f (T : Nat → Nat) (c q : Nat) : Nat := T (2 * q + mp_bit c q)
def mp_g (W : Nat → Int) (c q : Nat) : Int := W (2 * q + mp_bit c q)
def mp_m (n : Nat) (T : Nat → Nat) (W : Nat → Int) (p c : Nat) : Int := mp_mn n (mp_f T c) (mp_g W c) p
theorem mp_ixlt {n q : Nat} (c : Nat) (hq : q < n) : 2 * q + mp_bit c q < 2 * n := by
  have h := mp_bit_le c q
  omega
theorem mp_f_lt {n : Nat} {T : Nat → Nat} {W : Nat → Int} {ta wa : Nat → Int32} (hX : mp_X n T W ta wa) (c : Nat) : ∀ q, q < n → mp_f T c q < n :=
  fun _ hq => (hX.2.2 _ (mp_ixlt c hq)).1
theorem mp_g_bd {n : Nat} {T : Nat → Nat} {W : Nat → Int} {ta wa : Nat → Int32} (hX : mp_X n T W ta wa) (c : Nat) : ∀ q, q < n → -3 ≤ mp_g W c q ∧ mp_g W c q ≤ 3 :=
  fun _ hq => ⟨(hX.2.2 _ (mp_ixlt c hq)).2.1, (hX.2.2 _ (mp_ixlt c hq)).2.2.1⟩
theorem mp_m_bd {n p : Nat} {T : Nat → Nat} {W : Nat → Int} {ta wa : Nat → Int32} (hX : mp_X n T W ta wa) (hp : p < n) (c : Nat) : -180 ≤ mp_m n T W p c ∧ mp_m n T W p c ≤ 180 :=
  mp_mn_bd (mp_f_lt hX c) (mp_g_bd hX c) hp
theorem mp_2 (q : Nat) : (2 : Int32) * nI q = nI (2 * q) := pk_mul 2 q
theorem mp_ix {c q : Nat} (hc : c < 32) (hq : q < 5) : (2 * nI q) + ((nI c >>> (nI q &&& 31)) &&& 1) = nI (2 * q + mp_bit c q) := by
  rw [mp_tb c hc q hq, mp_2, nI_add]
theorem mx_mean41 {n p c : Nat} {T : Nat → Nat} {W : Nat → Int} {mx : Int32} {ta wa : Nat → Int32} (hX : mp_X n T W ta wa) (hp : p < n) (hc : c < 32)
    {post : Int32 → Prop} (h : post (mp_z (mp_m n T W p c))) : ∀ d i, i + d = 60 →
    wX_meanFrom_41 post (nI c) (nI n) mx ta wa (d + 1) (nI (mp_at (mp_f T c) p (n + i))) (mp_z (mp_sm (mp_g W c) (mp_at (mp_f T c) p) n i)) (nI i) := by
  have h5 := hX.2.1
  intro d
  induction d with
  | zero =>
    intro i hi
    obtain rfl : i = 60 := by omega
    exact pk_le 60 60 (fun _ => h) (fun h => absurd h (by omega))
  | succ d ih =>
    intro i hi
    have hq := mp_at_lt (mp_f_lt hX c) hp (n + i)
    have hk := mp_ixlt c hq
    have hx := hX.2.2 _ hk
    have ih' := ih (i + 1) (by omega)
    refine pk_le 60 i (fun h => absurd h (by omega)) (fun _ => ?_)
    refine nm_r (mp_ix hc (by omega)) ⟨vp_in_nI (by omega) (by omega), nm_r (e' := mp_z (mp_sm (mp_g W c) (mp_at (mp_f T c) p) n (i + 1))) ?_
      ⟨vp_in_nI (by omega) (by omega), nm_r (e' := nI (mp_at (mp_f T c) p (n + (i + 1)))) ?_ (nm_r (nI_1 i) ih')⟩⟩
    · rw [nI_clamp (by omega), hx.2.2.2.2, mp_zadd]; rfl
    · rw [nI_clamp (by omega), hx.2.2.2.1]; rfl
theorem mx_mean5 {n p c : Nat} {T : Nat → Nat} {W : Nat → Int} {mx : Int32} {ta wa : Nat → Int32} (hX : mp_X n T W ta wa) (hp : p < n) (hc : c < 32)
    {post : Int32 → Prop} (h : post (mp_z (mp_m n T W p c))) : ∀ d i, i + d = n →
    wX_meanFrom_5 post (nI c) (nI n) mx ta wa (d + 1) (nI (mp_at (mp_f T c) p i)) (nI i) := by
  have h5 := hX.2.1
  intro d
  induction d with
  | zero =>
    intro i hi
    obtain rfl : i = n := by omega
    have e := mx_mean41 (mx := mx) hX hp hc h 60 0 rfl
    simp only [mp_sm, mp_z0, nI_0, Nat.add_zero] at e
    exact pk_le i i (fun _ => ⟨61, e⟩) (fun h => absurd h (by omega))
  | succ d ih =>
    intro i hi
    have hq := mp_at_lt (mp_f_lt hX c) hp i
    have hk := mp_ixlt c hq
    have hx := hX.2.2 _ hk
    have ih' := ih (i + 1) (by omega)
    refine pk_le n i (fun h => absurd h (by omega)) (fun _ => ?_)
    rw [mp_ix hc (show mp_at (mp_f T c) p i < 5 by omega)]
    refine ⟨vp_in_nI (by omega) (by omega), nm_r (e' := nI (mp_at (mp_f T c) p (i + 1))) ?_ (nm_r (nI_1 i) ih')⟩
    rw [nI_clamp (by omega), hx.2.2.2.1]; rfl
theorem mx_mean {n p c : Nat} {T : Nat → Nat} {W : Nat → Int} {mx : Int32} {ta wa : Nat → Int32} (hX : mp_X n T W ta wa) (hp : p < n) (hc : c < 32)
    {post : Int32 → Prop} (h : post (mp_z (mp_m n T W p c))) : wpX_meanFrom post (nI n, mx, ta, wa) (nI p) (nI c) :=
  ⟨n + 1, mx_mean5 hX hp hc h n 0 (by omega)⟩

theorem mp_wo_no {m : Nat → Int} {o M k : Nat} (h : ¬ k &&& o = 0) : mp_wo m o M (k + 1) = mp_wo m o M k := if_neg h
theorem mp_wo_lt {m : Nat → Int} {o M k : Nat} (h : k &&& o = 0) (h2 : m (M ||| k) < mp_wo m o M k) : mp_wo m o M (k + 1) = m (M ||| k) := (if_pos h).trans (if_pos h2)
theorem mp_wo_ge {m : Nat → Int} {o M k : Nat} (h : k &&& o = 0) (h2 : ¬ m (M ||| k) < mp_wo m o M k) : mp_wo m o M (k + 1) = mp_wo m o M k := (if_pos h).trans (if_neg h2)
theorem mp_va_no {w : Nat → Int} {o k : Nat} (h : ¬ k &&& o = k) : mp_va w o (k + 1) = mp_va w o k := if_neg h
theorem mp_va_lt {w : Nat → Int} {o k : Nat} (h : k &&& o = k) (h2 : mp_va w o k < w k) : mp_va w o (k + 1) = w k := (if_pos h).trans (if_pos h2)
theorem mp_va_ge {w : Nat → Int} {o k : Nat} (h : k &&& o = k) (h2 : ¬ mp_va w o k < w k) : mp_va w o (k + 1) = mp_va w o k := (if_pos h).trans (if_neg h2)

theorem mx_worst8 {n p o M : Nat} {T : Nat → Nat} {W : Nat → Int} {mx bd ch : Int32} {ta wa : Nat → Int32} {ph : Nat → Nat} (hX : mp_X n T W ta wa) (hp : p < n) (ho : o < 32) (hM : M < 32)
    (hph : ∀ c, c < 32 → ((nI c &&& (bd ^^^ (-1))) ||| ch) = nI (ph c) ∧ ph c < 32)
    {post : Int32 → Prop} (h : post (mp_z (mp_wo (fun c => mp_m n T W p (ph c)) o M (2 ^ n)))) : ∀ d k, k + d = 2 ^ n →
    wX_worstFor_8 post (nI p) (nI o) (nI M) bd ch (nI n) mx ta wa (d + 1) (mp_z (mp_wo (fun c => mp_m n T W p (ph c)) o M k)) (nI k) := by
  have h5 := hX.2.1
  have h2 := mp_p2 hX.1 h5
  have hok : mp_ok (fun c => mp_m n T W p (ph c)) := fun c _ => mp_m_bd hX hp (ph c)
  intro d
  induction d with
  | zero =>
    intro k hk
    obtain rfl : k = 2 ^ n := by omega
    exact pk_le (2 ^ n) (2 ^ n) (fun _ => h) (fun h => absurd h (by omega)) (mp_tsh n (by omega))
  | succ d ih =>
    intro k hk
    have ih' := ih (k + 1) (by omega)
    have hk5 : k < 32 := by omega
    have b1 := mp_wo_bd hok o hM k (by omega)
    refine pk_le (2 ^ n) k (fun h => absurd h (by omega)) (fun _ => ?_) (mp_tsh n (by omega))
    refine mp_bif (mp_tand0 hk5 ho) (fun h0 => ?_) (fun h0 => ?_)
    · have e := hph (M ||| k) (mp_or32 hM hk5)
      have b2 := mp_m_bd hX hp (ph (M ||| k))
      rw [mp_tor M hM k hk5, e.1]
      refine mx_mean hX hp e.2 ?_
      refine mp_ble _ _ (fun hc => ?_) (fun hc => ?_) rfl rfl
      · rw [mp_wo_ge h0 (by omega)] at ih'
        exact nm_r (nI_1 k) ih'
      · rw [mp_wo_lt h0 hc] at ih'
        exact nm_r (nI_1 k) ih'
    · rw [mp_wo_no h0] at ih'
      exact nm_r (nI_1 k) ih'
theorem mx_worst {n p o M : Nat} {T : Nat → Nat} {W : Nat → Int} {mx bd ch : Int32} {ta wa : Nat → Int32} {ph : Nat → Nat} (hX : mp_X n T W ta wa) (hp : p < n) (ho : o < 32) (hM : M < 32)
    (hph : ∀ c, c < 32 → ((nI c &&& (bd ^^^ (-1))) ||| ch) = nI (ph c) ∧ ph c < 32)
    {post : Int32 → Prop} (h : post (mp_z (mp_wo (fun c => mp_m n T W p (ph c)) o M (2 ^ n)))) : wpX_worstFor post (nI n, mx, ta, wa) (nI p) (nI o) (nI M) bd ch :=
  ⟨2 ^ n + 1, mx_worst8 hX hp ho hM hph h (2 ^ n) 0 (by omega)⟩
theorem mx_value8 {n p o : Nat} {T : Nat → Nat} {W : Nat → Int} {mx bd ch : Int32} {ta wa : Nat → Int32} {ph : Nat → Nat} (hX : mp_X n T W ta wa) (hp : p < n) (ho : o < 32)
    (hph : ∀ c, c < 32 → ((nI c &&& (bd ^^^ (-1))) ||| ch) = nI (ph c) ∧ ph c < 32)
    {post : Int32 → Prop} (h : post (mp_z (mp_val n (fun c => mp_m n T W p (ph c)) o))) : ∀ d k, k + d = 2 ^ n →
    wX_valueBound_8 post (nI p) (nI o) bd ch (nI n) mx ta wa (d + 1) (mp_z (mp_va (fun M => mp_wo (fun c => mp_m n T W p (ph c)) o M (2 ^ n)) o k)) (nI k) := by
  have h5 := hX.2.1
  have h2 := mp_p2 hX.1 h5
  have hok : mp_ok (fun c => mp_m n T W p (ph c)) := fun c _ => mp_m_bd hX hp (ph c)
  have hok2 := mp_wo_ok hX.1 h5 hok o
  intro d
  induction d with
  | zero =>
    intro k hk
    obtain rfl : k = 2 ^ n := by omega
    exact pk_le (2 ^ n) (2 ^ n) (fun _ => h) (fun h => absurd h (by omega)) (mp_tsh n (by omega))
  | succ d ih =>
    intro k hk
    have ih' := ih (k + 1) (by omega)
    have hk5 : k < 32 := by omega
    have b1 := mp_va_bd hok2 o k (by omega)
    have b2 := hok2 k hk5
    refine pk_le (2 ^ n) k (fun h => absurd h (by omega)) (fun _ => ?_) (mp_tsh n (by omega))
    refine mp_bif (mp_tmax k hk5 o ho) (fun h0 => ?_) (fun h0 => ?_)
    · refine mx_worst hX hp ho hk5 hph ?_
      dsimp only at b2
      refine mp_ble _ _ (fun hc => ?_) (fun hc => ?_) rfl rfl
      · rw [mp_va_ge h0 (by omega)] at ih'
        exact nm_r (nI_1 k) ih'
      · rw [mp_va_lt h0 hc] at ih'
        exact nm_r (nI_1 k) ih'
    · rw [mp_va_no h0] at ih'
      exact nm_r (nI_1 k) ih'
theorem mx_value {n p o : Nat} {T : Nat → Nat} {W : Nat → Int} {mx bd ch : Int32} {ta wa : Nat → Int32} {ph : Nat → Nat} (hX : mp_X n T W ta wa) (hp : p < n) (ho : o < 32)
    (hph : ∀ c, c < 32 → ((nI c &&& (bd ^^^ (-1))) ||| ch) = nI (ph c) ∧ ph c < 32)
    {post : Int32 → Prop} (h : post (mp_z (mp_val n (fun c => mp_m n T W p (ph c)) o))) : wpX_valueBound post (nI n, mx, ta, wa) (nI p) (nI o) bd ch :=
  ⟨2 ^ n + 1, mx_value8 hX hp ho hph h (2 ^ n) 0 (by omega)⟩
theorem mx_valueOf {n p o : Nat} {T : Nat → Nat} {W : Nat → Int} {mx : Int32} {ta wa : Nat → Int32} (hX : mp_X n T W ta wa) (hp : p < n) (ho : o < 32)
    {post : Int32 → Prop} (h : post (mp_z (mp_val n (mp_m n T W p) o))) : wpX_valueOf post (nI n, mx, ta, wa) (nI p) (nI o) := by
  unfold wpX_valueOf
  dsimp only
  exact mx_value (ph := fun c => c) hX hp ho (fun c hc => ⟨mp_tnone c hc, hc⟩) h
theorem mp_r60 {V : Int} {k : Nat} (h1 : -180 ≤ V) (h2 : V ≤ 180) (hk : k ≤ 5) : ((mp_z V * nI k) - (mp_z V * nI k) / 60 * 60) = 0 ↔ (60 : Int) ∣ V * (k : Int) := by
  have e60 : (60 : Int32) = mp_z 60 := by decide
  have hb : -1000000 ≤ V * (k : Int) ∧ V * (k : Int) ≤ 1000000 := by
    have hk' : k = 0 ∨ k = 1 ∨ k = 2 ∨ k = 3 ∨ k = 4 ∨ k = 5 := by omega
    rcases hk' with rfl | rfl | rfl | rfl | rfl | rfl <;> omega
  rw [mp_zn, mp_zmul, e60]
  exact mp_zrem0 60 hb.1 hb.2 (by omega) (by omega)
theorem mx_low2 {n B : Nat} {V t : Int} {mx : Int32} {ta wa : Nat → Int32} (h5 : n ≤ 5) (hV1 : -180 ≤ V) (hV2 : V ≤ 180) (hf : mp_fr V t (B : Int)) (hl : mp_low t (B : Int)) (hB : B ≤ n)
    {post : Int32 → Prop} (h : post (nI B)) : ∀ d k, 1 ≤ k → k + d = B → wX_lowestDenominator_2 post (mp_z V) (nI n) mx ta wa (d + 1) (nI k) := by
  intro d
  induction d with
  | zero =>
    intro k h1 hk
    obtain rfl : k = B := by omega
    refine pk_le n k (fun _ => h) (fun _ => ⟨by decide, mp_bif (mp_r60 hV1 hV2 (by omega)) (fun _ => h) (fun hn => ?_)⟩)
    exact absurd ⟨t, hf.2.2.2.2⟩ hn
  | succ d ih =>
    intro k h1 hk
    refine pk_le n k (fun h => absurd h (by omega)) (fun _ => ⟨by decide, mp_bif (mp_r60 hV1 hV2 (by omega)) (fun hd => ?_) (fun _ => nm_r (nI_1 k) (ih (k + 1) (by omega) (by omega)))⟩)
    exact absurd hd (mp_den hf hl (by omega) (by omega))
theorem mx_low {n : Nat} {V t b : Int} {mx : Int32} {ta wa : Nat → Int32} (h5 : n ≤ 5) (hV1 : -180 ≤ V) (hV2 : V ≤ 180) (hf : mp_fr V t b) (hl : mp_low t b) (hB : b ≤ n)
    {post : Int32 → Prop} (h : post (mp_z b)) : wpX_lowestDenominator post (nI n, mx, ta, wa) (mp_z V) := by
  obtain ⟨B, rfl⟩ : ∃ B : Nat, b = (B : Int) := ⟨b.toNat, by have := hf.1; omega⟩
  have h1 := hf.1
  rw [← mp_zn] at h
  exact ⟨B - 1 + 1, mx_low2 h5 hV1 hV2 hf hl (by omega) h (B - 1) 1 (by omega) (by omega)⟩
theorem mx_num {V t b : Int} (hf : mp_fr V t b) : (mp_z V * mp_z b) / 60 = mp_z t := by
  have e60 : (60 : Int32) = mp_z 60 := by decide
  obtain ⟨_, _, h3, h4, e⟩ := hf
  rw [mp_zmul, e, e60, mp_zdiv (by omega) (by omega) (by omega) (by omega), Int.mul_tdiv_cancel_left _ (by omega)]
theorem mx_cnt4 {n c : Nat} {mx : Int32} {ta wa : Nat → Int32} (h5 : n ≤ 5) (hc : c < 32) {post : Int32 → Prop} (h : post (nI (mp_cnt c n))) : ∀ d k, k + d = n →
    wX_countPlaces_4 post (nI c) (nI n) mx ta wa (d + 1) (nI (mp_cnt c k)) (nI k) := by
  intro d
  induction d with
  | zero =>
    intro k hk
    obtain rfl : k = n := by omega
    exact pk_le k k (fun _ => h) (fun h => absurd h (by omega))
  | succ d ih =>
    intro k hk
    refine pk_le n k (fun h => absurd h (by omega)) (fun _ => ?_)
    rw [mp_tb c hc k (by omega)]
    exact nm_r (nI_add _ _) (nm_r (nI_1 k) (ih (k + 1) (by omega)))
theorem mx_cnt {n c : Nat} {mx : Int32} {ta wa : Nat → Int32} (h5 : n ≤ 5) (hc : c < 32) {post : Int32 → Prop} (h : post (nI (mp_cnt c n))) : wpX_countPlaces post (nI n, mx, ta, wa) (nI c) :=
  ⟨n + 1, mx_cnt4 h5 hc h n 0 (by omega)⟩
end
section
/-! the reference's private methods against the same picture -/
theorem my_done51 {n c L : Nat} {s x3 : Int32} {t : Int} {wt wb tp bt : Int32} {ow ta wa : Nat → Int32} {post : SY → Prop} (h : post (nI n, mp_z t, nI L, wt, wb, tp, bt, ow, ta, wa)) (d : Nat) :
    wY_mean_51 post (nI c) s (nI n) wt wb tp bt ow ta wa (d + 1) x3 1 (nI L) (mp_z t) (nI L) :=
  br_c (fun _ => h) (fun _ => br_f (by decide) h)
theorem my_mean51 {n p c L : Nat} {T : Nat → Nat} {W : Nat → Int} {wt wb tp bt : Int32} {ow ta wa : Nat → Int32} (hX : mp_X n T W ta wa) (hp : p < n) (hc : c < 32) (hL : L ≤ n)
    (hr : mp_at (mp_f T c) p (5 + L) = mp_at (mp_f T c) p 5) (hn : ∀ j, 1 ≤ j → j < L → mp_at (mp_f T c) p (5 + j) ≠ mp_at (mp_f T c) p 5)
    {post : SY → Prop} (h : post (nI n, mp_z (mp_sm (mp_g W c) (mp_at (mp_f T c) p) 5 L), nI L, wt, wb, tp, bt, ow, ta, wa)) : ∀ d i, i + d + 1 = L →
    wY_mean_51 post (nI c) (nI (mp_at (mp_f T c) p 5)) (nI n) wt wb tp bt ow ta wa (d + 2) (nI (mp_at (mp_f T c) p (5 + i))) 0 (nI i) (mp_z (mp_sm (mp_g W c) (mp_at (mp_f T c) p) 5 i)) (nI i) := by
  have h5 := hX.2.1
  have hs := mp_at_lt (mp_f_lt hX c) hp 5
  intro d
  induction d with
  | zero =>
    intro i hi
    have hq := mp_at_lt (mp_f_lt hX c) hp (5 + i)
    have hk := mp_ixlt c hq
    have hx := hX.2.2 _ hk
    refine pk_le 5 i (fun h => absurd h (by omega)) (fun _ => br_t rfl ?_)
    refine nm_r (mp_ix hc (by omega)) ⟨vp_in_nI (by omega) (by omega), nm_r (e' := mp_z (mp_sm (mp_g W c) (mp_at (mp_f T c) p) 5 (i + 1))) ?_
      (nm_r (nI_1 i) ⟨vp_in_nI (by omega) (by omega), nm_r (e' := nI (mp_at (mp_f T c) p (5 + (i + 1)))) ?_ ?_⟩)⟩
    · rw [nI_clamp (by omega), hx.2.2.2.2, mp_zadd]; rfl
    · rw [nI_clamp (by omega), hx.2.2.2.1]; rfl
    · obtain rfl : L = i + 1 := by omega
      rw [hr]
      exact br_t rfl (nm_r (nI_1 i) (my_done51 h 0))
  | succ d ih =>
    intro i hi
    have hq := mp_at_lt (mp_f_lt hX c) hp (5 + i)
    have hq1 := mp_at_lt (mp_f_lt hX c) hp (5 + (i + 1))
    have hk := mp_ixlt c hq
    have hx := hX.2.2 _ hk
    have hne := hn (i + 1) (by omega) (by omega)
    have ih' := ih (i + 1) (by omega)
    refine pk_le 5 i (fun h => absurd h (by omega)) (fun _ => br_t rfl ?_)
    refine nm_r (mp_ix hc (by omega)) ⟨vp_in_nI (by omega) (by omega), nm_r (e' := mp_z (mp_sm (mp_g W c) (mp_at (mp_f T c) p) 5 (i + 1))) ?_
      (nm_r (nI_1 i) ⟨vp_in_nI (by omega) (by omega), nm_r (e' := nI (mp_at (mp_f T c) p (5 + (i + 1)))) ?_ ?_⟩)⟩
    · rw [nI_clamp (by omega), hx.2.2.2.2, mp_zadd]; rfl
    · rw [nI_clamp (by omega), hx.2.2.2.1]; rfl
    · exact br_f (fun e => hne ((nI_eq (by omega) (by omega)).mp e)) (nm_r (nI_1 i) ih')
theorem my_mean5 {n p c : Nat} {T : Nat → Nat} {W : Nat → Int} {mt mb wt wb tp bt : Int32} {ow ta wa : Nat → Int32} (hX : mp_X n T W ta wa) (hp : p < n) (hc : c < 32)
    {post : SY → Prop} (h : ∀ (L : Nat) (t : Int), L ≤ n → mp_fr (mp_m n T W p c) t (L : Int) → post (nI n, mp_z t, nI L, wt, wb, tp, bt, ow, ta, wa)) : ∀ d i, i + d = 5 →
    wY_mean_5 post (nI c) (nI n) mt mb wt wb tp bt ow ta wa (d + 1) (nI (mp_at (mp_f T c) p i)) (nI i) := by
  have h5 := hX.2.1
  intro d
  induction d with
  | zero =>
    intro i hi
    obtain rfl : i = 5 := by omega
    obtain ⟨L, h1, hL, hr, hn, e⟩ := mp_cyc (mp_g W c) h5 (mp_f_lt hX c) hp
    have hb := mp_sm_bd (mp_g_bd hX c) (mp_at_lt (mp_f_lt hX c) hp) 5 L
    have hh := h L _ hL ⟨by omega, by omega, by omega, by omega, e⟩
    have e := my_mean51 hX hp hc hL hr hn hh (L - 1) 0 (by omega)
    simp only [mp_sm, mp_z0, nI_0, Nat.add_zero] at e
    exact pk_le 5 5 (fun _ => ⟨_, e⟩) (fun h => absurd h (by omega))
  | succ d ih =>
    intro i hi
    have hq := mp_at_lt (mp_f_lt hX c) hp i
    have hk := mp_ixlt c hq
    have hx := hX.2.2 _ hk
    have ih' := ih (i + 1) (by omega)
    refine pk_le 5 i (fun h => absurd h (by omega)) (fun _ => ?_)
    rw [mp_ix hc (show mp_at (mp_f T c) p i < 5 by omega)]
    refine ⟨vp_in_nI (by omega) (by omega), nm_r (e' := nI (mp_at (mp_f T c) p (i + 1))) ?_ (nm_r (nI_1 i) ih')⟩
    rw [nI_clamp (by omega), hx.2.2.2.1]; rfl
theorem my_mean {n p c : Nat} {T : Nat → Nat} {W : Nat → Int} {mt mb wt wb tp bt : Int32} {ow ta wa : Nat → Int32} (hX : mp_X n T W ta wa) (hp : p < n) (hc : c < 32)
    {post : SY → Prop} (h : ∀ (L : Nat) (t : Int), L ≤ n → mp_fr (mp_m n T W p c) t (L : Int) → post (nI n, mp_z t, nI L, wt, wb, tp, bt, ow, ta, wa)) :
    wpY_mean post (nI n, mt, mb, wt, wb, tp, bt, ow, ta, wa) (nI p) (nI c) :=
  ⟨6, my_mean5 hX hp hc h 5 0 rfl⟩
/-- the best fraction so far: none yet, or V sixtieths -/
def mp_so (n k : Nat) (V : Int) (wt wb : Int32) : Prop := (k = 0 ∧ wb = 0) ∨ (1 ≤ k ∧ ∃ t b : Int, wt = mp_z t ∧ wb = mp_z b ∧ b ≤ n ∧ mp_fr V t b)
theorem mp_fr_bd {V t b V' t' b' : Int} (h : mp_fr V t b) (h' : mp_fr V' t' b') : -1000000 ≤ t * b' ∧ t * b' ≤ 1000000 := by
  obtain ⟨_, _, _, _, _⟩ := h
  obtain ⟨h1, h2, _⟩ := h'
  rcases mp_le5i h1 h2 with rfl | rfl | rfl | rfl | rfl <;> omega
theorem my_worst8 {n p o M : Nat} {T : Nat → Nat} {W : Nat → Int} {m : Nat → Int} {tp bt : Int32} {ow ta wa : Nat → Int32} (hX : mp_X n T W ta wa) (hp : p < n) (ho : o < 2 ^ n) (hM : M < 32)
    (hm : ∀ c, c < 32 → m c = mp_m n T W p c)
    {post : SY → Prop} (h : ∀ (mt mb : Int32) (t b : Int), b ≤ n → mp_fr (mp_wo m o M (2 ^ n)) t b → post (nI n, mt, mb, mp_z t, mp_z b, tp, bt, ow, ta, wa)) : ∀ d k, k + d = 32 →
    ∀ mt mb wt wb : Int32, mp_so n k (mp_wo m o M (min k (2 ^ n))) wt wb →
    wY_worst_8 post (nI p) (nI M) (nI (2 ^ n - 1 - o)) (d + 1) (nI k) (nI n) mt mb wt wb tp bt ow ta wa := by
  have h5 := hX.2.1
  have h2 := mp_p2 hX.1 h5
  intro d
  induction d with
  | zero =>
    intro k hk mt mb wt wb hs
    obtain rfl : k = 32 := by omega
    refine pk_le 32 32 (fun _ => ?_) (fun h => absurd h (by omega))
    rcases hs with ⟨h0, _⟩ | ⟨_, t, b, rfl, rfl, hb, hf⟩
    · exact absurd h0 (by omega)
    · rw [show min 32 (2 ^ n) = 2 ^ n by omega] at hf
      exact h mt mb t b hb hf
  | succ d ih =>
    intro k hk mt mb wt wb hs
    have hk5 : k < 32 := by omega
    refine pk_le 32 k (fun h => absurd h (by omega)) (fun _ => ?_)
    refine mp_bif (mp_tandc hk5 (by omega)) (fun h0 => ?_) (fun h0 => ?_)
    · have hkn : k < 2 ^ n := by
        by_cases hh : k < 2 ^ n
        · exact hh
        · exact absurd h0 (mp_big (N := 2 ^ n) (by omega) (by omega))
      have h0' := (mp_tco n (by omega) o ho k hkn).mp h0
      rw [show min k (2 ^ n) = k by omega] at hs
      rw [mp_tor M hM k hk5]
      refine my_mean hX hp (mp_or32 hM hk5) (fun L t hL hf => ?_)
      rw [← hm _ (mp_or32 hM hk5)] at hf
      rcases hs with ⟨hk0, rfl⟩ | ⟨hk1, t', b', rfl, rfl, hb', hf'⟩
      · refine br_t rfl (nm_r (nI_1 k) ?_)
        rw [mp_zn L]
        refine ih (k + 1) (by omega) _ _ _ _ (Or.inr ⟨by omega, t, (L : Int), rfl, rfl, by omega, ?_⟩)
        rw [show min (k + 1) (2 ^ n) = k + 1 by omega, mp_wo_lt h0' ?_]
        · exact hf
        · subst hk0
          show _ < (181 : Int)
          rw [hm _ (mp_or32 hM hk5)]
          have := (mp_m_bd hX hp (M ||| 0)).2
          omega
      · have hz : ¬ mp_z b' = 0 := by
          rw [← mp_z0, mp_zeq (by have := hf'.1; omega) (by have := hf'.2.1; omega) (by omega) (by omega)]
          have := hf'.1
          omega
        refine br_f hz ?_
        have c1 := mp_fr_bd hf' hf
        have c2 := mp_fr_bd hf hf'
        refine mp_ble (t' * (L : Int)) (t * b') (fun hc => ?_) (fun hc => ?_) (by rw [mp_zn, mp_zmul]) (mp_zmul _ _) c1.1 c1.2 c2.1 c2.2
        · refine nm_r (nI_1 k) (ih (k + 1) (by omega) _ _ _ _ (Or.inr ⟨by omega, t', b', rfl, rfl, hb', ?_⟩))
          rw [show min (k + 1) (2 ^ n) = k + 1 by omega, mp_wo_ge h0' (fun hlt => ?_)]
          · exact hf'
          · have := (mp_cross hf hf').mpr hlt
            omega
        · refine nm_r (nI_1 k) ?_
          rw [mp_zn L]
          refine ih (k + 1) (by omega) _ _ _ _ (Or.inr ⟨by omega, t, (L : Int), rfl, rfl, by omega, ?_⟩)
          rw [show min (k + 1) (2 ^ n) = k + 1 by omega, mp_wo_lt h0' ((mp_cross hf hf').mp hc)]
          exact hf
    · refine nm_r (nI_1 k) (ih (k + 1) (by omega) _ _ _ _ ?_)
      have e : mp_wo m o M (min (k + 1) (2 ^ n)) = mp_wo m o M (min k (2 ^ n)) := by
        by_cases hkn : k < 2 ^ n
        · rw [show min (k + 1) (2 ^ n) = k + 1 by omega, show min k (2 ^ n) = k by omega]
          exact mp_wo_no (fun hh => h0 ((mp_tco n (by omega) o ho k hkn).mpr hh))
        · rw [show min (k + 1) (2 ^ n) = 2 ^ n by omega, show min k (2 ^ n) = 2 ^ n by omega]
      rw [e]
      rcases hs with ⟨hk0, _⟩ | ⟨_, hs⟩
      · subst hk0; exact absurd (Nat.zero_and _) h0
      · exact Or.inr ⟨by omega, hs⟩
theorem my_worst {n p o M : Nat} {T : Nat → Nat} {W : Nat → Int} {m : Nat → Int} {mt mb wt wb tp bt : Int32} {ow ta wa : Nat → Int32} (hX : mp_X n T W ta wa) (hp : p < n) (ho : o < 2 ^ n) (hM : M < 32)
    (hm : ∀ c, c < 32 → m c = mp_m n T W p c)
    {post : SY → Prop} (h : ∀ (mt mb : Int32) (t b : Int), b ≤ n → mp_fr (mp_wo m o M (2 ^ n)) t b → post (nI n, mt, mb, mp_z t, mp_z b, tp, bt, ow, ta, wa)) :
    wpY_worst post (nI n, mt, mb, wt, wb, tp, bt, ow, ta, wa) (nI p) (nI M) (nI (2 ^ n - 1 - o)) :=
  ⟨33, my_worst8 hX hp ho hM hm h 32 0 rfl _ _ _ _ (Or.inl ⟨rfl, rfl⟩)⟩
theorem my_places4 {n S : Nat} {mt mb wt wb tp bt pl : Int32} {ow ta wa : Nat → Int32} (h5 : n ≤ 5) (hS : S < 2 ^ n) (ho : ∀ q, q < n → (ow q = pl ↔ mp_bit S q = 1))
    {post : Int32 → Prop} (h : post (nI S)) : ∀ d k, k + d = n → wY_placesOf_4 post pl (nI n) mt mb wt wb tp bt ow ta wa (d + 1) (nI (S % 2 ^ k)) (nI k) := by
  have hS5 : S < 32 := Nat.lt_of_lt_of_le hS (Nat.pow_le_pow_right (n := 2) (by omega) h5)
  intro d
  induction d with
  | zero =>
    intro k hk
    obtain rfl : k = n := by omega
    refine pk_le k k (fun _ => ?_) (fun h => absurd h (by omega))
    rw [Nat.mod_eq_of_lt hS]; exact h
  | succ d ih =>
    intro k hk
    have ih' := ih (k + 1) (by omega)
    refine pk_le n k (fun h => absurd h (by omega)) (fun _ => ⟨vp_in_nI (by omega) (by omega), ?_⟩)
    rw [nI_clamp (by omega)]
    refine mp_bif (ho k (by omega)) (fun hb => ?_) (fun hb => ?_)
    · exact nm_r (by rw [mp_tsh k (by omega), mp_tin S hS5 k (by omega) hb]) (nm_r (nI_1 k) ih')
    · have hb0 : mp_bit S k = 0 := by have := mp_bit_le S k; omega
      rw [mp_tout S hS5 k (by omega) hb0] at ih'
      exact nm_r (nI_1 k) ih'
theorem my_places {n S : Nat} {mt mb wt wb tp bt pl : Int32} {ow ta wa : Nat → Int32} (h5 : n ≤ 5) (hS : S < 2 ^ n) (ho : ∀ q, q < n → (ow q = pl ↔ mp_bit S q = 1))
    {post : Int32 → Prop} (h : post (nI S)) : wpY_placesOf post (nI n, mt, mb, wt, wb, tp, bt, ow, ta, wa) pl := by
  have e := my_places4 (mt := mt) (mb := mb) (wt := wt) (wb := wb) (tp := tp) (bt := bt) (ta := ta) (wa := wa) h5 hS ho h n 0 (by omega)
  rw [Nat.pow_zero, Nat.mod_one, nI_0] at e
  exact ⟨n + 1, e⟩
end
section
/-! the reference's value: the loop over MAX's choices, then the reduction -/
theorem my_red97 {n : Nat} {V : Int} {mt mb wt wb : Int32} {ow ta wa : Nat → Int32}
    {post : SY → Prop} (h : ∀ t b : Int, b ≤ n → mp_fr V t b → mp_low t b → post (nI n, mt, mb, wt, wb, mp_z t, mp_z b, ow, ta, wa)) : ∀ d : Nat, d < 5 → ∀ t b : Int, b ≤ n → mp_fr V t b → mp_red ((d : Int) + 1) t b →
    wY_value_97 post (nI n) mt mb wt wb ow ta wa (d + 1) (nI (d + 1)) (mp_z t) (mp_z b) := by
  intro d
  induction d with
  | zero =>
    intro _ t b hb hf hr
    exact pk_le 1 1 (fun _ => h t b hb hf (mp_red_low hf.1 hf.2.1 hr)) (fun h => absurd h (by omega))
  | succ d ih =>
    intro hd t b hb hf hr
    have hf' := hf
    obtain ⟨h1, h2, h3, h4, e⟩ := hf'
    have hz : ¬ nI (d + 1 + 1) = 0 := nI_ne0 (by omega) (by omega)
    have ez : nI (d + 1 + 1) = mp_z ((d : Int) + 2) := by rw [mp_zn]; rfl
    have em : nI (d + 1 + 1) + (-1) = nI (d + 1) := pk_m1 (d + 1)
    have e1 : (mp_z t - mp_z t / nI (d + 1 + 1) * nI (d + 1 + 1)) = 0 ↔ ((d : Int) + 2) ∣ t := by
      rw [ez]; exact mp_zrem0 _ (by omega) (by omega) (by omega) (by omega)
    have e2 : (mp_z b - mp_z b / nI (d + 1 + 1) * nI (d + 1 + 1)) = 0 ↔ ((d : Int) + 2) ∣ b := by
      rw [ez]; exact mp_zrem0 _ (by omega) (by omega) (by omega) (by omega)
    have er : (((d + 1 : Nat) : Int) + 1) = (d : Int) + 2 := by omega
    rw [er] at hr
    refine pk_le (d + 1 + 1) 1 (fun h => absurd h (by omega)) (fun _ => ⟨hz, mp_bif e1 (fun ht => ⟨hz, mp_bif e2 (fun hbd => ⟨hz, ?_⟩) (fun hn => ?_)⟩) (fun hn => ?_)⟩)
    · obtain ⟨t', b', rfl, rfl, hf', hr'⟩ := mp_red_yes (by omega) (by omega) hf hr ht hbd
      have ih' := ih (by omega) t' b' (by
        have h7 := hf'.1
        have hd4 : d = 0 ∨ d = 1 ∨ d = 2 ∨ d = 3 := by omega
        rcases hd4 with rfl | rfl | rfl | rfl <;> omega) hf' (by rw [show (d : Int) + 1 = (d : Int) + 2 - 1 by omega]; exact hr')
      refine nm_r (e' := mp_z t') ?_ ⟨hz, nm_r (e' := mp_z b') ?_ (nm_r em ih')⟩
      · rw [ez, mp_zdiv (by omega) (by omega) (by omega) (by omega), Int.mul_tdiv_cancel_left _ (by omega)]
      · rw [ez, mp_zdiv (by omega) (by omega) (by omega) (by omega), Int.mul_tdiv_cancel_left _ (by omega)]
    · have hr' := mp_red_no hr (fun hh => hn hh.2)
      rw [show (d : Int) + 2 - 1 = (d : Int) + 1 by omega] at hr'
      exact nm_r em (ih (by omega) t b hb hf hr')
    · have hr' := mp_red_no hr (fun hh => hn hh.1)
      rw [show (d : Int) + 2 - 1 = (d : Int) + 1 by omega] at hr'
      exact nm_r em (ih (by omega) t b hb hf hr')
theorem my_value20 {n p o : Nat} {T : Nat → Nat} {W : Nat → Int} {m : Nat → Int} {ow ta wa : Nat → Int32} (hX : mp_X n T W ta wa) (hp : p < n) (ho : o < 2 ^ n)
    (hm : ∀ c, c < 32 → m c = mp_m n T W p c)
    {post : SY → Prop} (h : ∀ (mt mb wt wb : Int32) (t b : Int), b ≤ n → mp_fr (mp_val n m o) t b → mp_low t b → post (nI n, mt, mb, wt, wb, mp_z t, mp_z b, ow, ta, wa)) : ∀ d k, k + d = 32 →
    ∀ mt mb wt wb tp bt : Int32, mp_so n k (mp_va (fun M => mp_wo m o M (2 ^ n)) o (min k (2 ^ n))) tp bt →
    wY_value_20 post (nI p) (nI o) (nI (2 ^ n - 1 - o)) (d + 1) (nI k) (nI n) mt mb wt wb tp bt ow ta wa := by
  have h5 := hX.2.1
  have h2 := mp_p2 hX.1 h5
  have hok : mp_ok m := fun c hc => by rw [hm c hc]; exact mp_m_bd hX hp c
  have hok2 := mp_wo_ok hX.1 h5 hok o
  intro d
  induction d with
  | zero =>
    intro k hk mt mb wt wb tp bt hs
    obtain rfl : k = 32 := by omega
    refine pk_le 32 32 (fun _ => ?_) (fun h => absurd h (by omega))
    rcases hs with ⟨h0, _⟩ | ⟨_, t, b, rfl, rfl, hb, hf⟩
    · exact absurd h0 (by omega)
    · rw [show min 32 (2 ^ n) = 2 ^ n by omega] at hf
      exact ⟨5, my_red97 (h mt mb wt wb) 4 (by omega) t b hb hf (fun e h1 h2 _ => by omega)⟩
  | succ d ih =>
    intro k hk mt mb wt wb tp bt hs
    have hk5 : k < 32 := by omega
    refine pk_le 32 k (fun h => absurd h (by omega)) (fun _ => ?_)
    refine mp_bif (mp_tandc hk5 (by omega)) (fun h0 => ?_) (fun h0 => ?_)
    · have hkn : k < 2 ^ n := by
        by_cases hh : k < 2 ^ n
        · exact hh
        · exact absurd h0 (mp_big (N := 2 ^ n) (by omega) (by omega))
      rw [show min k (2 ^ n) = k by omega] at hs
      refine my_worst hX hp ho hk5 hm (fun mt mb t b hb hf => ?_)
      rcases hs with ⟨hk0, rfl⟩ | ⟨hk1, t', b', rfl, rfl, hb', hf'⟩
      · refine br_t rfl (nm_r (nI_1 k) ?_)
        refine ih (k + 1) (by omega) _ _ _ _ _ _ (Or.inr ⟨by omega, t, b, rfl, rfl, hb, ?_⟩)
        rw [show min (k + 1) (2 ^ n) = k + 1 by omega, mp_va_lt h0 ?_]
        · exact hf
        · subst hk0
          show (-181 : Int) < _
          have h7 : -180 ≤ mp_wo m o 0 (2 ^ n) := (hok2 0 (by omega)).1
          omega
      · have hz : ¬ mp_z b' = 0 := by
          rw [← mp_z0, mp_zeq (by have := hf'.1; omega) (by have := hf'.2.1; omega) (by omega) (by omega)]
          have := hf'.1
          omega
        refine br_f hz ?_
        have c1 := mp_fr_bd hf' hf
        have c2 := mp_fr_bd hf hf'
        refine mp_ble (t * b') (t' * b) (fun hc => ?_) (fun hc => ?_) (mp_zmul _ _) (mp_zmul _ _) c2.1 c2.2 c1.1 c1.2
        · refine nm_r (nI_1 k) (ih (k + 1) (by omega) _ _ _ _ _ _ (Or.inr ⟨by omega, t', b', rfl, rfl, hb', ?_⟩))
          rw [show min (k + 1) (2 ^ n) = k + 1 by omega, mp_va_ge h0 (fun hlt => ?_)]
          · exact hf'
          · have := (mp_cross hf' hf).mpr hlt
            omega
        · refine nm_r (nI_1 k) (ih (k + 1) (by omega) _ _ _ _ _ _ (Or.inr ⟨by omega, t, b, rfl, rfl, hb, ?_⟩))
          rw [show min (k + 1) (2 ^ n) = k + 1 by omega, mp_va_lt h0 ((mp_cross hf' hf).mp hc)]
          exact hf
    · refine nm_r (nI_1 k) (ih (k + 1) (by omega) _ _ _ _ _ _ ?_)
      have e : mp_va (fun M => mp_wo m o M (2 ^ n)) o (min (k + 1) (2 ^ n)) = mp_va (fun M => mp_wo m o M (2 ^ n)) o (min k (2 ^ n)) := by
        by_cases hkn : k < 2 ^ n
        · rw [show min (k + 1) (2 ^ n) = k + 1 by omega, show min k (2 ^ n) = k by omega]
          exact mp_va_no h0
        · rw [show min (k + 1) (2 ^ n) = 2 ^ n by omega, show min k (2 ^ n) = 2 ^ n by omega]
      rw [e]
      rcases hs with ⟨hk0, _⟩ | ⟨_, hs⟩
      · subst hk0; exact absurd (Nat.zero_and _) h0
      · exact Or.inr ⟨by omega, hs⟩
theorem mp_own1 {n o : Nat} {ow : Nat → Int32} (hO : ∀ q, q < n → ow q = nI (mp_bit o q)) : ∀ q, q < n → (ow q = 1 ↔ mp_bit o q = 1) := by
  intro q hq
  have := mp_bit_le o q
  rw [hO q hq]
  exact nI_eq (b := 1) (by omega) (by omega)
theorem mp_own0 {n o : Nat} {ow : Nat → Int32} (h5 : n ≤ 5) (ho : o < 2 ^ n) (hO : ∀ q, q < n → ow q = nI (mp_bit o q)) : ∀ q, q < n → (ow q = 0 ↔ mp_bit (2 ^ n - 1 - o) q = 1) := by
  intro q hq
  have h1 := mp_bit_le o q
  rw [hO q hq, mp_mir_bit n (by omega) o ho q hq, ← nI_0, nI_eq (by omega) (by omega)]
  omega
theorem my_value {n p o : Nat} {T : Nat → Nat} {W : Nat → Int} {m : Nat → Int} {mt mb wt wb tp bt : Int32} {ow ta wa : Nat → Int32} (hX : mp_X n T W ta wa) (hp : p < n) (ho : o < 2 ^ n)
    (hO : ∀ q, q < n → ow q = nI (mp_bit o q)) (hm : ∀ c, c < 32 → m c = mp_m n T W p c)
    {post : SY → Prop} (h : ∀ (mt mb wt wb : Int32) (t b : Int), b ≤ n → mp_fr (mp_val n m o) t b → mp_low t b → post (nI n, mt, mb, wt, wb, mp_z t, mp_z b, ow, ta, wa)) :
    wpY_value post (nI n, mt, mb, wt, wb, tp, bt, ow, ta, wa) (nI p) := by
  have h5 := hX.2.1
  have h2 := mp_p2 hX.1 h5
  unfold wpY_value
  dsimp only
  refine my_places h5 ho (mp_own1 hO) ?_
  refine my_places (S := 2 ^ n - 1 - o) h5 (by omega) (mp_own0 h5 ho hO) ?_
  exact ⟨33, my_value20 hX hp ho hm h 32 0 rfl _ _ _ _ _ _ (Or.inl ⟨rfl, rfl⟩)⟩
end
section
/-! the relation; the checks of arguments on both sides -/
/-- both hold the same game: n places, MAX's places M, targets T and weights W up to 2 * n; the reference's six scratch fields are free -/
def i_Rel (_k : Nat) (u : SX) (v : SY) : Prop :=
  ∃ (n M : Nat) (T : Nat → Nat) (W : Nat → Int) (ta wa ow tb wc : Nat → Int32) (mt mb wt wb tp bt : Int32),
    u = (nI n, nI M, ta, wa) ∧ v = (nI n, mt, mb, wt, wb, tp, bt, ow, tb, wc) ∧ mp_X n T W ta wa ∧ mp_X n T W tb wc ∧ M < 2 ^ n ∧ ∀ q, q < n → ow q = nI (mp_bit M q)
theorem mp_rel {k n M : Nat} {T : Nat → Nat} {W : Nat → Int} {ta wa ow tb wc : Nat → Int32} {mt mb wt wb tp bt : Int32} (hX : mp_X n T W ta wa) (hY : mp_X n T W tb wc) (hM : M < 2 ^ n) (hO : ∀ q, q < n → ow q = nI (mp_bit M q)) :
    i_Rel k (nI n, nI M, ta, wa) (nI n, mt, mb, wt, wb, tp, bt, ow, tb, wc) :=
  ⟨n, M, T, W, ta, wa, ow, tb, wc, mt, mb, wt, wb, tp, bt, rfl, rfl, hX, hY, hM, hO⟩
theorem mp_M32 {n M : Nat} (h5 : n ≤ 5) (hM : M < 2 ^ n) : M < 32 := Nat.lt_of_lt_of_le hM (Nat.pow_le_pow_right (n := 2) (by omega) h5)
theorem mx_place {n p : Nat} {mx : Int32} {ta wa : Nat → Int32} (h5 : n ≤ 5) (hp : p < n) {post : Int32 → Prop} (h : post 1) : wpX_isPlace post (nI n, mx, ta, wa) (nI p) :=
  pk_lt p 0 (fun h => absurd h (by omega)) (fun _ => pk_le n p (fun h => absurd h (by omega)) (fun _ => h))
theorem mx_noplace {n : Nat} {mx x : Int32} {ta wa : Nat → Int32} (hx : x < 0 ∨ nI n ≤ x) {post : Int32 → Prop} (h : post 0) : wpX_isPlace post (nI n, mx, ta, wa) x :=
  br_c (fun _ => h) (fun h1 => br_c (fun _ => h) (fun h2 => hx.elim (fun z => absurd z h1) (fun z => absurd z h2)))
theorem my_place {n p : Nat} {mt mb wt wb tp bt : Int32} {ow ta wa : Nat → Int32} (h5 : n ≤ 5) (hp : p < n) {post : Int32 → Prop} (h : post 1) : wpY_isPlace post (nI n, mt, mb, wt, wb, tp, bt, ow, ta, wa) (nI p) :=
  pk_lt p 0 (fun h => absurd h (by omega)) (fun _ => pk_le n p (fun h => absurd h (by omega)) (fun _ => h))
theorem my_noplace {n : Nat} {x mt mb wt wb tp bt : Int32} {ow ta wa : Nat → Int32} (hx : x < 0 ∨ nI n ≤ x) {post : Int32 → Prop} (h : post 0) : wpY_isPlace post (nI n, mt, mb, wt, wb, tp, bt, ow, ta, wa) x :=
  br_c (fun _ => h) (fun h1 => br_c (fun _ => h) (fun h2 => hx.elim (fun z => absurd z h1) (fun z => absurd z h2)))
theorem mp_pl (x : Int32) {n : Nat} (h5 : n ≤ 5) : (x < 0 ∨ nI n ≤ x) ∨ ∃ p : Nat, p < n ∧ x = nI p := by
  rcases pk_ix x (n := n) (by omega) with h | h | h
  · exact Or.inl (Or.inl h)
  · exact Or.inl (Or.inr h)
  · exact Or.inr h
theorem mp_mv (x : Int32) : (¬ x = 0 ∧ ¬ x = 1) ∨ ∃ m : Nat, m < 2 ∧ x = nI m := by
  by_cases h : x = 0
  · exact Or.inr ⟨0, by omega, h⟩
  · by_cases h1 : x = 1
    · exact Or.inr ⟨1, by omega, h1⟩
    · exact Or.inl ⟨h, h1⟩
theorem mp_m01 {m : Nat} (h : m < 2) : m = 0 ∨ m = 1 := by omega
theorem mx_move {n p m : Nat} {mx : Int32} {ta wa : Nat → Int32} (h5 : n ≤ 5) (hp : p < n) (hm : m < 2) {post : Int32 → Prop} (h : post 1) : wpX_isMove post (nI n, mx, ta, wa) (nI p) (nI m) := by
  unfold wpX_isMove
  dsimp only
  refine mx_place h5 hp (br_f (by decide) ?_)
  rcases mp_m01 hm with rfl | rfl
  · exact br_t rfl h
  · exact br_f (by decide) (br_t rfl h)
theorem mx_nomove {n : Nat} {mx x y : Int32} {ta wa : Nat → Int32} (h5 : n ≤ 5) (hx : (x < 0 ∨ nI n ≤ x) ∨ (¬ y = 0 ∧ ¬ y = 1)) {post : Int32 → Prop} (h : post 0) : wpX_isMove post (nI n, mx, ta, wa) x y := by
  unfold wpX_isMove
  dsimp only
  rcases hx with hx | ⟨h1, h2⟩
  · exact mx_noplace hx (br_t rfl h)
  · rcases mp_pl x h5 with hn | ⟨p, hp, rfl⟩
    · exact mx_noplace hn (br_t rfl h)
    · exact mx_place h5 hp (br_f (by decide) (br_f h1 (br_f h2 h)))
theorem my_move {n p m : Nat} {mt mb wt wb tp bt : Int32} {ow ta wa : Nat → Int32} (h5 : n ≤ 5) (hp : p < n) (hm : m < 2) {post : Int32 → Prop} (h : post 1) : wpY_isMove post (nI n, mt, mb, wt, wb, tp, bt, ow, ta, wa) (nI p) (nI m) := by
  unfold wpY_isMove
  dsimp only
  refine my_place h5 hp (br_f (by decide) ?_)
  rcases mp_m01 hm with rfl | rfl
  · exact br_t rfl h
  · exact br_f (by decide) (br_t rfl h)
theorem my_nomove {n : Nat} {x y mt mb wt wb tp bt : Int32} {ow ta wa : Nat → Int32} (h5 : n ≤ 5) (hx : (x < 0 ∨ nI n ≤ x) ∨ (¬ y = 0 ∧ ¬ y = 1)) {post : Int32 → Prop} (h : post 0) : wpY_isMove post (nI n, mt, mb, wt, wb, tp, bt, ow, ta, wa) x y := by
  unfold wpY_isMove
  dsimp only
  rcases hx with hx | ⟨h1, h2⟩
  · exact my_noplace hx (br_t rfl h)
  · rcases mp_pl x h5 with hn | ⟨p, hp, rfl⟩
    · exact my_noplace hn (br_t rfl h)
    · exact my_place h5 hp (br_f (by decide) (br_f h1 (br_f h2 h)))
theorem mp_pm (x y : Int32) {n : Nat} (h5 : n ≤ 5) : ((x < 0 ∨ nI n ≤ x) ∨ (¬ y = 0 ∧ ¬ y = 1)) ∨ ∃ p m : Nat, p < n ∧ m < 2 ∧ x = nI p ∧ y = nI m := by
  rcases mp_pl x h5 with h | ⟨p, hp, rfl⟩
  · exact Or.inl (Or.inl h)
  · rcases mp_mv y with h | ⟨m, hm, rfl⟩
    · exact Or.inl (Or.inr h)
    · exact Or.inr ⟨p, m, hp, hm, rfl, rfl⟩
/-- a number is below -K, above K, or a small whole number -/
theorem mp_wi (x : Int32) {y : Int32} (K : Int) (hy : y = mp_z K) (h0 : 0 ≤ K) (h1 : K ≤ 1000) : (x < -y ∨ y < x) ∨ ∃ w : Int, -K ≤ w ∧ w ≤ K ∧ x = mp_z w := by
  subst hy
  by_cases a : x < -mp_z K
  · exact Or.inl (Or.inl a)
  · by_cases b : mp_z K < x
    · exact Or.inl (Or.inr b)
    · rw [Int32.lt_iff_toInt_lt, mp_zneg, mp_zt (by omega) (by omega)] at a
      rw [Int32.lt_iff_toInt_lt, mp_zt (by omega) (by omega)] at b
      exact Or.inr ⟨x.toInt, by omega, by omega, (Int32.ofInt_toInt x).symm⟩
theorem mx_within {w K : Int} {y : Int32} (hy : y = mp_z K) (h0 : 0 ≤ K) (h1 : K ≤ 1000) (h2 : -K ≤ w) (h3 : w ≤ K) {post : Int32 → Prop} (h : post 1) : wpX_isWithin post (mp_z w) y :=
  mp_blt w (-K) (fun h => absurd h (by omega)) (fun _ => mp_blt K w (fun h => absurd h (by omega)) (fun _ => h) hy rfl) rfl (by rw [hy, mp_zneg])
theorem mx_nowithin {x y : Int32} (hx : x < -y ∨ y < x) {post : Int32 → Prop} (h : post 0) : wpX_isWithin post x y :=
  br_c (fun _ => h) (fun h1 => br_c (fun _ => h) (fun h2 => hx.elim (fun z => absurd z h1) (fun z => absurd z h2)))
theorem mp_frc (x y : Int32) : (x < -100 ∨ 100 < x ∨ y < 1 ∨ 20 < y) ∨ ∃ a c : Int, -100 ≤ a ∧ a ≤ 100 ∧ 1 ≤ c ∧ c ≤ 20 ∧ x = mp_z a ∧ y = mp_z c := by
  rcases mp_wi x (y := 100) 100 (by decide) (by omega) (by omega) with (h | h) | ⟨a, h1, h2, rfl⟩
  · exact Or.inl (Or.inl h)
  · exact Or.inl (Or.inr (Or.inl h))
  · by_cases b1 : y < 1
    · exact Or.inl (Or.inr (Or.inr (Or.inl b1)))
    · by_cases b2 : 20 < y
      · exact Or.inl (Or.inr (Or.inr (Or.inr b2)))
      · rw [Int32.lt_iff_toInt_lt, show (1 : Int32).toInt = 1 by decide] at b1
        rw [Int32.lt_iff_toInt_lt, show (20 : Int32).toInt = 20 by decide] at b2
        exact Or.inr ⟨a, y.toInt, h1, h2, by omega, by omega, rfl, (Int32.ofInt_toInt y).symm⟩
theorem mx_frac {a c : Int} (h1 : -100 ≤ a) (h2 : a ≤ 100) (h3 : 1 ≤ c) (h4 : c ≤ 20) {post : Int32 → Prop} (h : post 1) : wpX_isFraction post (mp_z a) (mp_z c) :=
  mx_within (K := 100) (by decide) (by omega) (by omega) h1 h2 (br_f (by decide) (mp_blt c 1 (fun h => absurd h (by omega)) (fun _ => mp_blt 20 c (fun h => absurd h (by omega)) (fun _ => h) (by decide) rfl) rfl (by decide)))
theorem mx_nofrac {x y : Int32} (hx : x < -100 ∨ 100 < x ∨ y < 1 ∨ 20 < y) {post : Int32 → Prop} (h : post 0) : wpX_isFraction post x y :=
  br_c (fun _ => br_t rfl h) (fun n1 => br_c (fun _ => br_t rfl h) (fun n2 => br_f (by decide) (br_c (fun _ => h) (fun n3 => br_c (fun _ => h) (fun n4 =>
    hx.elim (fun z => absurd z n1) (fun z => z.elim (fun z => absurd z n2) (fun z => z.elim (fun z => absurd z n3) (fun z => absurd z n4))))))))
theorem my_bound {n : Nat} {a c : Int} {mt mb wt wb tp bt : Int32} {ow ta wa : Nat → Int32} (h1 : -100 ≤ a) (h2 : a ≤ 100) (h3 : 1 ≤ c) (h4 : c ≤ 20) {post : Int32 → Prop} (h : post 1) : wpY_isBound post (nI n, mt, mb, wt, wb, tp, bt, ow, ta, wa) (mp_z a) (mp_z c) :=
  mp_blt a (-100) (fun h => absurd h (by omega)) (fun _ => mp_blt 100 a (fun h => absurd h (by omega)) (fun _ =>
    mp_blt c 1 (fun h => absurd h (by omega)) (fun _ => mp_blt 20 c (fun h => absurd h (by omega)) (fun _ => h) (by decide) rfl) rfl (by decide)) (by decide) rfl) rfl (by decide)
theorem my_nobound {n : Nat} {x y mt mb wt wb tp bt : Int32} {ow ta wa : Nat → Int32} (hx : x < -100 ∨ 100 < x ∨ y < 1 ∨ 20 < y) {post : Int32 → Prop} (h : post 0) : wpY_isBound post (nI n, mt, mb, wt, wb, tp, bt, ow, ta, wa) x y :=
  br_c (fun _ => h) (fun n1 => br_c (fun _ => h) (fun n2 => br_c (fun _ => h) (fun n3 => br_c (fun _ => h) (fun n4 =>
    hx.elim (fun z => absurd z n1) (fun z => z.elim (fun z => absurd z n2) (fun z => z.elim (fun z => absurd z n3) (fun z => absurd z n4)))))))
theorem mp_ipm (p m : Nat) : (2 * nI p) + nI m = nI (2 * p + m) := by rw [mp_2, nI_add]
theorem mp_X_upd {n k q : Nat} {w : Int} {T : Nat → Nat} {W : Nat → Int} {ta wa : Nat → Int32} (hX : mp_X n T W ta wa) (hq : q < n) (h1 : -3 ≤ w) (h2 : w ≤ 3) :
    mp_X n (fun i => if i = k then q else T i) (fun i => if i = k then w else W i) (upd ta k (nI q)) (upd wa k (mp_z w)) := by
  refine ⟨hX.1, hX.2.1, fun i hi => ?_⟩
  have hx := hX.2.2 i hi
  by_cases e : i = k
  · subst e
    simp only [if_pos, pk_us]
    exact ⟨hq, h1, h2, trivial, trivial⟩
  · simp only [if_neg e, pk_un e]
    exact hx
end
section
/-! places, owner, move, target, weight -/
theorem i_up {k : Nat} {u : SX} {v : SY} (h : i_Rel k u v) : i_Rel (k + 5) u v := h
theorem i_vc_places {k : Nat} {u : SX} {v : SY} (I : i_Rel k u v) (hk : k + 5 ≤ 2561) : wpX_places (fun r => wpY_places (fun r' => r' = r ∧ i_Rel (k + 5) u v) v) u := by
  have R : i_Rel (k + 5) u v := I
  obtain ⟨n, M, T, W, ta, wa, ow, tb, wc, mt, mb, wt, wb, tp, bt, rfl, rfl, hX, hY, hM, hO⟩ := I
  exact ⟨rfl, R⟩
theorem i_vc_owner {k : Nat} {u : SX} {v : SY} (I : i_Rel k u v) (hk : k + 5 ≤ 2561) (v1 : Int32) (v2 : Int32) : wpX_owner (fun r u' => wpY_owner (fun r' v' => r' = r ∧ i_Rel (k + 5) u' v') v v1 v2) u v1 v2 := by
  have R : i_Rel (k + 5) u v := I
  obtain ⟨n, M, T, W, ta, wa, ow, tb, wc, mt, mb, wt, wb, tp, bt, rfl, rfl, hX, hY, hM, hO⟩ := I
  have h5 := hX.2.1
  have hM5 := mp_M32 h5 hM
  unfold wpX_owner
  dsimp only
  rcases mp_pl v1 h5 with h | ⟨p, hp, rfl⟩
  · refine mx_noplace h (br_t rfl ?_)
    unfold wpY_owner
    dsimp only
    exact my_noplace h (br_t rfl ⟨rfl, R⟩)
  · refine mx_place h5 hp (br_f (by decide) ?_)
    rcases mp_mv v2 with ⟨h0, h1⟩ | ⟨m, hm, rfl⟩
    · refine br_f h0 (br_f h1 ?_)
      unfold wpY_owner
      dsimp only
      refine my_place h5 hp (br_f (by decide) (br_c (fun _ => ⟨rfl, R⟩) (fun hn => br_f (fun hle => ?_) ⟨rfl, R⟩)))
      obtain ⟨j, hj, rfl⟩ := nI_of2 (M := 1) (n := 1) (by decide) hn hle
      have hj' : j = 0 ∨ j = 1 := by omega
      rcases hj' with rfl | rfl
      · exact h0 rfl
      · exact h1 rfl
    · have key : wX_owner_20 (fun r u' => wpY_owner (fun r' v' => r' = r ∧ i_Rel (k + 5) u' v') (nI n, mt, mb, wt, wb, tp, bt, ow, tb, wc) (nI p) (nI m)) (nI p) (nI m) (nI n) (nI M) ta wa := by
        refine nm_r (mp_tb M hM5 p (by omega)) (nm_r (mp_tset M hM5 p (by omega) m hm) ?_)
        unfold wpY_owner
        dsimp only
        refine my_place h5 hp (br_f (by decide) (pk_lt m 0 (fun h => absurd h (by omega)) (fun _ => pk_le m 1 (fun _ => ?_) (fun h => absurd h (by omega)))))
        refine ⟨vp_in_nI (by omega) (by omega), nm_e ⟨vp_in_nI (by omega) (by omega), nm_e ⟨?_, ?_⟩⟩⟩
        · rw [nI_clamp (by omega)]; exact hO p hp
        · rw [nI_clamp (by omega)]
          refine mp_rel hX hY (mp_set_lt n (by omega) M hM p hp m hm) (fun q hq => ?_)
          rw [mp_set_bit M hM5 p (by omega) m hm q (by omega)]
          by_cases e : q = p
          · subst e; rw [pk_us, if_pos rfl]
          · rw [pk_un e, if_neg e]; exact hO q hq
      rcases mp_m01 hm with rfl | rfl
      · exact br_t rfl key
      · exact br_f (by decide) (br_t rfl key)
theorem i_vc_move {k : Nat} {u : SX} {v : SY} (I : i_Rel k u v) (hk : k + 5 ≤ 2561) (v1 : Int32) (v2 : Int32) (v3 : Int32) (v4 : Int32) : wpX_move (fun r u' => wpY_move (fun r' v' => r' = r ∧ i_Rel (k + 5) u' v') v v1 v2 v3 v4) u v1 v2 v3 v4 := by
  have R : i_Rel (k + 5) u v := I
  obtain ⟨n, M, T, W, ta, wa, ow, tb, wc, mt, mb, wt, wb, tp, bt, rfl, rfl, hX, hY, hM, hO⟩ := I
  have h5 := hX.2.1
  unfold wpX_move
  dsimp only
  rcases mp_pm v1 v2 h5 with h | ⟨p, m, hp, hm, rfl, rfl⟩
  · refine mx_nomove h5 h (br_t rfl ?_)
    unfold wpY_move
    dsimp only
    exact my_nomove h5 h (br_t rfl ⟨rfl, R⟩)
  · refine mx_move h5 hp hm (br_f (by decide) ?_)
    rcases mp_pl v3 h5 with h | ⟨q, hq, rfl⟩
    · refine mx_noplace h (br_t rfl ?_)
      unfold wpY_move
      dsimp only
      exact my_move h5 hp hm (br_f (by decide) (my_noplace h (br_t rfl ⟨rfl, R⟩)))
    · refine mx_place h5 hq (br_f (by decide) ?_)
      rcases mp_wi v4 (y := 3) 3 (by decide) (by omega) (by omega) with h | ⟨w, h1, h2, rfl⟩
      · refine mx_nowithin h (br_t rfl ?_)
        unfold wpY_move
        dsimp only
        refine my_move h5 hp hm (br_f (by decide) (my_place h5 hq (br_f (by decide) (br_c (fun _ => ⟨rfl, R⟩) (fun hn => br_f (fun hle => ?_) ⟨rfl, R⟩)))))
        exact h.elim (fun z => hn z) (fun z => Int32.not_le.mpr z hle)
      · refine mx_within (K := 3) (by decide) (by omega) (by omega) h1 h2 (br_f (by decide) ?_)
        rw [mp_ipm, nI_clamp (by omega)]
        refine ⟨vp_in_nI (by omega) (by omega), nm_e ⟨vp_in_nI (by omega) (by omega), nm_e ?_⟩⟩
        unfold wpY_move
        dsimp only
        refine my_move h5 hp hm (br_f (by decide) (my_place h5 hq (br_f (by decide) (mp_blt w (-3) (fun h => absurd h (by omega)) (fun _ => mp_ble w 3 (fun _ => ?_) (fun h => absurd h (by omega)) rfl (by decide)) rfl (by decide)))))
        rw [mp_ipm, nI_clamp (by omega)]
        exact ⟨vp_in_nI (by omega) (by omega), nm_e ⟨vp_in_nI (by omega) (by omega), nm_e ⟨rfl, mp_rel (mp_X_upd hX hq h1 h2) (mp_X_upd hY hq h1 h2) hM hO⟩⟩⟩
theorem i_vc_target {k : Nat} {u : SX} {v : SY} (I : i_Rel k u v) (hk : k + 5 ≤ 2561) (v1 : Int32) (v2 : Int32) : wpX_target (fun r => wpY_target (fun r' => r' = r ∧ i_Rel (k + 5) u v) v v1 v2) u v1 v2 := by
  have R : i_Rel (k + 5) u v := I
  obtain ⟨n, M, T, W, ta, wa, ow, tb, wc, mt, mb, wt, wb, tp, bt, rfl, rfl, hX, hY, hM, hO⟩ := I
  have h5 := hX.2.1
  unfold wpX_target
  dsimp only
  rcases mp_pm v1 v2 h5 with h | ⟨p, m, hp, hm, rfl, rfl⟩
  · refine mx_nomove h5 h (br_t rfl ?_)
    unfold wpY_target
    dsimp only
    exact my_nomove h5 h (br_t rfl ⟨rfl, R⟩)
  · refine mx_move h5 hp hm (br_f (by decide) ?_)
    rw [mp_ipm, nI_clamp (by omega)]
    refine ⟨vp_in_nI (by omega) (by omega), ?_⟩
    unfold wpY_target
    dsimp only
    refine my_move h5 hp hm (br_f (by decide) ?_)
    rw [mp_ipm, nI_clamp (by omega)]
    refine ⟨vp_in_nI (by omega) (by omega), ?_, R⟩
    rw [(hX.2.2 _ (by omega)).2.2.2.1, (hY.2.2 _ (by omega)).2.2.2.1]
theorem i_vc_weight {k : Nat} {u : SX} {v : SY} (I : i_Rel k u v) (hk : k + 5 ≤ 2561) (v1 : Int32) (v2 : Int32) : wpX_weight (fun r => wpY_weight (fun r' => r' = r ∧ i_Rel (k + 5) u v) v v1 v2) u v1 v2 := by
  have R : i_Rel (k + 5) u v := I
  obtain ⟨n, M, T, W, ta, wa, ow, tb, wc, mt, mb, wt, wb, tp, bt, rfl, rfl, hX, hY, hM, hO⟩ := I
  have h5 := hX.2.1
  unfold wpX_weight
  dsimp only
  rcases mp_pm v1 v2 h5 with h | ⟨p, m, hp, hm, rfl, rfl⟩
  · refine mx_nomove h5 h (br_t rfl ?_)
    unfold wpY_weight
    dsimp only
    exact my_nomove h5 h (br_t rfl ⟨rfl, R⟩)
  · refine mx_move h5 hp hm (br_f (by decide) ?_)
    rw [mp_ipm, nI_clamp (by omega)]
    refine ⟨vp_in_nI (by omega) (by omega), ?_⟩
    unfold wpY_weight
    dsimp only
    refine my_move h5 hp hm (br_f (by decide) ?_)
    rw [mp_ipm, nI_clamp (by omega)]
    refine ⟨vp_in_nI (by omega) (by omega), ?_, R⟩
    rw [(hX.2.2 _ (by omega)).2.2.2.2, (hY.2.2 _ (by omega)).2.2.2.2]
end
section
/-! the value is a fraction in lowest terms; numerator, denominator, atLeast, sixtieths, winning -/
theorem mp_wo_at {m : Nat → Int} (h : mp_ok m) (o : Nat) {M : Nat} (hM : M < 32) : ∀ k, k < 32 → ∃ c, c < 32 ∧ mp_wo m o M (k + 1) = m c := by
  intro k
  induction k with
  | zero =>
    intro _
    have h2 := h (M ||| 0) (mp_or32 hM (by omega))
    have e0 : mp_wo m o M 0 = 181 := rfl
    exact ⟨M ||| 0, mp_or32 hM (by omega), mp_wo_lt (Nat.zero_and o) (by rw [e0]; omega)⟩
  | succ k ih =>
    intro hk
    by_cases h0 : (k + 1) &&& o = 0
    · by_cases h1 : m (M ||| (k + 1)) < mp_wo m o M (k + 1)
      · exact ⟨M ||| (k + 1), mp_or32 hM (by omega), mp_wo_lt h0 h1⟩
      · rw [mp_wo_ge h0 h1]; exact ih (by omega)
    · rw [mp_wo_no h0]; exact ih (by omega)
theorem mp_va_at {w : Nat → Int} (h : mp_ok w) (o : Nat) : ∀ k, k < 32 → ∃ c, c < 32 ∧ mp_va w o (k + 1) = w c := by
  intro k
  induction k with
  | zero =>
    intro _
    have h2 := h 0 (by omega)
    have e0 : mp_va w o 0 = -181 := rfl
    exact ⟨0, by omega, mp_va_lt (Nat.zero_and o) (by rw [e0]; omega)⟩
  | succ k ih =>
    intro hk
    by_cases h0 : (k + 1) &&& o = k + 1
    · by_cases h1 : mp_va w o (k + 1) < w (k + 1)
      · exact ⟨k + 1, by omega, mp_va_lt h0 h1⟩
      · rw [mp_va_ge h0 h1]; exact ih (by omega)
    · rw [mp_va_no h0]; exact ih (by omega)
theorem mp_val_at {n : Nat} (h1 : 1 ≤ n) (h5 : n ≤ 5) {m : Nat → Int} (h : mp_ok m) (o : Nat) : ∃ c, c < 32 ∧ mp_val n m o = m c := by
  have h2 := mp_p2 h1 h5
  obtain ⟨c, hc, e⟩ := mp_va_at (mp_wo_ok h1 h5 h o) o (2 ^ n - 1) (by omega)
  obtain ⟨c', hc', e'⟩ := mp_wo_at h o hc (2 ^ n - 1) (by omega)
  rw [show 2 ^ n - 1 + 1 = 2 ^ n by omega] at e e'
  exact ⟨c', hc', e.trans e'⟩
theorem mp_lowest {V t b N : Int} (hf : mp_fr V t b) (hb : b ≤ N) : ∃ t' b', b' ≤ N ∧ mp_fr V t' b' ∧ mp_low t' b' := by
  obtain ⟨h1, h2, h3, h4, e⟩ := hf
  unfold mp_fr mp_low
  rcases mp_le5i h1 h2 with rfl | rfl | rfl | rfl | rfl
  · exact ⟨t, 1, by omega, by omega, by omega⟩
  · by_cases z : t % 2 = 0
    · exact ⟨t / 2, 1, by omega, by omega, by omega⟩
    · exact ⟨t, 2, by omega, by omega, by omega⟩
  · by_cases z : t % 3 = 0
    · exact ⟨t / 3, 1, by omega, by omega, by omega⟩
    · exact ⟨t, 3, by omega, by omega, by omega⟩
  · by_cases z : t % 4 = 0
    · exact ⟨t / 4, 1, by omega, by omega, by omega⟩
    · by_cases y : t % 2 = 0
      · exact ⟨t / 2, 2, by omega, by omega, by omega⟩
      · exact ⟨t, 4, by omega, by omega, by omega⟩
  · by_cases z : t % 5 = 0
    · exact ⟨t / 5, 1, by omega, by omega, by omega⟩
    · exact ⟨t, 5, by omega, by omega, by omega⟩
theorem mp_m_ok {n p : Nat} {T : Nat → Nat} {W : Nat → Int} {ta wa : Nat → Int32} (hX : mp_X n T W ta wa) (hp : p < n) : mp_ok (mp_m n T W p) := fun c _ => mp_m_bd hX hp c
theorem mp_vfr {n p : Nat} {T : Nat → Nat} {W : Nat → Int} {ta wa : Nat → Int32} (hX : mp_X n T W ta wa) (hp : p < n) (o : Nat) : ∃ t b : Int, b ≤ n ∧ mp_fr (mp_val n (mp_m n T W p) o) t b ∧ mp_low t b := by
  obtain ⟨c, _, e⟩ := mp_val_at hX.1 hX.2.1 (mp_m_ok hX hp) o
  obtain ⟨L, h1, hL, _, _, e'⟩ := mp_cyc (mp_g W c) hX.2.1 (mp_f_lt hX c) hp
  have h5 := hX.2.1
  have hb := mp_sm_bd (mp_g_bd hX c) (mp_at_lt (mp_f_lt hX c) hp) 5 L
  rw [e]
  exact mp_lowest (b := (L : Int)) ⟨by omega, by omega, by omega, by omega, e'⟩ (by omega)
theorem i_vc_numerator {k : Nat} {u : SX} {v : SY} (I : i_Rel k u v) (hk : k + 5 ≤ 2561) (v1 : Int32) : wpX_numerator (fun r => wpY_numerator (fun r' v' => r' = r ∧ i_Rel (k + 5) u v') v v1) u v1 := by
  have R : i_Rel (k + 5) u v := I
  obtain ⟨n, M, T, W, ta, wa, ow, tb, wc, mt, mb, wt, wb, tp, bt, rfl, rfl, hX, hY, hM, hO⟩ := I
  have h5 := hX.2.1
  have hM5 := mp_M32 h5 hM
  unfold wpX_numerator
  dsimp only
  rcases mp_pl v1 h5 with h | ⟨p, hp, rfl⟩
  · refine mx_noplace h (br_t rfl ?_)
    unfold wpY_numerator
    dsimp only
    exact my_noplace h (br_t rfl ⟨rfl, R⟩)
  · refine mx_place h5 hp (br_f (by decide) (mx_valueOf hX hp hM5 ?_))
    obtain ⟨t, b, hb, hf, hl⟩ := mp_vfr hX hp M
    have hv := mp_val_bd hX.1 h5 (mp_m_ok hX hp) M
    refine mx_low h5 hv.1 hv.2 hf hl hb ⟨by decide, ?_⟩
    rw [mx_num hf]
    unfold wpY_numerator
    dsimp only
    refine my_place h5 hp (br_f (by decide) (my_value hY hp hM hO (fun _ _ => rfl) (fun mt mb wt wb t' b' hb' hf' hl' => ?_)))
    have e := (mp_uniq hf' hl' hf hl).mpr rfl
    exact ⟨by rw [e.1], mp_rel hX hY hM hO⟩
theorem i_vc_denominator {k : Nat} {u : SX} {v : SY} (I : i_Rel k u v) (hk : k + 5 ≤ 2561) (v1 : Int32) : wpX_denominator (fun r => wpY_denominator (fun r' v' => r' = r ∧ i_Rel (k + 5) u v') v v1) u v1 := by
  have R : i_Rel (k + 5) u v := I
  obtain ⟨n, M, T, W, ta, wa, ow, tb, wc, mt, mb, wt, wb, tp, bt, rfl, rfl, hX, hY, hM, hO⟩ := I
  have h5 := hX.2.1
  have hM5 := mp_M32 h5 hM
  unfold wpX_denominator
  dsimp only
  rcases mp_pl v1 h5 with h | ⟨p, hp, rfl⟩
  · refine mx_noplace h (br_t rfl ?_)
    unfold wpY_denominator
    dsimp only
    exact my_noplace h (br_t rfl ⟨rfl, R⟩)
  · refine mx_place h5 hp (br_f (by decide) (mx_valueOf hX hp hM5 ?_))
    obtain ⟨t, b, hb, hf, hl⟩ := mp_vfr hX hp M
    have hv := mp_val_bd hX.1 h5 (mp_m_ok hX hp) M
    refine mx_low h5 hv.1 hv.2 hf hl hb ?_
    unfold wpY_denominator
    dsimp only
    refine my_place h5 hp (br_f (by decide) (my_value hY hp hM hO (fun _ _ => rfl) (fun mt mb wt wb t' b' hb' hf' hl' => ?_)))
    have e := (mp_uniq hf' hl' hf hl).mpr rfl
    exact ⟨by rw [e.2], mp_rel hX hY hM hO⟩
theorem mp_cmp {V t b : Int} (a c : Int) (hf : mp_fr V t b) : V * c < a * 60 ↔ t * c < a * b := by
  obtain ⟨h1, h2, _, _, e⟩ := hf
  have e' : V * c * b = 60 * (t * c) := by rw [Int.mul_right_comm, e, Int.mul_assoc]
  generalize V * c = x at *
  generalize t * c = y at *
  rcases mp_le5i h1 h2 with rfl | rfl | rfl | rfl | rfl <;> constructor <;> intro h <;> omega
theorem mp_mulbd {x c : Int} (K : Int) (h1 : -K ≤ x) (h2 : x ≤ K) (hc : 0 ≤ c) : -(K * c) ≤ x * c ∧ x * c ≤ K * c := by
  have a1 := Int.mul_le_mul_of_nonneg_right h1 hc
  have a2 := Int.mul_le_mul_of_nonneg_right h2 hc
  rw [Int.neg_mul] at a1
  exact ⟨a1, a2⟩
theorem mx_reaches {n p M : Nat} {T : Nat → Nat} {W : Nat → Int} {ta wa : Nat → Int32} {a c : Int} (hX : mp_X n T W ta wa) (hp : p < n) (hM : M < 32) (h1 : -100 ≤ a) (h2 : a ≤ 100) (h3 : 1 ≤ c) (h4 : c ≤ 20)
    {post : Int32 → Prop} (h0 : mp_val n (mp_m n T W p) M * c < a * 60 → post 0) (hn : ¬ mp_val n (mp_m n T W p) M * c < a * 60 → post 1) : wpX_reaches post (nI n, nI M, ta, wa) (nI p) (mp_z a) (mp_z c) := by
  unfold wpX_reaches
  dsimp only
  refine mx_valueOf hX hp hM ?_
  have hv := mp_val_bd hX.1 hX.2.1 (mp_m_ok hX hp) M
  have hb := mp_mulbd 180 hv.1 hv.2 (show 0 ≤ c by omega)
  exact mp_blt _ (a * 60) h0 (fun h => hn (by omega)) (mp_zmul _ _) (mp_zmul a 60) (by omega) (by omega) (by omega) (by omega)
theorem my_atLeast {n p M : Nat} {T : Nat → Nat} {W : Nat → Int} {mt mb wt wb tp bt : Int32} {ow ta wa : Nat → Int32} {a c : Int} (hX : mp_X n T W ta wa) (hp : p < n) (hM : M < 2 ^ n) (hO : ∀ q, q < n → ow q = nI (mp_bit M q))
    (h1 : -100 ≤ a) (h2 : a ≤ 100) (h3 : 1 ≤ c) (h4 : c ≤ 20) {post : Int32 → SY → Prop}
    (h0 : mp_val n (mp_m n T W p) M * c < a * 60 → ∀ mt mb wt wb tp bt, post 0 (nI n, mt, mb, wt, wb, tp, bt, ow, ta, wa))
    (hn : ¬ mp_val n (mp_m n T W p) M * c < a * 60 → ∀ mt mb wt wb tp bt, post 1 (nI n, mt, mb, wt, wb, tp, bt, ow, ta, wa)) : wpY_atLeast post (nI n, mt, mb, wt, wb, tp, bt, ow, ta, wa) (nI p) (mp_z a) (mp_z c) := by
  unfold wpY_atLeast
  dsimp only
  refine my_place hX.2.1 hp (br_f (by decide) (my_bound h1 h2 h3 h4 (br_f (by decide) (my_value hX hp hM hO (fun _ _ => rfl) (fun mt mb wt wb t b hb hf hl => ?_)))))
  have hc := mp_cmp a c hf
  have b1 := mp_mulbd 15 hf.2.2.1 hf.2.2.2.1 (show 0 ≤ c by omega)
  have b2 := mp_mulbd 100 h1 h2 (show 0 ≤ b by have := hf.1; omega)
  have b3 := hf.2.1
  exact mp_blt (t * c) (a * b) (fun h => h0 (hc.mpr h) _ _ _ _ _ _) (fun h => hn (fun z => by have := hc.mp z; omega) _ _ _ _ _ _) (mp_zmul _ _) (mp_zmul _ _) (by omega) (by omega) (by omega) (by omega)
theorem my_noAtLeast {n p : Nat} {x y mt mb wt wb tp bt : Int32} {ow ta wa : Nat → Int32} (h5 : n ≤ 5) (hp : p < n) (hx : x < -100 ∨ 100 < x ∨ y < 1 ∨ 20 < y) {post : Int32 → SY → Prop}
    (h : post 0 (nI n, mt, mb, wt, wb, tp, bt, ow, ta, wa)) : wpY_atLeast post (nI n, mt, mb, wt, wb, tp, bt, ow, ta, wa) (nI p) x y := by
  unfold wpY_atLeast
  dsimp only
  exact my_place h5 hp (br_f (by decide) (my_nobound hx (br_t rfl h)))
theorem i_vc_atLeast {k : Nat} {u : SX} {v : SY} (I : i_Rel k u v) (hk : k + 5 ≤ 2561) (v1 : Int32) (v2 : Int32) (v3 : Int32) : wpX_atLeast (fun r => wpY_atLeast (fun r' v' => r' = r ∧ i_Rel (k + 5) u v') v v1 v2 v3) u v1 v2 v3 := by
  have R : i_Rel (k + 5) u v := I
  obtain ⟨n, M, T, W, ta, wa, ow, tb, wc, mt, mb, wt, wb, tp, bt, rfl, rfl, hX, hY, hM, hO⟩ := I
  have h5 := hX.2.1
  have hM5 := mp_M32 h5 hM
  unfold wpX_atLeast
  dsimp only
  rcases mp_pl v1 h5 with h | ⟨p, hp, rfl⟩
  · refine mx_noplace h (br_t rfl ?_)
    unfold wpY_atLeast
    dsimp only
    exact my_noplace h (br_t rfl ⟨rfl, R⟩)
  · refine mx_place h5 hp (br_f (by decide) ?_)
    rcases mp_frc v2 v3 with h | ⟨a, c, h1, h2, h3, h4, rfl, rfl⟩
    · exact mx_nofrac h (br_t rfl (my_noAtLeast h5 hp h ⟨rfl, R⟩))
    · refine mx_frac h1 h2 h3 h4 (br_f (by decide) (mx_reaches hX hp hM5 h1 h2 h3 h4 (fun z => br_t rfl ?_) (fun z => br_f (by decide) ?_)))
      · exact my_atLeast hY hp hM hO h1 h2 h3 h4 (fun _ _ _ _ _ _ _ => ⟨rfl, mp_rel hX hY hM hO⟩) (fun z' => absurd z z')
      · exact my_atLeast hY hp hM hO h1 h2 h3 h4 (fun z' => absurd z' z) (fun _ _ _ _ _ _ _ => ⟨rfl, mp_rel hX hY hM hO⟩)
/-- the number of places below k whose value reaches a / c -/
def mp_wc (f : Nat → Int) (a c : Int) : Nat → Nat
  | 0 => 0
  | k + 1 => if f k * c < a * 60 then mp_wc f a c k else mp_wc f a c k + 1
theorem mx_win15 {n M : Nat} {T : Nat → Nat} {W : Nat → Int} {ta wa : Nat → Int32} {a c : Int} (hX : mp_X n T W ta wa) (hM : M < 32) (h1 : -100 ≤ a) (h2 : a ≤ 100) (h3 : 1 ≤ c) (h4 : c ≤ 20)
    {post : Int32 → Prop} (h : post (nI (mp_wc (fun p => mp_val n (mp_m n T W p) M) a c n))) : ∀ d k, k + d = n →
    wX_winning_15 post (mp_z a) (mp_z c) (nI n) (nI M) ta wa (d + 1) (nI (mp_wc (fun p => mp_val n (mp_m n T W p) M) a c k)) (nI k) := by
  have h5 := hX.2.1
  intro d
  induction d with
  | zero =>
    intro k hk
    obtain rfl : k = n := by omega
    exact pk_le k k (fun _ => h) (fun h => absurd h (by omega))
  | succ d ih =>
    intro k hk
    have ih' := ih (k + 1) (by omega)
    refine pk_le n k (fun h => absurd h (by omega)) (fun _ => mx_reaches hX (by omega) hM h1 h2 h3 h4 (fun z => br_t rfl ?_) (fun z => br_f (by decide) ?_))
    · rw [show mp_wc (fun p => mp_val n (mp_m n T W p) M) a c (k + 1) = mp_wc (fun p => mp_val n (mp_m n T W p) M) a c k from if_pos z] at ih'
      exact nm_r (nI_1 k) ih'
    · rw [show mp_wc (fun p => mp_val n (mp_m n T W p) M) a c (k + 1) = mp_wc (fun p => mp_val n (mp_m n T W p) M) a c k + 1 from if_neg z] at ih'
      exact nm_r (nI_1 _) (nm_r (nI_1 k) ih')
theorem my_win5 {n M : Nat} {T : Nat → Nat} {W : Nat → Int} {ow ta wa : Nat → Int32} {a c : Int} (hX : mp_X n T W ta wa) (hM : M < 2 ^ n) (hO : ∀ q, q < n → ow q = nI (mp_bit M q)) (h1 : -100 ≤ a) (h2 : a ≤ 100) (h3 : 1 ≤ c) (h4 : c ≤ 20)
    {post : Int32 → SY → Prop} (h : ∀ mt mb wt wb tp bt, post (nI (mp_wc (fun p => mp_val n (mp_m n T W p) M) a c n)) (nI n, mt, mb, wt, wb, tp, bt, ow, ta, wa)) : ∀ d k, k + d = n → ∀ mt mb wt wb tp bt : Int32,
    wY_winning_5 post (mp_z a) (mp_z c) (d + 1) (nI (mp_wc (fun p => mp_val n (mp_m n T W p) M) a c k)) (nI k) (nI n) mt mb wt wb tp bt ow ta wa := by
  have h5 := hX.2.1
  intro d
  induction d with
  | zero =>
    intro k hk mt mb wt wb tp bt
    obtain rfl : k = n := by omega
    exact pk_le k k (fun _ => h _ _ _ _ _ _) (fun h => absurd h (by omega))
  | succ d ih =>
    intro k hk mt mb wt wb tp bt
    have ih' := ih (k + 1) (by omega)
    refine pk_le n k (fun h => absurd h (by omega)) (fun _ => my_atLeast hX (by omega) hM hO h1 h2 h3 h4 (fun z mt mb wt wb tp bt => br_t rfl ?_) (fun z mt mb wt wb tp bt => br_f (by decide) ?_))
    · rw [show mp_wc (fun p => mp_val n (mp_m n T W p) M) a c (k + 1) = mp_wc (fun p => mp_val n (mp_m n T W p) M) a c k from if_pos z] at ih'
      exact nm_r (nI_1 k) (ih' _ _ _ _ _ _)
    · rw [show mp_wc (fun p => mp_val n (mp_m n T W p) M) a c (k + 1) = mp_wc (fun p => mp_val n (mp_m n T W p) M) a c k + 1 from if_neg z] at ih'
      exact nm_r (nI_1 _) (nm_r (nI_1 k) (ih' _ _ _ _ _ _))
theorem my_nowin5 {n : Nat} {x y mt mb wt wb tp bt : Int32} {ow ta wa : Nat → Int32} (h5 : n ≤ 5) (hx : x < -100 ∨ 100 < x ∨ y < 1 ∨ 20 < y)
    {post : Int32 → SY → Prop} (h : post 0 (nI n, mt, mb, wt, wb, tp, bt, ow, ta, wa)) : ∀ d k, k + d = n → wY_winning_5 post x y (d + 1) 0 (nI k) (nI n) mt mb wt wb tp bt ow ta wa := by
  intro d
  induction d with
  | zero =>
    intro k hk
    obtain rfl : k = n := by omega
    exact pk_le k k (fun _ => h) (fun h => absurd h (by omega))
  | succ d ih =>
    intro k hk
    exact pk_le n k (fun h => absurd h (by omega)) (fun _ => my_noAtLeast h5 (by omega) hx (br_t rfl (nm_r (nI_1 k) (ih (k + 1) (by omega)))))
theorem i_vc_winning {k : Nat} {u : SX} {v : SY} (I : i_Rel k u v) (hk : k + 5 ≤ 2561) (v1 : Int32) (v2 : Int32) : wpX_winning (fun r => wpY_winning (fun r' v' => r' = r ∧ i_Rel (k + 5) u v') v v1 v2) u v1 v2 := by
  have R : i_Rel (k + 5) u v := I
  obtain ⟨n, M, T, W, ta, wa, ow, tb, wc, mt, mb, wt, wb, tp, bt, rfl, rfl, hX, hY, hM, hO⟩ := I
  have h5 := hX.2.1
  have hM5 := mp_M32 h5 hM
  unfold wpX_winning
  dsimp only
  rcases mp_frc v1 v2 with h | ⟨a, c, h1, h2, h3, h4, rfl, rfl⟩
  · exact mx_nofrac h (br_t rfl ⟨n + 1, my_nowin5 h5 h ⟨rfl, R⟩ n 0 (by omega)⟩)
  · refine mx_frac h1 h2 h3 h4 (br_f (by decide) ⟨n + 1, mx_win15 hX hM5 h1 h2 h3 h4 ?_ n 0 (by omega)⟩)
    exact ⟨n + 1, my_win5 hY hM hO h1 h2 h3 h4 (fun _ _ _ _ _ _ => ⟨rfl, mp_rel hX hY hM hO⟩) n 0 (by omega) _ _ _ _ _ _⟩
theorem my_six21 {n : Nat} {V t b : Int} {mt mb wt wb : Int32} {ow ta wa : Nat → Int32} (hf : mp_fr V t b) (hv1 : -180 ≤ V) (hv2 : V ≤ 180)
    {post : Int32 → SY → Prop} (h : post (mp_z V) (nI n, mt, mb, wt, wb, mp_z t, mp_z b, ow, ta, wa)) : ∀ (d : Nat) (r : Int), -3000 ≤ r → r + d = V →
    wY_sixtieths_21 post (nI n) mt mb wt wb (mp_z t) (mp_z b) ow ta wa (d + 1) (mp_z r) := by
  obtain ⟨h1, h2, h3, h4, e⟩ := hf
  have key : ∀ r : Int, -3000 ≤ r → r ≤ 180 → ((60 * t < (r + 1) * b ↔ V < r + 1) ∧ -1000000 ≤ (r + 1) * b ∧ (r + 1) * b ≤ 1000000) := by
    intro r hr1 hr2
    rcases mp_le5i h1 h2 with rfl | rfl | rfl | rfl | rfl <;> omega
  intro d
  induction d with
  | zero =>
    intro r hr hd
    obtain rfl : r = V := by omega
    obtain ⟨k1, k2, k3⟩ := key r hr hv2
    refine mp_ble 3000 r (fun h => absurd h (by omega)) (fun _ => ?_) (by decide) rfl
    exact mp_blt (60 * t) ((r + 1) * b) (fun _ => h) (fun h => absurd (k1.mpr (by omega)) (by omega)) (mp_zmul 60 t) (by rw [← mp_zmul, ← mp_zadd]; rfl)
  | succ d ih =>
    intro r hr hd
    obtain ⟨k1, k2, k3⟩ := key r hr (by omega)
    refine mp_ble 3000 r (fun h => absurd h (by omega)) (fun _ => ?_) (by decide) rfl
    refine mp_blt (60 * t) ((r + 1) * b) (fun h => absurd (k1.mp h) (by omega)) (fun _ => ?_) (mp_zmul 60 t) (by rw [← mp_zmul, ← mp_zadd]; rfl)
    exact nm_r (mp_zadd r 1) (ih (r + 1) (by omega) (by omega))
theorem i_vc_sixtieths {k : Nat} {u : SX} {v : SY} (I : i_Rel k u v) (hk : k + 5 ≤ 2561) (v1 : Int32) : wpX_sixtieths (fun r => wpY_sixtieths (fun r' v' => r' = r ∧ i_Rel (k + 5) u v') v v1) u v1 := by
  have R : i_Rel (k + 5) u v := I
  obtain ⟨n, M, T, W, ta, wa, ow, tb, wc, mt, mb, wt, wb, tp, bt, rfl, rfl, hX, hY, hM, hO⟩ := I
  have h5 := hX.2.1
  have hM5 := mp_M32 h5 hM
  unfold wpX_sixtieths
  dsimp only
  rcases mp_pl v1 h5 with h | ⟨p, hp, rfl⟩
  · refine mx_noplace h (br_t rfl ?_)
    unfold wpY_sixtieths
    dsimp only
    exact my_noplace h (br_t rfl ⟨rfl, R⟩)
  · refine mx_place h5 hp (br_f (by decide) (mx_valueOf hX hp hM5 ?_))
    have hv := mp_val_bd hX.1 h5 (mp_m_ok hX hp) M
    unfold wpY_sixtieths
    dsimp only
    refine my_place h5 hp (br_f (by decide) (my_value hY hp hM hO (fun _ _ => rfl) (fun mt mb wt wb t' b' hb' hf' hl' => ?_)))
    have e := my_six21 (mt := mt) (mb := mb) (wt := wt) (wb := wb) (ow := ow) (ta := tb) (wa := wc) (n := n) (post := fun r' v' => r' = mp_z (mp_val n (mp_m n T W p) M) ∧ i_Rel (k + 5) (nI n, nI M, ta, wa) v') hf' hv.1 hv.2 ⟨rfl, mp_rel hX hY hM hO⟩
      (mp_val n (mp_m n T W p) M + 3000).toNat (-3000) (by omega) (by omega)
    exact ⟨_, e⟩
end
section
/-! keeps: a bound choice on one side, the other move overwritten on the other -/
theorem mp_upd_back (f : Nat → Int32) (k : Nat) (x : Int32) : upd (upd f k x) k (f k) = f := by
  funext j
  by_cases e : j = k
  · subst e; rw [pk_us]
  · rw [pk_un e, pk_un e]
theorem mp_kb {p m q b : Nat} (hm : m < 2) (hb : b ≤ 1) : (2 * q + b = 2 * p + 1 - m) ↔ (q = p ∧ b = 1 - m) := by omega
theorem mp_keep {n p m : Nat} {T : Nat → Nat} {W : Nat → Int} {ta wa : Nat → Int32} (hX : mp_X n T W ta wa) (hp : p < n) (hm : m < 2) : ∀ c, c < 32 →
    mp_m n T W p (mp_set c p m) = mp_m n (fun i => if i = 2 * p + 1 - m then T (2 * p + m) else T i) (fun i => if i = 2 * p + 1 - m then W (2 * p + m) else W i) p c := by
  have h5 := hX.2.1
  intro c hc
  refine (mp_mn_congr (mp_f_lt hX (mp_set c p m)) hp (fun q hq => ?_) (fun q hq => ?_)).symm
  · unfold mp_f
    dsimp only
    rw [mp_set_bit c hc p (by omega) m hm q (by omega)]
    have hb := mp_bit_le c q
    by_cases e : q = p
    · subst e
      rw [if_pos rfl]
      by_cases e2 : 2 * q + mp_bit c q = 2 * q + 1 - m
      · rw [if_pos e2]
      · rw [if_neg e2, show mp_bit c q = m by omega]
    · rw [if_neg e, if_neg (by omega)]
  · unfold mp_g
    dsimp only
    rw [mp_set_bit c hc p (by omega) m hm q (by omega)]
    have hb := mp_bit_le c q
    by_cases e : q = p
    · subst e
      rw [if_pos rfl]
      by_cases e2 : 2 * q + mp_bit c q = 2 * q + 1 - m
      · rw [if_pos e2]
      · rw [if_neg e2, show mp_bit c q = m by omega]
    · rw [if_neg e, if_neg (by omega)]
theorem mp_io {p m : Nat} (hm : m < 2) : ((2 * nI p) + 1) - nI m = nI (2 * p + 1 - m) := by
  rw [mp_2, nI_1, pk_sub (by omega)]
theorem i_vc_keeps {k : Nat} {u : SX} {v : SY} (I : i_Rel k u v) (hk : k + 5 ≤ 2561) (v1 : Int32) (v2 : Int32) : wpX_keeps (fun r => wpY_keeps (fun r' v' => r' = r ∧ i_Rel (k + 5) u v') v v1 v2) u v1 v2 := by
  have R : i_Rel (k + 5) u v := I
  obtain ⟨n, M, T, W, ta, wa, ow, tb, wc, mt, mb, wt, wb, tp, bt, rfl, rfl, hX, hY, hM, hO⟩ := I
  have h5 := hX.2.1
  have hM5 := mp_M32 h5 hM
  unfold wpX_keeps
  dsimp only
  rcases mp_pm v1 v2 h5 with h | ⟨p, m, hp, hm, rfl, rfl⟩
  · refine mx_nomove h5 h (br_t rfl ?_)
    unfold wpY_keeps
    dsimp only
    exact my_nomove h5 h (br_t rfl ⟨rfl, R⟩)
  · have hset : ∀ c, c < 32 → mp_set c p m < 32 := fun c hc => mp_set_lt 5 (by omega) c hc p (by omega) m hm
    refine mx_move h5 hp hm (br_f (by decide) ?_)
    refine mx_value (ph := fun c => mp_set c p m) hX hp hM5 (fun c hc => ⟨mp_tset c hc p (by omega) m hm, hset c hc⟩) ?_
    refine mx_valueOf hX hp hM5 ?_
    have hok : mp_ok (fun c => mp_m n T W p (mp_set c p m)) := fun c _ => mp_m_bd hX hp _
    have hv1 := mp_val_bd hX.1 h5 hok M
    have hv2 := mp_val_bd hX.1 h5 (mp_m_ok hX hp) M
    have io : 2 * p + 1 - m < 2 * n := by omega
    have im : 2 * p + m < 2 * n := by omega
    have hx := hY.2.2 _ im
    have hY' := mp_X_upd (k := 2 * p + 1 - m) hY hx.1 hx.2.1 hx.2.2.1
    rw [← hx.2.2.2.1, ← hx.2.2.2.2] at hY'
    have hy : ∀ r : Int32, (mp_val n (fun c => mp_m n T W p (mp_set c p m)) M = mp_val n (mp_m n T W p) M → r = 1) → (¬ mp_val n (fun c => mp_m n T W p (mp_set c p m)) M = mp_val n (mp_m n T W p) M → r = 0) →
        wpY_keeps (fun r' v' => r' = r ∧ i_Rel (k + 5) (nI n, nI M, ta, wa) v') (nI n, mt, mb, wt, wb, tp, bt, ow, tb, wc) (nI p) (nI m) := by
      intro r r1 r0
      unfold wpY_keeps
      dsimp only
      refine my_move h5 hp hm (br_f (by decide) (my_value hY hp hM hO (fun _ _ => rfl) (fun mt mb wt wb t b hb hf hl => ?_)))
      dsimp only
      rw [mp_io hm, mp_ipm]
      refine nm_e ⟨vp_in_nI (by omega) (by omega), nm_e ⟨vp_in_nI (by omega) (by omega), nm_e ⟨vp_in_nI (by omega) (by omega), vp_in_nI (by omega) (by omega), nm_e ⟨vp_in_nI (by omega) (by omega), vp_in_nI (by omega) (by omega), nm_e ?_⟩⟩⟩⟩
      rw [nI_clamp (by omega), nI_clamp (by omega)]
      refine my_value hY' hp hM hO (mp_keep hY hp hm) (fun mt mb wt wb t' b' hb' hf' hl' => ?_)
      dsimp only
      refine ⟨vp_in_nI (by omega) (by omega), nm_r (mp_upd_back _ _ _) ⟨vp_in_nI (by omega) (by omega), nm_r (mp_upd_back _ _ _) ?_⟩⟩
      have hu := mp_uniq hf' hl' hf hl
      have := hf.1
      have := hf.2.1
      have := hf'.1
      have := hf'.2.1
      have := hf.2.2.1
      have := hf.2.2.2.1
      have := hf'.2.2.1
      have := hf'.2.2.2.1
      refine mp_beq t' t (fun et => mp_beq b' b (fun eb => ⟨?_, mp_rel hX hY hM hO⟩) (fun nb => ⟨?_, mp_rel hX hY hM hO⟩) rfl rfl) (fun nt => ⟨?_, mp_rel hX hY hM hO⟩) rfl rfl
      · exact (r1 (hu.mp ⟨et, eb⟩)).symm
      · exact (r0 (fun z => nb (hu.mpr z).2)).symm
      · exact (r0 (fun z => nt (hu.mpr z).1)).symm
    exact mp_beq _ _ (fun e => hy 1 (fun _ => rfl) (fun z => absurd e z)) (fun e => hy 0 (fun z => absurd z e) (fun _ => rfl)) rfl rfl
end
section
/-! gifts -/
theorem my_give2 {n S A B pl : Nat} {mt mb wt wb tp bt : Int32} {ta wa : Nat → Int32} (h5 : n ≤ 5) (hS : S < 32) (hAB : ∀ q, q < n → mp_bit B q = if mp_bit S q = 1 then pl else mp_bit A q)
    {post : SY → Prop} (h : ∀ ow' : Nat → Int32, (∀ q, q < n → ow' q = nI (mp_bit B q)) → post (nI n, mt, mb, wt, wb, tp, bt, ow', ta, wa)) : ∀ d k, k + d = n → ∀ ow : Nat → Int32,
    (∀ q, q < n → ow q = nI (if q < k then mp_bit B q else mp_bit A q)) → wY_give_2 post (nI S) (nI pl) (nI n) mt mb wt wb tp bt (d + 1) (nI k) ow ta wa := by
  intro d
  induction d with
  | zero =>
    intro k hk ow hO
    obtain rfl : k = n := by omega
    refine pk_le k k (fun _ => h ow (fun q hq => ?_)) (fun h => absurd h (by omega))
    rw [hO q hq, if_pos hq]
  | succ d ih =>
    intro k hk ow hO
    have ih' := ih (k + 1) (by omega)
    have hb := mp_bit_le S k
    refine pk_le n k (fun h => absurd h (by omega)) (fun _ => ?_)
    rw [mp_tb S hS k (by omega)]
    refine mp_bif (nI_eq (b := 1) (by omega) (by omega)) (fun e => ?_) (fun e => ?_)
    · rw [nI_clamp (by omega)]
      refine ⟨vp_in_nI (by omega) (by omega), nm_e (nm_r (nI_1 k) (ih' _ (fun q hq => ?_)))⟩
      by_cases eq : q = k
      · subst eq
        rw [pk_us, if_pos (by omega), hAB q hq, if_pos e]
      · rw [pk_un eq, hO q hq]
        by_cases hl : q < k
        · rw [if_pos hl, if_pos (by omega)]
        · rw [if_neg hl, if_neg (by omega)]
    · refine nm_r (nI_1 k) (ih' _ (fun q hq => ?_))
      rw [hO q hq]
      by_cases eq : q = k
      · subst eq
        rw [if_neg (by omega), if_pos (by omega), hAB q hq, if_neg e]
      · by_cases hl : q < k
        · rw [if_pos hl, if_pos (by omega)]
        · rw [if_neg hl, if_neg (by omega)]
theorem my_give {n S A B pl : Nat} {mt mb wt wb tp bt : Int32} {ow ta wa : Nat → Int32} (h5 : n ≤ 5) (hS : S < 32) (hO : ∀ q, q < n → ow q = nI (mp_bit A q)) (hAB : ∀ q, q < n → mp_bit B q = if mp_bit S q = 1 then pl else mp_bit A q)
    {post : SY → Prop} (h : ∀ ow' : Nat → Int32, (∀ q, q < n → ow' q = nI (mp_bit B q)) → post (nI n, mt, mb, wt, wb, tp, bt, ow', ta, wa)) :
    wpY_give post (nI n, mt, mb, wt, wb, tp, bt, ow, ta, wa) (nI S) (nI pl) :=
  ⟨n + 1, my_give2 h5 hS hAB h n 0 (by omega) ow (fun q hq => by rw [hO q hq, if_neg (by omega)])⟩
theorem my_size4 {n c : Nat} {mt mb wt wb tp bt : Int32} {ow ta wa : Nat → Int32} (hc : c < 32) {post : Int32 → Prop} (h : post (nI (mp_cnt c 5))) : ∀ d k, k + d = 5 →
    wY_sizeOf_4 post (nI c) (nI n) mt mb wt wb tp bt ow ta wa (d + 1) (nI (mp_cnt c k)) (nI k) := by
  intro d
  induction d with
  | zero =>
    intro k hk
    obtain rfl : k = 5 := by omega
    exact pk_le 5 5 (fun _ => h) (fun h => absurd h (by omega))
  | succ d ih =>
    intro k hk
    refine pk_le 5 k (fun h => absurd h (by omega)) (fun _ => ?_)
    rw [mp_tb c hc k (by omega)]
    exact nm_r (nI_add _ _) (nm_r (nI_1 k) (ih (k + 1) (by omega)))
theorem my_size {n c : Nat} {mt mb wt wb tp bt : Int32} {ow ta wa : Nat → Int32} (hc : c < 32) {post : Int32 → Prop} (h : post (nI (mp_cnt c 5))) :
    wpY_sizeOf post (nI n, mt, mb, wt, wb, tp, bt, ow, ta, wa) (nI c) :=
  ⟨6, my_size4 hc h 5 0 rfl⟩
/-- the least number of gifts among the sets below k -/
def mp_gi (v : Nat → Int) (V : Int) (o n : Nat) : Nat → Nat
  | 0 => n + 1
  | k + 1 => if k &&& o = 0 then (if mp_cnt k n < mp_gi v V o n k then (if V < v k then mp_cnt k n else mp_gi v V o n k) else mp_gi v V o n k) else mp_gi v V o n k
theorem mp_gi_no {v : Nat → Int} {V : Int} {o n k : Nat} (h : ¬ k &&& o = 0) : mp_gi v V o n (k + 1) = mp_gi v V o n k := if_neg h
theorem mp_gi_ge {v : Nat → Int} {V : Int} {o n k : Nat} (h : ¬ mp_cnt k n < mp_gi v V o n k) : mp_gi v V o n (k + 1) = mp_gi v V o n k := by
  show (if k &&& o = 0 then (if mp_cnt k n < mp_gi v V o n k then (if V < v k then mp_cnt k n else mp_gi v V o n k) else mp_gi v V o n k) else mp_gi v V o n k) = mp_gi v V o n k
  rw [if_neg h, ite_self]
theorem mp_gi_le {v : Nat → Int} {V : Int} {o n k : Nat} (h : ¬ V < v k) : mp_gi v V o n (k + 1) = mp_gi v V o n k := by
  show (if k &&& o = 0 then (if mp_cnt k n < mp_gi v V o n k then (if V < v k then mp_cnt k n else mp_gi v V o n k) else mp_gi v V o n k) else mp_gi v V o n k) = mp_gi v V o n k
  rw [if_neg h, ite_self, ite_self]
theorem mp_gi_lt {v : Nat → Int} {V : Int} {o n k : Nat} (h : k &&& o = 0) (h2 : mp_cnt k n < mp_gi v V o n k) (h3 : V < v k) : mp_gi v V o n (k + 1) = mp_cnt k n :=
  (if_pos h).trans ((if_pos h2).trans (if_pos h3))
theorem mp_gi_bd {v : Nat → Int} {V : Int} {o n : Nat} : ∀ k, mp_gi v V o n k ≤ n + 1 := by
  intro k
  induction k with
  | zero => exact Nat.le_refl _
  | succ k ih =>
    have h := mp_cnt_le k n
    unfold mp_gi
    split
    · split
      · split <;> omega
      · exact ih
    · exact ih
theorem mx_gifts31 {n p M : Nat} {T : Nat → Nat} {W : Nat → Int} {V : Int} {ta wa : Nat → Int32} (hX : mp_X n T W ta wa) (hp : p < n) (hM : M < 2 ^ n) (hV1 : -180 ≤ V) (hV2 : V ≤ 180)
    {post : Int32 → Prop} (h : post (nI (mp_gi (fun s => mp_val n (mp_m n T W p) (M ||| s)) V M n (2 ^ n)))) : ∀ d k, k + d = 2 ^ n →
    wX_gifts_31 post (nI p) (mp_z V) (nI n) (nI M) ta wa (d + 1) (nI (mp_gi (fun s => mp_val n (mp_m n T W p) (M ||| s)) V M n k)) (nI k) := by
  have h5 := hX.2.1
  have h2 := mp_p2 hX.1 h5
  have hM5 := mp_M32 h5 hM
  intro d
  induction d with
  | zero =>
    intro k hk
    obtain rfl : k = 2 ^ n := by omega
    exact pk_le (2 ^ n) (2 ^ n) (fun _ => h) (fun h => absurd h (by omega)) (mp_tsh n (by omega))
  | succ d ih =>
    intro k hk
    have ih' := ih (k + 1) (by omega)
    have hk5 : k < 32 := by omega
    have b1 := mp_gi_bd (v := fun s => mp_val n (mp_m n T W p) (M ||| s)) (V := V) (o := M) (n := n) k
    have b2 := mp_cnt_le k n
    have b3 := mp_val_bd hX.1 h5 (mp_m_ok hX hp) (M ||| k)
    refine pk_le (2 ^ n) k (fun h => absurd h (by omega)) (fun _ => ?_) (mp_tsh n (by omega))
    refine mp_bif (mp_tand0 hk5 hM5) (fun h0 => ?_) (fun h0 => ?_)
    · refine mx_cnt h5 hk5 (pk_le _ (mp_cnt k n) (fun hc => ?_) (fun hc => ?_))
      · rw [mp_gi_ge (by omega)] at ih'
        exact nm_r (nI_1 k) ih'
      · rw [mp_tor M hM5 k hk5]
        refine mx_valueOf hX hp (mp_or32 hM5 hk5) (mp_ble _ V (fun hv => ?_) (fun hv => ?_) rfl rfl)
        · rw [mp_gi_le (by omega)] at ih'
          exact nm_r (nI_1 k) ih'
        · rw [mp_gi_lt h0 hc hv] at ih'
          exact nm_r (nI_1 k) ih'
    · rw [mp_gi_no h0] at ih'
      exact nm_r (nI_1 k) ih'
theorem my_gifts44 {n p M : Nat} {T : Nat → Nat} {W : Nat → Int} {V t0 b0 : Int} {ta wa : Nat → Int32} (hX : mp_X n T W ta wa) (hp : p < n) (hM : M < 2 ^ n) (hf0 : mp_fr V t0 b0)
    {post : Int32 → SY → Prop} (h : ∀ (mt mb wt wb tp bt : Int32) (ow : Nat → Int32), (∀ q, q < n → ow q = nI (mp_bit M q)) → post (nI (mp_gi (fun s => mp_val n (mp_m n T W p) (M ||| s)) V M n (2 ^ n))) (nI n, mt, mb, wt, wb, tp, bt, ow, ta, wa)) :
    ∀ d k, k + d = 32 → ∀ (mt mb wt wb tp bt : Int32) (ow : Nat → Int32), (∀ q, q < n → ow q = nI (mp_bit M q)) →
    wY_gifts_44 post (nI p) (mp_z t0) (mp_z b0) (nI (2 ^ n - 1 - M)) (d + 1) (nI (mp_gi (fun s => mp_val n (mp_m n T W p) (M ||| s)) V M n (min k (2 ^ n)))) (nI k) (nI n) mt mb wt wb tp bt ow ta wa := by
  have h5 := hX.2.1
  have h2 := mp_p2 hX.1 h5
  have hM5 := mp_M32 h5 hM
  intro d
  induction d with
  | zero =>
    intro k hk mt mb wt wb tp bt ow hO
    obtain rfl : k = 32 := by omega
    rw [show min 32 (2 ^ n) = 2 ^ n by omega]
    exact pk_le 32 32 (fun _ => h _ _ _ _ _ _ _ hO) (fun h => absurd h (by omega))
  | succ d ih =>
    intro k hk mt mb wt wb tp bt ow hO
    have hk5 : k < 32 := by omega
    have ih' := ih (k + 1) (by omega)
    refine pk_le 32 k (fun h => absurd h (by omega)) (fun _ => ?_)
    refine mp_bif (mp_tandc hk5 (by omega)) (fun h0 => ?_) (fun h0 => ?_)
    · have hkn : k < 2 ^ n := by
        by_cases hh : k < 2 ^ n
        · exact hh
        · exact absurd h0 (mp_big (N := 2 ^ n) (by omega) (by omega))
      have h0' := (mp_tco n (by omega) M hM k hkn).mp h0
      rw [show min (k + 1) (2 ^ n) = k + 1 by omega] at ih'
      rw [show min k (2 ^ n) = k by omega]
      have b1 := mp_gi_bd (v := fun s => mp_val n (mp_m n T W p) (M ||| s)) (V := V) (o := M) (n := n) k
      have b2 := mp_cnt_le k n
      have e5 := mp_cnt5 n (by omega) k hkn
      refine my_size hk5 ?_
      rw [e5]
      refine pk_le _ (mp_cnt k n) (fun hc => ?_) (fun hc => ?_)
      · rw [mp_gi_ge (by omega)] at ih'
        exact nm_r (nI_1 k) (ih' _ _ _ _ _ _ _ hO)
      · refine my_give (pl := 1) h5 hk5 hO (fun q hq => mp_give M hM5 k hk5 h0' q (by omega)) (fun ow1 hO1 => ?_)
        refine my_value hX hp (mp_orlt hM hkn) hO1 (fun _ _ => rfl) (fun mt mb wt wb t b hb hf hl => ?_)
        refine my_give (pl := 0) (B := M) h5 hk5 hO1 (fun q hq => ?_) (fun ow2 hO2 => ?_)
        · have g1 := mp_give M hM5 k hk5 h0' q (by omega)
          by_cases e : mp_bit k q = 1
          · rw [if_pos e]; exact mp_back M hM5 k hk5 h0' q (by omega) e
          · rw [if_neg e, g1, if_neg e]
        · have c1 := mp_fr_bd hf hf0
          have c2 := mp_fr_bd hf0 hf
          have cc := mp_cross hf0 hf
          refine mp_ble (t * b0) (t0 * b) (fun hv => ?_) (fun hv => ?_) (mp_zmul _ _) (mp_zmul _ _) c1.1 c1.2 c2.1 c2.2
          · rw [mp_gi_le (fun z => by have := cc.mpr z; omega)] at ih'
            exact nm_r (nI_1 k) (ih' _ _ _ _ _ _ _ hO2)
          · rw [mp_gi_lt h0' hc (cc.mp hv)] at ih'
            refine my_size hk5 ?_
            rw [e5]
            exact nm_r (nI_1 k) (ih' _ _ _ _ _ _ _ hO2)
    · have e : mp_gi (fun s => mp_val n (mp_m n T W p) (M ||| s)) V M n (min (k + 1) (2 ^ n)) = mp_gi (fun s => mp_val n (mp_m n T W p) (M ||| s)) V M n (min k (2 ^ n)) := by
        by_cases hkn : k < 2 ^ n
        · rw [show min (k + 1) (2 ^ n) = k + 1 by omega, show min k (2 ^ n) = k by omega]
          exact mp_gi_no (fun hh => h0 ((mp_tco n (by omega) M hM k hkn).mpr hh))
        · rw [show min (k + 1) (2 ^ n) = 2 ^ n by omega, show min k (2 ^ n) = 2 ^ n by omega]
      rw [e] at ih'
      exact nm_r (nI_1 k) (ih' _ _ _ _ _ _ _ hO)
theorem i_vc_gifts {k : Nat} {u : SX} {v : SY} (I : i_Rel k u v) (hk : k + 5 ≤ 2561) (v1 : Int32) : wpX_gifts (fun r => wpY_gifts (fun r' v' => r' = r ∧ i_Rel (k + 5) u v') v v1) u v1 := by
  have R : i_Rel (k + 5) u v := I
  obtain ⟨n, M, T, W, ta, wa, ow, tb, wc, mt, mb, wt, wb, tp, bt, rfl, rfl, hX, hY, hM, hO⟩ := I
  have h5 := hX.2.1
  have h2 := mp_p2 hX.1 h5
  have hM5 := mp_M32 h5 hM
  unfold wpX_gifts
  dsimp only
  rcases mp_pl v1 h5 with h | ⟨p, hp, rfl⟩
  · refine mx_noplace h (br_t rfl ?_)
    unfold wpY_gifts
    dsimp only
    exact my_noplace h (br_t rfl ⟨rfl, R⟩)
  · refine mx_place h5 hp (br_f (by decide) (mx_valueOf hX hp hM5 ?_))
    have hv := mp_val_bd hX.1 h5 (mp_m_ok hX hp) M
    have e1 : mp_gi (fun s => mp_val n (mp_m n T W p) (M ||| s)) (mp_val n (mp_m n T W p) M) M n 1 = n + 1 :=
      mp_gi_le (by rw [Nat.or_zero]; omega)
    refine nm_r (nI_1 n) ⟨2 ^ n - 1 + 1, ?_⟩
    have g := mx_gifts31 (post := fun r => wpY_gifts (fun r' v' => r' = r ∧ i_Rel (k + 5) (nI n, nI M, ta, wa) v') (nI n, mt, mb, wt, wb, tp, bt, ow, tb, wc) (nI p)) hX hp hM hv.1 hv.2 ?_ (2 ^ n - 1) 1 (by omega)
    · rw [e1] at g
      exact g
    · unfold wpY_gifts
      dsimp only
      refine my_place h5 hp (br_f (by decide) (my_value hY hp hM hO (fun _ _ => rfl) (fun mt mb wt wb t b hb hf hl => ?_)))
      refine my_places (S := 2 ^ n - 1 - M) h5 (by omega) (mp_own0 h5 hM hO) (nm_r (nI_1 n) ⟨33, ?_⟩)
      have g := my_gifts44 (post := fun r' v' => r' = nI (mp_gi (fun s => mp_val n (mp_m n T W p) (M ||| s)) (mp_val n (mp_m n T W p) M) M n (2 ^ n)) ∧ i_Rel (k + 5) (nI n, nI M, ta, wa) v') hY hp hM hf
        (fun _ _ _ _ _ _ ow' hO' => ⟨rfl, mp_rel hX hY hM hO'⟩) 32 0 rfl mt mb wt wb (mp_z t) (mp_z b) ow hO
      exact g
end
section
/-! shift and mirror -/
theorem mx_add50 {n : Nat} {T : Nat → Nat} {W : Nat → Int} {w : Int} {mx : Int32} {ta : Nat → Int32} (h5 : n ≤ 5)
    {post : Int32 → SX → Prop} (h : ∀ wa' : Nat → Int32, (∀ i, i < 2 * n → wa' i = mp_z (W i + w)) → post 0 (nI n, mx, ta, wa')) : ∀ d k, k + d = 2 * n → ∀ wa : Nat → Int32,
    (∀ i, i < 2 * n → wa i = mp_z (if i < k then W i + w else W i)) → wX_shift_50 post (mp_z w) (nI n) mx (d + 1) (nI k) ta wa := by
  intro d
  induction d with
  | zero =>
    intro k hk wa hw
    obtain rfl : k = 2 * n := by omega
    refine pk_le (2 * n) (2 * n) (fun _ => h wa (fun i hi => ?_)) (fun h => absurd h (by omega)) (mp_2 n)
    rw [hw i hi, if_pos hi]
  | succ d ih =>
    intro k hk wa hw
    refine pk_le (2 * n) k (fun h => absurd h (by omega)) (fun _ => ?_) (mp_2 n)
    rw [nI_clamp (by omega)]
    refine ⟨vp_in_nI (by omega) (by omega), vp_in_nI (by omega) (by omega), nm_e (nm_r (nI_1 k) (ih (k + 1) (by omega) _ (fun i hi => ?_)))⟩
    by_cases e : i = k
    · subst e
      rw [pk_us, hw i hi, if_neg (by omega), if_pos (by omega), mp_zadd]
    · rw [pk_un e, hw i hi]
      by_cases hl : i < k
      · rw [if_pos hl, if_pos (by omega)]
      · rw [if_neg hl, if_neg (by omega)]
theorem my_add63 {n : Nat} {T : Nat → Nat} {W : Nat → Int} {w : Int} {mt mb wt wb tp bt : Int32} {ow ta : Nat → Int32} (h5 : n ≤ 5)
    {post : Int32 → SY → Prop} (h : ∀ wa' : Nat → Int32, (∀ i, i < 2 * n → wa' i = mp_z (W i + w)) → post 0 (nI n, mt, mb, wt, wb, tp, bt, ow, ta, wa')) : ∀ d k, k + d = 2 * n → ∀ wa : Nat → Int32,
    (∀ i, i < 2 * n → wa i = mp_z (if i < k then W i + w else W i)) → wY_shift_63 post (mp_z w) (nI n) mt mb wt wb tp bt (d + 1) (nI k) ow ta wa := by
  intro d
  induction d with
  | zero =>
    intro k hk wa hw
    obtain rfl : k = 2 * n := by omega
    refine pk_le (2 * n) (2 * n) (fun _ => h wa (fun i hi => ?_)) (fun h => absurd h (by omega)) (mp_2 n)
    rw [hw i hi, if_pos hi]
  | succ d ih =>
    intro k hk wa hw
    refine pk_le (2 * n) k (fun h => absurd h (by omega)) (fun _ => ?_) (mp_2 n)
    rw [nI_clamp (by omega)]
    refine ⟨vp_in_nI (by omega) (by omega), vp_in_nI (by omega) (by omega), nm_e (nm_r (nI_1 k) (ih (k + 1) (by omega) _ (fun i hi => ?_)))⟩
    by_cases e : i = k
    · subst e
      rw [pk_us, hw i hi, if_neg (by omega), if_pos (by omega), mp_zadd]
    · rw [pk_un e, hw i hi]
      by_cases hl : i < k
      · rw [if_pos hl, if_pos (by omega)]
      · rw [if_neg hl, if_neg (by omega)]
theorem mx_chk {n : Nat} {T : Nat → Nat} {W : Nat → Int} {w : Int} {mx : Int32} {ta wa : Nat → Int32} (hX : mp_X n T W ta wa) (h1 : -6 ≤ w) (h2 : w ≤ 6)
    {post : Int32 → SX → Prop} (hy : (∀ i, i < 2 * n → -3 ≤ W i + w ∧ W i + w ≤ 3) → ∃ n50, wX_shift_50 post (mp_z w) (nI n) mx n50 0 ta wa)
    (hn : ¬ (∀ i, i < 2 * n → -3 ≤ W i + w ∧ W i + w ≤ 3) → post (-100) (nI n, mx, ta, wa)) : ∀ d k, k + d = 2 * n → (∀ i, i < k → -3 ≤ W i + w ∧ W i + w ≤ 3) →
    wX_shift_14 post (mp_z w) (nI n) mx ta wa (d + 1) (nI k) := by
  have h5 := hX.2.1
  intro d
  induction d with
  | zero =>
    intro k hk hl
    obtain rfl : k = 2 * n := by omega
    exact pk_le (2 * n) (2 * n) (fun _ => hy hl) (fun h => absurd h (by omega)) (mp_2 n)
  | succ d ih =>
    intro k hk hl
    have hx := hX.2.2 k (by omega)
    refine pk_le (2 * n) k (fun h => absurd h (by omega)) (fun _ => ⟨vp_in_nI (by omega) (by omega), ?_⟩) (mp_2 n)
    rw [nI_clamp (by omega), hx.2.2.2.2, mp_zadd]
    by_cases ok : -3 ≤ W k + w ∧ W k + w ≤ 3
    · refine mx_within (K := 3) (by decide) (by omega) (by omega) ok.1 ok.2 (br_f (by decide) (nm_r (nI_1 k) (ih (k + 1) (by omega) (fun i hi => ?_))))
      by_cases e : i = k
      · subst e; exact ok
      · exact hl i (by omega)
    · refine mx_nowithin ?_ (br_t rfl (hn (fun z => ok (z k (by omega)))))
      rw [show (3 : Int32) = mp_z 3 by decide, mp_zneg, mp_zlt (by omega) (by omega) (by omega) (by omega), mp_zlt (by omega) (by omega) (by omega) (by omega)]
      omega
theorem my_chk {n : Nat} {T : Nat → Nat} {W : Nat → Int} {w : Int} {mt mb wt wb tp bt : Int32} {ow ta wa : Nat → Int32} (hX : mp_X n T W ta wa) (h1 : -6 ≤ w) (h2 : w ≤ 6)
    {post : Int32 → SY → Prop} (hy : (∀ i, i < 2 * n → -3 ≤ W i + w ∧ W i + w ≤ 3) → ∃ n63, wY_shift_63 post (mp_z w) (nI n) mt mb wt wb tp bt n63 0 ow ta wa)
    (hn : ¬ (∀ i, i < 2 * n → -3 ≤ W i + w ∧ W i + w ≤ 3) → post (-100) (nI n, mt, mb, wt, wb, tp, bt, ow, ta, wa)) : ∀ d k, k + d = 2 * n → (∀ i, i < k → -3 ≤ W i + w ∧ W i + w ≤ 3) →
    wY_shift_17 post (mp_z w) (nI n) mt mb wt wb tp bt ow ta wa (d + 1) (nI k) := by
  have h5 := hX.2.1
  intro d
  induction d with
  | zero =>
    intro k hk hl
    obtain rfl : k = 2 * n := by omega
    exact pk_le (2 * n) (2 * n) (fun _ => hy hl) (fun h => absurd h (by omega)) (mp_2 n)
  | succ d ih =>
    intro k hk hl
    have hx := hX.2.2 k (by omega)
    have no : ¬ (-3 ≤ W k + w ∧ W k + w ≤ 3) → post (-100) (nI n, mt, mb, wt, wb, tp, bt, ow, ta, wa) := fun ok => hn (fun z => ok (z k (by omega)))
    refine pk_le (2 * n) k (fun h => absurd h (by omega)) (fun _ => ⟨vp_in_nI (by omega) (by omega), ?_⟩) (mp_2 n)
    rw [nI_clamp (by omega), hx.2.2.2.2, mp_zadd]
    refine mp_blt (W k + w) (-3) (fun z => no (by omega)) (fun z1 => ⟨vp_in_nI (by omega) (by omega), mp_ble (W k + w) 3 (fun z2 => ?_) (fun z => no (by omega)) rfl (by decide)⟩) rfl (by decide)
    refine nm_r (nI_1 k) (ih (k + 1) (by omega) (fun i hi => ?_))
    by_cases e : i = k
    · subst e; exact ⟨z1, z2⟩
    · exact hl i (by omega)
theorem mp_X_w {n : Nat} {T : Nat → Nat} {W W' : Nat → Int} {ta wa wa' : Nat → Int32} (hX : mp_X n T W ta wa) (h : ∀ i, i < 2 * n → -3 ≤ W' i ∧ W' i ≤ 3) (hw : ∀ i, i < 2 * n → wa' i = mp_z (W' i)) : mp_X n T W' ta wa' :=
  ⟨hX.1, hX.2.1, fun i hi => ⟨(hX.2.2 i hi).1, (h i hi).1, (h i hi).2, (hX.2.2 i hi).2.2.2.1, hw i hi⟩⟩
theorem i_vc_shift {k : Nat} {u : SX} {v : SY} (I : i_Rel k u v) (hk : k + 5 ≤ 2561) (v1 : Int32) : wpX_shift (fun r u' => wpY_shift (fun r' v' => r' = r ∧ i_Rel (k + 5) u' v') v v1) u v1 := by
  have R : i_Rel (k + 5) u v := I
  obtain ⟨n, M, T, W, ta, wa, ow, tb, wc, mt, mb, wt, wb, tp, bt, rfl, rfl, hX, hY, hM, hO⟩ := I
  have h5 := hX.2.1
  unfold wpX_shift
  dsimp only
  rcases mp_wi v1 (y := 6) 6 (by decide) (by omega) (by omega) with h | ⟨w, h1, h2, rfl⟩
  · refine mx_nowithin h (br_t rfl ?_)
    refine br_c (fun _ => ⟨rfl, R⟩) (fun hn => br_f (fun hle => ?_) ⟨rfl, R⟩)
    exact h.elim (fun z => hn z) (fun z => Int32.not_le.mpr z hle)
  · have yy : ∀ {post : Int32 → SY → Prop}, (∃ n17, wY_shift_17 post (mp_z w) (nI n) mt mb wt wb tp bt ow tb wc n17 0) → wpY_shift post (nI n, mt, mb, wt, wb, tp, bt, ow, tb, wc) (mp_z w) := fun h =>
      mp_blt w (-6) (fun h => absurd h (by omega)) (fun _ => mp_ble w 6 (fun _ => h) (fun h => absurd h (by omega)) rfl (by decide)) rfl (by decide)
    refine mx_within (K := 6) (by decide) (by omega) (by omega) h1 h2 (br_f (by decide) ⟨2 * n + 1, mx_chk hX h1 h2 (fun hall => ⟨2 * n + 1, ?_⟩) (fun hno => ?_) (2 * n) 0 (by omega) (fun i hi => absurd hi (by omega))⟩)
    · refine mx_add50 (T := T) (W := W) h5 (fun wa' hw' => ?_) (2 * n) 0 (by omega) wa (fun i hi => by rw [if_neg (by omega)]; exact (hX.2.2 i hi).2.2.2.2)
      refine yy ⟨2 * n + 1, my_chk hY h1 h2 (fun _ => ⟨2 * n + 1, ?_⟩) (fun hno => absurd hall hno) (2 * n) 0 (by omega) (fun i hi => absurd hi (by omega))⟩
      refine my_add63 (T := T) (W := W) h5 (fun wb' hv' => ?_) (2 * n) 0 (by omega) wc (fun i hi => by rw [if_neg (by omega)]; exact (hY.2.2 i hi).2.2.2.2)
      exact ⟨rfl, mp_rel (mp_X_w (W' := fun i => W i + w) hX hall hw') (mp_X_w (W' := fun i => W i + w) hY hall hv') hM hO⟩
    · exact yy ⟨2 * n + 1, my_chk hY h1 h2 (fun hall => absurd hall hno) (fun _ => ⟨rfl, R⟩) (2 * n) 0 (by omega) (fun i hi => absurd hi (by omega))⟩
theorem mx_mir19 {n : Nat} {W : Nat → Int} {mx : Int32} {ta : Nat → Int32} (h5 : n ≤ 5)
    {post : SX → Prop} (h : ∀ wa' : Nat → Int32, (∀ i, i < 2 * n → wa' i = mp_z (-W i)) → post (nI n, mx, ta, wa')) : ∀ d k, k + d = 2 * n → ∀ wa : Nat → Int32,
    (∀ i, i < 2 * n → wa i = mp_z (if i < k then -W i else W i)) → wX_mirror_19 post (nI n) mx (d + 1) (nI k) ta wa := by
  intro d
  induction d with
  | zero =>
    intro k hk wa hw
    obtain rfl : k = 2 * n := by omega
    refine pk_le (2 * n) (2 * n) (fun _ => h wa (fun i hi => ?_)) (fun h => absurd h (by omega)) (mp_2 n)
    rw [hw i hi, if_pos hi]
  | succ d ih =>
    intro k hk wa hw
    refine pk_le (2 * n) k (fun h => absurd h (by omega)) (fun _ => ?_) (mp_2 n)
    rw [nI_clamp (by omega)]
    refine ⟨vp_in_nI (by omega) (by omega), vp_in_nI (by omega) (by omega), nm_e (nm_r (nI_1 k) (ih (k + 1) (by omega) _ (fun i hi => ?_)))⟩
    by_cases e : i = k
    · subst e
      rw [pk_us, hw i hi, if_neg (by omega), if_pos (by omega), mp_zneg]
    · rw [pk_un e, hw i hi]
      by_cases hl : i < k
      · rw [if_pos hl, if_pos (by omega)]
      · rw [if_neg hl, if_neg (by omega)]
theorem my_mir2 {n M : Nat} {W : Nat → Int} {mt mb wt wb tp bt : Int32} {ta : Nat → Int32} (h5 : n ≤ 5) (hM : M < 2 ^ n)
    {post : SY → Prop} (h : ∀ ow' wa' : Nat → Int32, (∀ q, q < n → ow' q = nI (mp_bit (2 ^ n - 1 - M) q)) → (∀ i, i < 2 * n → wa' i = mp_z (-W i)) → post (nI n, mt, mb, wt, wb, tp, bt, ow', ta, wa')) : ∀ d k, k + d = n → ∀ ow wa : Nat → Int32,
    (∀ q, q < n → ow q = nI (if q < k then mp_bit (2 ^ n - 1 - M) q else mp_bit M q)) → (∀ i, i < 2 * n → wa i = mp_z (if i < 2 * k then -W i else W i)) → wY_mirror_2 post (nI n) mt mb wt wb tp bt (d + 1) (nI k) ow ta wa := by
  intro d
  induction d with
  | zero =>
    intro k hk ow wa ho hw
    obtain rfl : k = n := by omega
    refine pk_le k k (fun _ => h ow wa (fun q hq => ?_) (fun i hi => ?_)) (fun h => absurd h (by omega))
    · rw [ho q hq, if_pos hq]
    · rw [hw i hi, if_pos hi]
  | succ d ih =>
    intro k hk ow wa ho hw
    have hb := mp_bit_le M k
    have e1 : (1 : Int32) - nI (mp_bit M k) = nI (mp_bit (2 ^ n - 1 - M) k) := by
      rw [mp_mir_bit n (by omega) M hM k (by omega)]; exact pk_sub (a := 1) hb
    refine pk_le n k (fun h => absurd h (by omega)) (fun _ => ?_)
    rw [mp_2, nI_1 (2 * k), nI_clamp (by omega), nI_clamp (by omega), nI_clamp (by omega)]
    refine ⟨vp_in_nI (by omega) (by omega), vp_in_nI (by omega) (by omega), nm_e ⟨vp_in_nI (by omega) (by omega), vp_in_nI (by omega) (by omega), nm_e ⟨vp_in_nI (by omega) (by omega), vp_in_nI (by omega) (by omega), nm_e (nm_r (nI_1 k) (ih (k + 1) (by omega) _ _ (fun q hq => ?_) (fun i hi => ?_)))⟩⟩⟩
    · by_cases e : q = k
      · subst e
        rw [pk_us, ho q hq, if_neg (by omega), if_pos (by omega), e1]
      · rw [pk_un e, ho q hq]
        by_cases hl : q < k
        · rw [if_pos hl, if_pos (by omega)]
        · rw [if_neg hl, if_neg (by omega)]
    · by_cases e : i = 2 * k + 1
      · subst e
        rw [pk_us, pk_un (by omega), hw _ hi, if_neg (by omega), if_pos (by omega), mp_zneg]
      · rw [pk_un e]
        by_cases e' : i = 2 * k
        · subst e'
          rw [pk_us, hw _ hi, if_neg (by omega), if_pos (by omega), mp_zneg]
        · rw [pk_un e', hw i hi]
          by_cases hl : i < 2 * k
          · rw [if_pos hl, if_pos (by omega)]
          · rw [if_neg hl, if_neg (by omega)]
theorem i_vc_mirror {k : Nat} {u : SX} {v : SY} (I : i_Rel k u v) (hk : k + 5 ≤ 2561) : wpX_mirror (fun u' => wpY_mirror (fun v' => i_Rel (k + 5) u' v') v) u := by
  obtain ⟨n, M, T, W, ta, wa, ow, tb, wc, mt, mb, wt, wb, tp, bt, rfl, rfl, hX, hY, hM, hO⟩ := I
  have h5 := hX.2.1
  have h2 := mp_p2 hX.1 h5
  refine nm_r (e' := nI (2 ^ n - 1 - M)) (by rw [mp_tsh n (by omega), mp_tfull n (by omega), mp_tmir n (by omega) M hM]) ⟨2 * n + 1, ?_⟩
  refine mx_mir19 (W := W) h5 (fun wa' hw' => ?_) (2 * n) 0 (by omega) wa (fun i hi => by rw [if_neg (by omega)]; exact (hX.2.2 i hi).2.2.2.2)
  refine ⟨n + 1, my_mir2 (W := W) h5 hM (fun ow' wb' ho' hv' => ?_) n 0 (by omega) ow wc (fun q hq => by rw [if_neg (by omega)]; exact hO q hq) (fun i hi => by rw [if_neg (by omega)]; exact (hY.2.2 i hi).2.2.2.2)⟩
  have hb : ∀ i, i < 2 * n → -3 ≤ -W i ∧ -W i ≤ 3 := fun i hi => by
    have := (hX.2.2 i hi).2.1
    have := (hX.2.2 i hi).2.2.1
    omega
  exact mp_rel (mp_X_w (W' := fun i => -W i) hX hb hw') (mp_X_w (W' := fun i => -W i) hY hb hv') (by omega) ho'
end
section
/-! the constructors -/
theorem mp_m0 : ∀ n, n < 6 → (21 : Int32) &&& (nI (2 ^ n) - 1) = nI (21 % 2 ^ n) := by decide +kernel
theorem mp_m0_bit : ∀ n, n < 6 → ∀ q, q < n → mp_bit (21 % 2 ^ n) q = 1 - q % 2 := by decide +kernel
theorem mp_par : ∀ q, q < 5 → ((nI q - nI q / 2 * 2) = 0 ↔ q % 2 = 0) := by decide +kernel
theorem mx_init60 {n : Nat} {mx : Int32} {wa : Nat → Int32} (h5 : n ≤ 5)
    {post : SX → Prop} (h : ∀ ta : Nat → Int32, (∀ i, i < 2 * n → ta i = nI (i / 2)) → post (nI n, mx, ta, wa)) : ∀ d k, k + d = n → ∀ ta : Nat → Int32,
    (∀ i, i < 2 * k → ta i = nI (i / 2)) → wX_init_60 post (nI n) mx (d + 1) (nI k) ta wa := by
  intro d
  induction d with
  | zero =>
    intro k hk ta ht
    obtain rfl : k = n := by omega
    exact pk_le k k (fun _ => h ta ht) (fun h => absurd h (by omega))
  | succ d ih =>
    intro k hk ta ht
    refine pk_le n k (fun h => absurd h (by omega)) (fun _ => ?_)
    rw [mp_2, nI_1 (2 * k), nI_clamp (by omega), nI_clamp (by omega)]
    refine ⟨vp_in_nI (by omega) (by omega), nm_e ⟨vp_in_nI (by omega) (by omega), nm_e (nm_r (nI_1 k) (ih (k + 1) (by omega) _ (fun i hi => ?_)))⟩⟩
    by_cases e : i = 2 * k + 1
    · subst e; rw [pk_us, show (2 * k + 1) / 2 = k by omega]
    · rw [pk_un e]
      by_cases e' : i = 2 * k
      · subst e'; rw [pk_us, show 2 * k / 2 = k by omega]
      · rw [pk_un e']; exact ht i (by omega)
theorem my_init52 {n : Nat} {mt mb wt wb tp bt : Int32} {wa : Nat → Int32}
    {post : SY → Prop} (h : ∀ ow ta : Nat → Int32, (∀ q, q < 5 → ow q = nI (1 - q % 2)) → (∀ i, i < 10 → ta i = nI (i / 2)) → post (nI n, mt, mb, wt, wb, tp, bt, ow, ta, wa)) : ∀ d k, k + d = 5 → ∀ ow ta : Nat → Int32,
    (∀ q, q < k → ow q = nI (1 - q % 2)) → (∀ i, i < 2 * k → ta i = nI (i / 2)) → wY_init_52 post (nI n) mt mb wt wb tp bt (d + 1) (nI k) ow ta wa := by
  intro d
  induction d with
  | zero =>
    intro k hk ow ta ho ht
    obtain rfl : k = 5 := by omega
    exact pk_le 5 5 (fun _ => h ow ta ho ht) (fun h => absurd h (by omega))
  | succ d ih =>
    intro k hk ow ta ho ht
    have key : ∀ z : Nat, z = 1 - k % 2 → wY_init_73 post (wY_init_52 post (nI n) mt mb wt wb tp bt (d + 1)) (nI k) (nI z) (nI k) (nI n) mt mb wt wb tp bt ow ta wa := by
      intro z hz
      unfold wY_init_73
      rw [mp_2, nI_1 (2 * k), nI_clamp (by omega), nI_clamp (by omega), nI_clamp (by omega)]
      refine ⟨vp_in_nI (by omega) (by omega), nm_e ⟨vp_in_nI (by omega) (by omega), nm_e ⟨vp_in_nI (by omega) (by omega), nm_e (nm_r (nI_1 k) (ih (k + 1) (by omega) _ _ (fun q hq => ?_) (fun i hi => ?_)))⟩⟩⟩
      · by_cases e : q = k
        · subst e; rw [pk_us, hz]
        · rw [pk_un e]; exact ho q (by omega)
      · by_cases e : i = 2 * k + 1
        · subst e; rw [pk_us, show (2 * k + 1) / 2 = k by omega]
        · rw [pk_un e]
          by_cases e' : i = 2 * k
          · subst e'; rw [pk_us, show 2 * k / 2 = k by omega]
          · rw [pk_un e']; exact ht i (by omega)
    refine pk_le 5 k (fun h => absurd h (by omega)) (fun _ => ⟨by decide, mp_bif (mp_par k (by omega)) (fun h0 => ?_) (fun h0 => ?_)⟩)
    · exact key 1 (by omega)
    · exact key 0 (by omega)
theorem mx_init {n : Nat} (h5 : n ≤ 5) {post : SX → Prop} (h : ∀ ta : Nat → Int32, (∀ i, i < 2 * n → ta i = nI (i / 2)) → post (nI n, nI (21 % 2 ^ n), ta, fun _ => 0)) :
    wX_init_40 post (nI n) 0 0 (fun _ => 0) (fun _ => 0) := by
  refine nm_r (e' := nI (21 % 2 ^ n)) (by rw [mp_tsh n (by omega), mp_m0 n (by omega)]) ⟨n + 1, ?_⟩
  exact mx_init60 h5 h n 0 (by omega) _ (fun i hi => absurd hi (by omega))
theorem my_init {n : Nat} {post : SY → Prop} (h : ∀ ow ta : Nat → Int32, (∀ q, q < 5 → ow q = nI (1 - q % 2)) → (∀ i, i < 10 → ta i = nI (i / 2)) → post (nI n, 0, 0, 0, 0, 0, 0, ow, ta, fun _ => 0)) :
    ∃ n52 : Nat, wY_init_52 post (nI n) 0 0 0 0 0 0 n52 0 (fun _ => 0) (fun _ => 0) (fun _ => 0) :=
  ⟨6, my_init52 h 5 0 rfl _ _ (fun i hi => absurd hi (by omega)) (fun i hi => absurd hi (by omega))⟩
theorem mp_ini {k n : Nat} {ta ow tb : Nat → Int32} (h1 : 1 ≤ n) (h5 : n ≤ 5) (ht : ∀ i, i < 2 * n → ta i = nI (i / 2)) (ho : ∀ q, q < 5 → ow q = nI (1 - q % 2)) (hb : ∀ i, i < 10 → tb i = nI (i / 2)) :
    i_Rel k (nI n, nI (21 % 2 ^ n), ta, fun _ => 0) (nI n, 0, 0, 0, 0, 0, 0, ow, tb, fun _ => 0) := by
  have h2 := mp_p2 h1 h5
  have z0 : (0 : Int32) = mp_z 0 := mp_z0.symm
  refine mp_rel (T := fun i => i / 2) (W := fun _ => 0) ⟨h1, h5, fun i hi => ?_⟩ ⟨h1, h5, fun i hi => ?_⟩ (Nat.mod_lt _ (by omega)) (fun q hq => ?_)
  · dsimp only
    exact ⟨by omega, by omega, by omega, ht i hi, z0⟩
  · dsimp only
    exact ⟨by omega, by omega, by omega, hb i (by omega), z0⟩
  · rw [mp_m0_bit n (by omega) q hq]; exact ho q (by omega)
theorem i_vc0 (k0 : Int32) : wpX_init (fun u => wpY_init (fun v => i_Rel 1 u v) k0) k0 := by
  by_cases a : 1 ≤ k0
  · by_cases b : k0 ≤ 5
    · obtain ⟨j, hj, rfl⟩ := nI_of2 (M := 5) (n := 5) (x := k0) (by decide) (fun z => absurd (Int32.le_trans a (Int32.le_of_lt z)) (by decide)) b
      have h1 : 1 ≤ j := (nI_leI (a := 1) (by omega) (by omega)).mp a
      exact br_t a (br_t b (mx_init hj (fun ta ht => br_t a (br_t b (my_init (fun ow tb ho hb => mp_ini h1 hj ht ho hb))))))
    · exact br_t a (br_f b (mx_init (n := 5) (by omega) (fun ta ht => br_t a (br_f b (my_init (n := 5) (fun ow tb ho hb => mp_ini (n := 5) (by omega) (by omega) ht ho hb))))))
  · exact br_f a (mx_init (n := 1) (by omega) (fun ta ht => br_f a (my_init (n := 1) (fun ow tb ho hb => mp_ini (n := 1) (by omega) (by omega) ht ho hb))))
end
