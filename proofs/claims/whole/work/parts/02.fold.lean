/-! the value as the best of the worst; fractions against sixtieths -/
def mp_wo (m : Nat → Int) (o M : Nat) : Nat → Int
  | 0 => 181
  | k + 1 => if k &&& o = 0 then (if m (M ||| k) < mp_wo m o M k then m (M ||| k) else mp_wo m o M k) else mp_wo m o M k
def mp_va (w : Nat → Int) (o : Nat) : Nat → Int
  | 0 => -181
  | k + 1 => if k &&& o = k then (if mp_va w o k < w k then w k else mp_va w o k) else mp_va w o k
/-- the value of a place in sixtieths: m has the mean of each choice, o is MAX's places, 2 ^ n the number of choices -/
def mp_val (n : Nat) (m : Nat → Int) (o : Nat) : Int := mp_va (fun M => mp_wo m o M (2 ^ n)) o (2 ^ n)
def mp_ok (m : Nat → Int) : Prop := ∀ c, c < 32 → -180 ≤ m c ∧ m c ≤ 180
theorem mp_or32 {a b : Nat} (ha : a < 32) (hb : b < 32) : a ||| b < 32 := Nat.or_lt_two_pow (n := 5) ha hb
theorem mp_wo_bd {m : Nat → Int} (h : mp_ok m) (o : Nat) {M : Nat} (hM : M < 32) : ∀ k, k ≤ 32 → -180 ≤ mp_wo m o M k ∧ mp_wo m o M k ≤ 181 := by
  intro k
  induction k with
  | zero => intro _; exact ⟨by show _ ≤ (181 : Int); omega, by show (181 : Int) ≤ _; omega⟩
  | succ k ih =>
    intro hk
    have h1 := ih (by omega)
    have h2 := h (M ||| k) (mp_or32 hM (by omega))
    unfold mp_wo
    split
    · split <;> omega
    · exact h1
theorem mp_wo_bd1 {m : Nat → Int} (h : mp_ok m) (o : Nat) {M : Nat} (hM : M < 32) : ∀ k, k < 32 → -180 ≤ mp_wo m o M (k + 1) ∧ mp_wo m o M (k + 1) ≤ 180 := by
  intro k
  induction k with
  | zero =>
    intro _
    have h2 := h (M ||| 0) (mp_or32 hM (by omega))
    have e : mp_wo m o M (0 + 1) = if 0 &&& o = 0 then (if m (M ||| 0) < 181 then m (M ||| 0) else 181) else 181 := rfl
    rw [e, if_pos (Nat.zero_and o)]
    split <;> omega
  | succ k ih =>
    intro hk
    have h1 := ih (by omega)
    have h2 := h (M ||| (k + 1)) (mp_or32 hM (by omega))
    have e : mp_wo m o M (k + 1 + 1) = if (k + 1) &&& o = 0 then (if m (M ||| (k + 1)) < mp_wo m o M (k + 1) then m (M ||| (k + 1)) else mp_wo m o M (k + 1)) else mp_wo m o M (k + 1) := rfl
    rw [e]
    split
    · split <;> omega
    · exact h1
theorem mp_va_bd {w : Nat → Int} (h : mp_ok w) (o : Nat) : ∀ k, k ≤ 32 → -181 ≤ mp_va w o k ∧ mp_va w o k ≤ 180 := by
  intro k
  induction k with
  | zero => intro _; exact ⟨by show _ ≤ (-181 : Int); omega, by show (-181 : Int) ≤ _; omega⟩
  | succ k ih =>
    intro hk
    have h1 := ih (by omega)
    have h2 := h k (by omega)
    unfold mp_va
    split
    · split <;> omega
    · exact h1
theorem mp_va_bd1 {w : Nat → Int} (h : mp_ok w) (o : Nat) : ∀ k, k < 32 → -180 ≤ mp_va w o (k + 1) ∧ mp_va w o (k + 1) ≤ 180 := by
  intro k
  induction k with
  | zero =>
    intro _
    have h2 := h 0 (by omega)
    have e : mp_va w o (0 + 1) = if 0 &&& o = 0 then (if -181 < w 0 then w 0 else -181) else -181 := rfl
    rw [e, if_pos (Nat.zero_and o)]
    split <;> omega
  | succ k ih =>
    intro hk
    have h1 := ih (by omega)
    have h2 := h (k + 1) (by omega)
    have e : mp_va w o (k + 1 + 1) = if (k + 1) &&& o = k + 1 then (if mp_va w o (k + 1) < w (k + 1) then w (k + 1) else mp_va w o (k + 1)) else mp_va w o (k + 1) := rfl
    rw [e]
    split
    · split <;> omega
    · exact h1
theorem mp_p2 {n : Nat} (h1 : 1 ≤ n) (h5 : n ≤ 5) : 2 ≤ 2 ^ n ∧ 2 ^ n ≤ 32 := by
  rcases mp_le5 h1 h5 with rfl | rfl | rfl | rfl | rfl <;> decide
theorem mp_wo_ok {n : Nat} (h1 : 1 ≤ n) (h5 : n ≤ 5) {m : Nat → Int} (h : mp_ok m) (o : Nat) : mp_ok (fun M => mp_wo m o M (2 ^ n)) := by
  intro c hc
  have h2 := mp_p2 h1 h5
  have h3 := mp_wo_bd1 h o hc (2 ^ n - 1) (by omega)
  rw [show 2 ^ n - 1 + 1 = 2 ^ n by omega] at h3
  exact h3
theorem mp_val_bd {n : Nat} (h1 : 1 ≤ n) (h5 : n ≤ 5) {m : Nat → Int} (h : mp_ok m) (o : Nat) : -180 ≤ mp_val n m o ∧ mp_val n m o ≤ 180 := by
  have h2 := mp_p2 h1 h5
  have h3 := mp_va_bd1 (mp_wo_ok h1 h5 h o) o (2 ^ n - 1) (by omega)
  rw [show 2 ^ n - 1 + 1 = 2 ^ n by omega] at h3
  exact h3

/-- the fraction t / b is V sixtieths -/
def mp_fr (V t b : Int) : Prop := 1 ≤ b ∧ b ≤ 5 ∧ -15 ≤ t ∧ t ≤ 15 ∧ V * b = 60 * t
theorem mp_cross {V t b V' t' b' : Int} (h : mp_fr V t b) (h' : mp_fr V' t' b') : t * b' < t' * b ↔ V < V' := by
  obtain ⟨h1, h2, _, _, e⟩ := h
  obtain ⟨h1', h2', _, _, e'⟩ := h'
  rcases mp_le5i h1 h2 with rfl | rfl | rfl | rfl | rfl <;> rcases mp_le5i h1' h2' with rfl | rfl | rfl | rfl | rfl <;> constructor <;> intro h <;> omega
def mp_low (t b : Int) : Prop := b = 1 ∨ (b = 2 ∧ t % 2 ≠ 0) ∨ (b = 3 ∧ t % 3 ≠ 0) ∨ (b = 4 ∧ t % 2 ≠ 0) ∨ (b = 5 ∧ t % 5 ≠ 0)
theorem mp_uniq {V t b V' t' b' : Int} (h : mp_fr V t b) (l : mp_low t b) (h' : mp_fr V' t' b') (l' : mp_low t' b') : (t = t' ∧ b = b') ↔ V = V' := by
  obtain ⟨h1, h2, _, _, e⟩ := h
  obtain ⟨h1', h2', _, _, e'⟩ := h'
  unfold mp_low at l l'
  rcases mp_le5i h1 h2 with rfl | rfl | rfl | rfl | rfl <;> rcases mp_le5i h1' h2' with rfl | rfl | rfl | rfl | rfl <;> constructor <;> intro h <;> omega
/-- no d below b makes V * d a multiple of 60 -/
theorem mp_den {V t b : Int} (h : mp_fr V t b) (l : mp_low t b) {d : Int} (h1 : 1 ≤ d) (hd : d < b) : ¬ (60 : Int) ∣ V * d := by
  obtain ⟨hb1, hb2, _, _, e⟩ := h
  unfold mp_low at l
  rcases mp_le5i hb1 hb2 with rfl | rfl | rfl | rfl | rfl <;> rcases mp_le5i h1 (by omega) with rfl | rfl | rfl | rfl | rfl <;> intro h <;> omega
/-- the state of the reduction: every e above d fails to divide both -/
def mp_red (d t b : Int) : Prop := ∀ e, d < e → e ≤ 5 → ¬ (e ∣ t ∧ e ∣ b)
theorem mp_red_low {t b : Int} (h1 : 1 ≤ b) (h2 : b ≤ 5) (h : mp_red 1 t b) : mp_low t b := by
  have a2 := h 2 (by omega) (by omega)
  have a3 := h 3 (by omega) (by omega)
  have a4 := h 4 (by omega) (by omega)
  have a5 := h 5 (by omega) (by omega)
  unfold mp_low
  rcases mp_le5i h1 h2 with rfl | rfl | rfl | rfl | rfl <;> omega
theorem mp_red_no {d t b : Int} (h : mp_red d t b) (hn : ¬ (d ∣ t ∧ d ∣ b)) : mp_red (d - 1) t b := by
  intro e he h5
  by_cases ed : e = d
  · subst ed; exact hn
  · exact h e (by omega) h5
theorem mp_red_yes {d t b V : Int} (hd1 : 2 ≤ d) (hd2 : d ≤ 5) (hf : mp_fr V t b) (h : mp_red d t b) (ht : d ∣ t) (hb : d ∣ b) : ∃ t' b', t = d * t' ∧ b = d * b' ∧ mp_fr V t' b' ∧ mp_red (d - 1) t' b' := by
  obtain ⟨t', rfl⟩ := ht
  obtain ⟨b', rfl⟩ := hb
  obtain ⟨h1, h2, h3, h4, e⟩ := hf
  have hd : d = 2 ∨ d = 3 ∨ d = 4 ∨ d = 5 := by omega
  have a3 := h 3
  have a4 := h 4
  have a5 := h 5
  refine ⟨t', b', rfl, rfl, ?_, ?_⟩
  · unfold mp_fr
    rcases hd with rfl | rfl | rfl | rfl
    · have hb' : b' = 1 ∨ b' = 2 := by omega
      rcases hb' with rfl | rfl <;> omega
    · have hb' : b' = 1 := by omega
      subst hb'; omega
    · have hb' : b' = 1 := by omega
      subst hb'; omega
    · have hb' : b' = 1 := by omega
      subst hb'; omega
  · intro x hx h5 ⟨q1, q2⟩
    rcases hd with rfl | rfl | rfl | rfl
    · have hb' : b' = 1 ∨ b' = 2 := by omega
      have he' : x = 2 ∨ x = 3 ∨ x = 4 ∨ x = 5 := by omega
      rcases hb' with rfl | rfl <;> rcases he' with rfl | rfl | rfl | rfl <;> omega
    · have hb' : b' = 1 := by omega
      have he' : x = 3 ∨ x = 4 ∨ x = 5 := by omega
      subst hb'; rcases he' with rfl | rfl | rfl <;> omega
    · have hb' : b' = 1 := by omega
      have he' : x = 4 ∨ x = 5 := by omega
      subst hb'; rcases he' with rfl | rfl <;> omega
    · have hb' : b' = 1 := by omega
      have he' : x = 5 := by omega
      subst hb'; subst he'; omega
