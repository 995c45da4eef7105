/-! the value is a fraction in lowest terms; numerator, denominator, atLeast, sixtieths, winning -/
theorem mp_wo_at {m : Nat → Int} (h : mp_ok m) (o : Nat) {M : Nat} (hM : M < 32) : ∀ k, k < 32 → ∃ c, c < 32 ∧ mp_wo m o M (k + 1) = m c := by
  intro k
  induction k with
  | zero =>
    intro _
    have h2 := h (M ||| 0) (mp_or32 hM (by omega))
    have e0 : mp_wo m o M 0 = 181 := rfl
    exact ⟨M ||| 0, mp_or32 hM (by omega), mp_wo_lt (Nat.zero_and o) (by rw [e0]; omega)⟩
  | succ k ih =>
    intro hk
    by_cases h0 : (k + 1) &&& o = 0
    · by_cases h1 : m (M ||| (k + 1)) < mp_wo m o M (k + 1)
      · exact ⟨M ||| (k + 1), mp_or32 hM (by omega), mp_wo_lt h0 h1⟩
      · rw [mp_wo_ge h0 h1]; exact ih (by omega)
    · rw [mp_wo_no h0]; exact ih (by omega)
theorem mp_va_at {w : Nat → Int} (h : mp_ok w) (o : Nat) : ∀ k, k < 32 → ∃ c, c < 32 ∧ mp_va w o (k + 1) = w c := by
  intro k
  induction k with
  | zero =>
    intro _
    have h2 := h 0 (by omega)
    have e0 : mp_va w o 0 = -181 := rfl
    exact ⟨0, by omega, mp_va_lt (Nat.zero_and o) (by rw [e0]; omega)⟩
  | succ k ih =>
    intro hk
    by_cases h0 : (k + 1) &&& o = k + 1
    · by_cases h1 : mp_va w o (k + 1) < w (k + 1)
      · exact ⟨k + 1, by omega, mp_va_lt h0 h1⟩
      · rw [mp_va_ge h0 h1]; exact ih (by omega)
    · rw [mp_va_no h0]; exact ih (by omega)
theorem mp_val_at {n : Nat} (h1 : 1 ≤ n) (h5 : n ≤ 5) {m : Nat → Int} (h : mp_ok m) (o : Nat) : ∃ c, c < 32 ∧ mp_val n m o = m c := by
  have h2 := mp_p2 h1 h5
  obtain ⟨c, hc, e⟩ := mp_va_at (mp_wo_ok h1 h5 h o) o (2 ^ n - 1) (by omega)
  obtain ⟨c', hc', e'⟩ := mp_wo_at h o hc (2 ^ n - 1) (by omega)
  rw [show 2 ^ n - 1 + 1 = 2 ^ n by omega] at e e'
  exact ⟨c', hc', e.trans e'⟩
theorem mp_lowest {V t b N : Int} (hf : mp_fr V t b) (hb : b ≤ N) : ∃ t' b', b' ≤ N ∧ mp_fr V t' b' ∧ mp_low t' b' := by
  obtain ⟨h1, h2, h3, h4, e⟩ := hf
  unfold mp_fr mp_low
  rcases mp_le5i h1 h2 with rfl | rfl | rfl | rfl | rfl
  · exact ⟨t, 1, by omega, by omega, by omega⟩
  · by_cases z : t % 2 = 0
    · exact ⟨t / 2, 1, by omega, by omega, by omega⟩
    · exact ⟨t, 2, by omega, by omega, by omega⟩
  · by_cases z : t % 3 = 0
    · exact ⟨t / 3, 1, by omega, by omega, by omega⟩
    · exact ⟨t, 3, by omega, by omega, by omega⟩
  · by_cases z : t % 4 = 0
    · exact ⟨t / 4, 1, by omega, by omega, by omega⟩
    · by_cases y : t % 2 = 0
      · exact ⟨t / 2, 2, by omega, by omega, by omega⟩
      · exact ⟨t, 4, by omega, by omega, by omega⟩
  · by_cases z : t % 5 = 0
    · exact ⟨t / 5, 1, by omega, by omega, by omega⟩
    · exact ⟨t, 5, by omega, by omega, by omega⟩
theorem mp_m_ok {n p : Nat} {T : Nat → Nat} {W : Nat → Int} {ta wa : Nat → Int32} (hX : mp_X n T W ta wa) (hp : p < n) : mp_ok (mp_m n T W p) := fun c _ => mp_m_bd hX hp c
theorem mp_vfr {n p : Nat} {T : Nat → Nat} {W : Nat → Int} {ta wa : Nat → Int32} (hX : mp_X n T W ta wa) (hp : p < n) (o : Nat) : ∃ t b : Int, b ≤ n ∧ mp_fr (mp_val n (mp_m n T W p) o) t b ∧ mp_low t b := by
  obtain ⟨c, _, e⟩ := mp_val_at hX.1 hX.2.1 (mp_m_ok hX hp) o
  obtain ⟨L, h1, hL, _, _, e'⟩ := mp_cyc (mp_g W c) hX.2.1 (mp_f_lt hX c) hp
  have h5 := hX.2.1
  have hb := mp_sm_bd (mp_g_bd hX c) (mp_at_lt (mp_f_lt hX c) hp) 5 L
  rw [e]
  exact mp_lowest (b := (L : Int)) ⟨by omega, by omega, by omega, by omega, e'⟩ (by omega)
theorem i_vc_numerator {k : Nat} {u : SX} {v : SY} (I : i_Rel k u v) (hk : k + 5 ≤ 2561) (v1 : Int32) : wpX_numerator (fun r => wpY_numerator (fun r' v' => r' = r ∧ i_Rel (k + 5) u v') v v1) u v1 := by
  have R : i_Rel (k + 5) u v := I
  obtain ⟨n, M, T, W, ta, wa, ow, tb, wc, mt, mb, wt, wb, tp, bt, rfl, rfl, hX, hY, hM, hO⟩ := I
  have h5 := hX.2.1
  have hM5 := mp_M32 h5 hM
  unfold wpX_numerator
  dsimp only
  rcases mp_pl v1 h5 with h | ⟨p, hp, rfl⟩
  · refine mx_noplace h (br_t rfl ?_)
    unfold wpY_numerator
    dsimp only
    exact my_noplace h (br_t rfl ⟨rfl, R⟩)
  · refine mx_place h5 hp (br_f (by decide) (mx_valueOf hX hp hM5 ?_))
    obtain ⟨t, b, hb, hf, hl⟩ := mp_vfr hX hp M
    have hv := mp_val_bd hX.1 h5 (mp_m_ok hX hp) M
    refine mx_low h5 hv.1 hv.2 hf hl hb ⟨by decide, ?_⟩
    rw [mx_num hf]
    unfold wpY_numerator
    dsimp only
    refine my_place h5 hp (br_f (by decide) (my_value hY hp hM hO (fun _ _ => rfl) (fun mt mb wt wb t' b' hb' hf' hl' => ?_)))
    have e := (mp_uniq hf' hl' hf hl).mpr rfl
    exact ⟨by rw [e.1], mp_rel hX hY hM hO⟩
theorem i_vc_denominator {k : Nat} {u : SX} {v : SY} (I : i_Rel k u v) (hk : k + 5 ≤ 2561) (v1 : Int32) : wpX_denominator (fun r => wpY_denominator (fun r' v' => r' = r ∧ i_Rel (k + 5) u v') v v1) u v1 := by
  have R : i_Rel (k + 5) u v := I
  obtain ⟨n, M, T, W, ta, wa, ow, tb, wc, mt, mb, wt, wb, tp, bt, rfl, rfl, hX, hY, hM, hO⟩ := I
  have h5 := hX.2.1
  have hM5 := mp_M32 h5 hM
  unfold wpX_denominator
  dsimp only
  rcases mp_pl v1 h5 with h | ⟨p, hp, rfl⟩
  · refine mx_noplace h (br_t rfl ?_)
    unfold wpY_denominator
    dsimp only
    exact my_noplace h (br_t rfl ⟨rfl, R⟩)
  · refine mx_place h5 hp (br_f (by decide) (mx_valueOf hX hp hM5 ?_))
    obtain ⟨t, b, hb, hf, hl⟩ := mp_vfr hX hp M
    have hv := mp_val_bd hX.1 h5 (mp_m_ok hX hp) M
    refine mx_low h5 hv.1 hv.2 hf hl hb ?_
    unfold wpY_denominator
    dsimp only
    refine my_place h5 hp (br_f (by decide) (my_value hY hp hM hO (fun _ _ => rfl) (fun mt mb wt wb t' b' hb' hf' hl' => ?_)))
    have e := (mp_uniq hf' hl' hf hl).mpr rfl
    exact ⟨by rw [e.2], mp_rel hX hY hM hO⟩
theorem mp_cmp {V t b : Int} (a c : Int) (hf : mp_fr V t b) : V * c < a * 60 ↔ t * c < a * b := by
  obtain ⟨h1, h2, _, _, e⟩ := hf
  have e' : V * c * b = 60 * (t * c) := by rw [Int.mul_right_comm, e, Int.mul_assoc]
  generalize V * c = x at *
  generalize t * c = y at *
  rcases mp_le5i h1 h2 with rfl | rfl | rfl | rfl | rfl <;> constructor <;> intro h <;> omega
theorem mp_mulbd {x c : Int} (K : Int) (h1 : -K ≤ x) (h2 : x ≤ K) (hc : 0 ≤ c) : -(K * c) ≤ x * c ∧ x * c ≤ K * c := by
  have a1 := Int.mul_le_mul_of_nonneg_right h1 hc
  have a2 := Int.mul_le_mul_of_nonneg_right h2 hc
  rw [Int.neg_mul] at a1
  exact ⟨a1, a2⟩
theorem mx_reaches {n p M : Nat} {T : Nat → Nat} {W : Nat → Int} {ta wa : Nat → Int32} {a c : Int} (hX : mp_X n T W ta wa) (hp : p < n) (hM : M < 32) (h1 : -100 ≤ a) (h2 : a ≤ 100) (h3 : 1 ≤ c) (h4 : c ≤ 20)
    {post : Int32 → Prop} (h0 : mp_val n (mp_m n T W p) M * c < a * 60 → post 0) (hn : ¬ mp_val n (mp_m n T W p) M * c < a * 60 → post 1) : wpX_reaches post (nI n, nI M, ta, wa) (nI p) (mp_z a) (mp_z c) := by
  unfold wpX_reaches
  dsimp only
  refine mx_valueOf hX hp hM ?_
  have hv := mp_val_bd hX.1 hX.2.1 (mp_m_ok hX hp) M
  have hb := mp_mulbd 180 hv.1 hv.2 (show 0 ≤ c by omega)
  exact mp_blt _ (a * 60) h0 (fun h => hn (by omega)) (mp_zmul _ _) (mp_zmul a 60) (by omega) (by omega) (by omega) (by omega)
theorem my_atLeast {n p M : Nat} {T : Nat → Nat} {W : Nat → Int} {mt mb wt wb tp bt : Int32} {ow ta wa : Nat → Int32} {a c : Int} (hX : mp_X n T W ta wa) (hp : p < n) (hM : M < 2 ^ n) (hO : ∀ q, q < n → ow q = nI (mp_bit M q))
    (h1 : -100 ≤ a) (h2 : a ≤ 100) (h3 : 1 ≤ c) (h4 : c ≤ 20) {post : Int32 → SY → Prop}
    (h0 : mp_val n (mp_m n T W p) M * c < a * 60 → ∀ mt mb wt wb tp bt, post 0 (nI n, mt, mb, wt, wb, tp, bt, ow, ta, wa))
    (hn : ¬ mp_val n (mp_m n T W p) M * c < a * 60 → ∀ mt mb wt wb tp bt, post 1 (nI n, mt, mb, wt, wb, tp, bt, ow, ta, wa)) : wpY_atLeast post (nI n, mt, mb, wt, wb, tp, bt, ow, ta, wa) (nI p) (mp_z a) (mp_z c) := by
  unfold wpY_atLeast
  dsimp only
  refine my_place hX.2.1 hp (br_f (by decide) (my_bound h1 h2 h3 h4 (br_f (by decide) (my_value hX hp hM hO (fun _ _ => rfl) (fun mt mb wt wb t b hb hf hl => ?_)))))
  have hc := mp_cmp a c hf
  have b1 := mp_mulbd 15 hf.2.2.1 hf.2.2.2.1 (show 0 ≤ c by omega)
  have b2 := mp_mulbd 100 h1 h2 (show 0 ≤ b by have := hf.1; omega)
  have b3 := hf.2.1
  exact mp_blt (t * c) (a * b) (fun h => h0 (hc.mpr h) _ _ _ _ _ _) (fun h => hn (fun z => by have := hc.mp z; omega) _ _ _ _ _ _) (mp_zmul _ _) (mp_zmul _ _) (by omega) (by omega) (by omega) (by omega)
theorem my_noAtLeast {n p : Nat} {x y mt mb wt wb tp bt : Int32} {ow ta wa : Nat → Int32} (h5 : n ≤ 5) (hp : p < n) (hx : x < -100 ∨ 100 < x ∨ y < 1 ∨ 20 < y) {post : Int32 → SY → Prop}
    (h : post 0 (nI n, mt, mb, wt, wb, tp, bt, ow, ta, wa)) : wpY_atLeast post (nI n, mt, mb, wt, wb, tp, bt, ow, ta, wa) (nI p) x y := by
  unfold wpY_atLeast
  dsimp only
  exact my_place h5 hp (br_f (by decide) (my_nobound hx (br_t rfl h)))
theorem i_vc_atLeast {k : Nat} {u : SX} {v : SY} (I : i_Rel k u v) (hk : k + 5 ≤ 2561) (v1 : Int32) (v2 : Int32) (v3 : Int32) : wpX_atLeast (fun r => wpY_atLeast (fun r' v' => r' = r ∧ i_Rel (k + 5) u v') v v1 v2 v3) u v1 v2 v3 := by
  have R : i_Rel (k + 5) u v := I
  obtain ⟨n, M, T, W, ta, wa, ow, tb, wc, mt, mb, wt, wb, tp, bt, rfl, rfl, hX, hY, hM, hO⟩ := I
  have h5 := hX.2.1
  have hM5 := mp_M32 h5 hM
  unfold wpX_atLeast
  dsimp only
  rcases mp_pl v1 h5 with h | ⟨p, hp, rfl⟩
  · refine mx_noplace h (br_t rfl ?_)
    unfold wpY_atLeast
    dsimp only
    exact my_noplace h (br_t rfl ⟨rfl, R⟩)
  · refine mx_place h5 hp (br_f (by decide) ?_)
    rcases mp_frc v2 v3 with h | ⟨a, c, h1, h2, h3, h4, rfl, rfl⟩
    · exact mx_nofrac h (br_t rfl (my_noAtLeast h5 hp h ⟨rfl, R⟩))
    · refine mx_frac h1 h2 h3 h4 (br_f (by decide) (mx_reaches hX hp hM5 h1 h2 h3 h4 (fun z => br_t rfl ?_) (fun z => br_f (by decide) ?_)))
      · exact my_atLeast hY hp hM hO h1 h2 h3 h4 (fun _ _ _ _ _ _ _ => ⟨rfl, mp_rel hX hY hM hO⟩) (fun z' => absurd z z')
      · exact my_atLeast hY hp hM hO h1 h2 h3 h4 (fun z' => absurd z' z) (fun _ _ _ _ _ _ _ => ⟨rfl, mp_rel hX hY hM hO⟩)
/-- the number of places below k whose value reaches a / c -/
def mp_wc (f : Nat → Int) (a c : Int) : Nat → Nat
  | 0 => 0
  | k + 1 => if f k * c < a * 60 then mp_wc f a c k else mp_wc f a c k + 1
theorem mx_win15 {n M : Nat} {T : Nat → Nat} {W : Nat → Int} {ta wa : Nat → Int32} {a c : Int} (hX : mp_X n T W ta wa) (hM : M < 32) (h1 : -100 ≤ a) (h2 : a ≤ 100) (h3 : 1 ≤ c) (h4 : c ≤ 20)
    {post : Int32 → Prop} (h : post (nI (mp_wc (fun p => mp_val n (mp_m n T W p) M) a c n))) : ∀ d k, k + d = n →
    wX_winning_15 post (mp_z a) (mp_z c) (nI n) (nI M) ta wa (d + 1) (nI (mp_wc (fun p => mp_val n (mp_m n T W p) M) a c k)) (nI k) := by
  have h5 := hX.2.1
  intro d
  induction d with
  | zero =>
    intro k hk
    obtain rfl : k = n := by omega
    exact pk_le k k (fun _ => h) (fun h => absurd h (by omega))
  | succ d ih =>
    intro k hk
    have ih' := ih (k + 1) (by omega)
    refine pk_le n k (fun h => absurd h (by omega)) (fun _ => mx_reaches hX (by omega) hM h1 h2 h3 h4 (fun z => br_t rfl ?_) (fun z => br_f (by decide) ?_))
    · rw [show mp_wc (fun p => mp_val n (mp_m n T W p) M) a c (k + 1) = mp_wc (fun p => mp_val n (mp_m n T W p) M) a c k from if_pos z] at ih'
      exact nm_r (nI_1 k) ih'
    · rw [show mp_wc (fun p => mp_val n (mp_m n T W p) M) a c (k + 1) = mp_wc (fun p => mp_val n (mp_m n T W p) M) a c k + 1 from if_neg z] at ih'
      exact nm_r (nI_1 _) (nm_r (nI_1 k) ih')
theorem my_win5 {n M : Nat} {T : Nat → Nat} {W : Nat → Int} {ow ta wa : Nat → Int32} {a c : Int} (hX : mp_X n T W ta wa) (hM : M < 2 ^ n) (hO : ∀ q, q < n → ow q = nI (mp_bit M q)) (h1 : -100 ≤ a) (h2 : a ≤ 100) (h3 : 1 ≤ c) (h4 : c ≤ 20)
    {post : Int32 → SY → Prop} (h : ∀ mt mb wt wb tp bt, post (nI (mp_wc (fun p => mp_val n (mp_m n T W p) M) a c n)) (nI n, mt, mb, wt, wb, tp, bt, ow, ta, wa)) : ∀ d k, k + d = n → ∀ mt mb wt wb tp bt : Int32,
    wY_winning_5 post (mp_z a) (mp_z c) (d + 1) (nI (mp_wc (fun p => mp_val n (mp_m n T W p) M) a c k)) (nI k) (nI n) mt mb wt wb tp bt ow ta wa := by
  have h5 := hX.2.1
  intro d
  induction d with
  | zero =>
    intro k hk mt mb wt wb tp bt
    obtain rfl : k = n := by omega
    exact pk_le k k (fun _ => h _ _ _ _ _ _) (fun h => absurd h (by omega))
  | succ d ih =>
    intro k hk mt mb wt wb tp bt
    have ih' := ih (k + 1) (by omega)
    refine pk_le n k (fun h => absurd h (by omega)) (fun _ => my_atLeast hX (by omega) hM hO h1 h2 h3 h4 (fun z mt mb wt wb tp bt => br_t rfl ?_) (fun z mt mb wt wb tp bt => br_f (by decide) ?_))
    · rw [show mp_wc (fun p => mp_val n (mp_m n T W p) M) a c (k + 1) = mp_wc (fun p => mp_val n (mp_m n T W p) M) a c k from if_pos z] at ih'
      exact nm_r (nI_1 k) (ih' _ _ _ _ _ _)
    · rw [show mp_wc (fun p => mp_val n (mp_m n T W p) M) a c (k + 1) = mp_wc (fun p => mp_val n (mp_m n T W p) M) a c k + 1 from if_neg z] at ih'
      exact nm_r (nI_1 _) (nm_r (nI_1 k) (ih' _ _ _ _ _ _))
theorem my_nowin5 {n : Nat} {x y mt mb wt wb tp bt : Int32} {ow ta wa : Nat → Int32} (h5 : n ≤ 5) (hx : x < -100 ∨ 100 < x ∨ y < 1 ∨ 20 < y)
    {post : Int32 → SY → Prop} (h : post 0 (nI n, mt, mb, wt, wb, tp, bt, ow, ta, wa)) : ∀ d k, k + d = n → wY_winning_5 post x y (d + 1) 0 (nI k) (nI n) mt mb wt wb tp bt ow ta wa := by
  intro d
  induction d with
  | zero =>
    intro k hk
    obtain rfl : k = n := by omega
    exact pk_le k k (fun _ => h) (fun h => absurd h (by omega))
  | succ d ih =>
    intro k hk
    exact pk_le n k (fun h => absurd h (by omega)) (fun _ => my_noAtLeast h5 (by omega) hx (br_t rfl (nm_r (nI_1 k) (ih (k + 1) (by omega)))))
theorem i_vc_winning {k : Nat} {u : SX} {v : SY} (I : i_Rel k u v) (hk : k + 5 ≤ 2561) (v1 : Int32) (v2 : Int32) : wpX_winning (fun r => wpY_winning (fun r' v' => r' = r ∧ i_Rel (k + 5) u v') v v1 v2) u v1 v2 := by
  have R : i_Rel (k + 5) u v := I
  obtain ⟨n, M, T, W, ta, wa, ow, tb, wc, mt, mb, wt, wb, tp, bt, rfl, rfl, hX, hY, hM, hO⟩ := I
  have h5 := hX.2.1
  have hM5 := mp_M32 h5 hM
  unfold wpX_winning
  dsimp only
  rcases mp_frc v1 v2 with h | ⟨a, c, h1, h2, h3, h4, rfl, rfl⟩
  · exact mx_nofrac h (br_t rfl ⟨n + 1, my_nowin5 h5 h ⟨rfl, R⟩ n 0 (by omega)⟩)
  · refine mx_frac h1 h2 h3 h4 (br_f (by decide) ⟨n + 1, mx_win15 hX hM5 h1 h2 h3 h4 ?_ n 0 (by omega)⟩)
    exact ⟨n + 1, my_win5 hY hM hO h1 h2 h3 h4 (fun _ _ _ _ _ _ => ⟨rfl, mp_rel hX hY hM hO⟩) n 0 (by omega) _ _ _ _ _ _⟩
theorem my_six21 {n : Nat} {V t b : Int} {mt mb wt wb : Int32} {ow ta wa : Nat → Int32} (hf : mp_fr V t b) (hv1 : -180 ≤ V) (hv2 : V ≤ 180)
    {post : Int32 → SY → Prop} (h : post (mp_z V) (nI n, mt, mb, wt, wb, mp_z t, mp_z b, ow, ta, wa)) : ∀ (d : Nat) (r : Int), -3000 ≤ r → r + d = V →
    wY_sixtieths_21 post (nI n) mt mb wt wb (mp_z t) (mp_z b) ow ta wa (d + 1) (mp_z r) := by
  obtain ⟨h1, h2, h3, h4, e⟩ := hf
  have key : ∀ r : Int, -3000 ≤ r → r ≤ 180 → ((60 * t < (r + 1) * b ↔ V < r + 1) ∧ -1000000 ≤ (r + 1) * b ∧ (r + 1) * b ≤ 1000000) := by
    intro r hr1 hr2
    rcases mp_le5i h1 h2 with rfl | rfl | rfl | rfl | rfl <;> omega
  intro d
  induction d with
  | zero =>
    intro r hr hd
    obtain rfl : r = V := by omega
    obtain ⟨k1, k2, k3⟩ := key r hr hv2
    refine mp_ble 3000 r (fun h => absurd h (by omega)) (fun _ => ?_) (by decide) rfl
    exact mp_blt (60 * t) ((r + 1) * b) (fun _ => h) (fun h => absurd (k1.mpr (by omega)) (by omega)) (mp_zmul 60 t) (by rw [← mp_zmul, ← mp_zadd]; rfl)
  | succ d ih =>
    intro r hr hd
    obtain ⟨k1, k2, k3⟩ := key r hr (by omega)
    refine mp_ble 3000 r (fun h => absurd h (by omega)) (fun _ => ?_) (by decide) rfl
    refine mp_blt (60 * t) ((r + 1) * b) (fun h => absurd (k1.mp h) (by omega)) (fun _ => ?_) (mp_zmul 60 t) (by rw [← mp_zmul, ← mp_zadd]; rfl)
    exact nm_r (mp_zadd r 1) (ih (r + 1) (by omega) (by omega))
theorem i_vc_sixtieths {k : Nat} {u : SX} {v : SY} (I : i_Rel k u v) (hk : k + 5 ≤ 2561) (v1 : Int32) : wpX_sixtieths (fun r => wpY_sixtieths (fun r' v' => r' = r ∧ i_Rel (k + 5) u v') v v1) u v1 := by
  have R : i_Rel (k + 5) u v := I
  obtain ⟨n, M, T, W, ta, wa, ow, tb, wc, mt, mb, wt, wb, tp, bt, rfl, rfl, hX, hY, hM, hO⟩ := I
  have h5 := hX.2.1
  have hM5 := mp_M32 h5 hM
  unfold wpX_sixtieths
  dsimp only
  rcases mp_pl v1 h5 with h | ⟨p, hp, rfl⟩
  · refine mx_noplace h (br_t rfl ?_)
    unfold wpY_sixtieths
    dsimp only
    exact my_noplace h (br_t rfl ⟨rfl, R⟩)
  · refine mx_place h5 hp (br_f (by decide) (mx_valueOf hX hp hM5 ?_))
    have hv := mp_val_bd hX.1 h5 (mp_m_ok hX hp) M
    unfold wpY_sixtieths
    dsimp only
    refine my_place h5 hp (br_f (by decide) (my_value hY hp hM hO (fun _ _ => rfl) (fun mt mb wt wb t' b' hb' hf' hl' => ?_)))
    have e := my_six21 (mt := mt) (mb := mb) (wt := wt) (wb := wb) (ow := ow) (ta := tb) (wa := wc) (n := n) (post := fun r' v' => r' = mp_z (mp_val n (mp_m n T W p) M) ∧ i_Rel (k + 5) (nI n, nI M, ta, wa) v') hf' hv.1 hv.2 ⟨rfl, mp_rel hX hY hM hO⟩
      (mp_val n (mp_m n T W p) M + 3000).toNat (-3000) (by omega) (by omega)
    exact ⟨_, e⟩
