/-! the reference's value: the loop over MAX's choices, then the reduction -/
theorem my_red97 {n : Nat} {V : Int} {mt mb wt wb : Int32} {ow ta wa : Nat → Int32}
    {post : SY → Prop} (h : ∀ t b : Int, b ≤ n → mp_fr V t b → mp_low t b → post (nI n, mt, mb, wt, wb, mp_z t, mp_z b, ow, ta, wa)) : ∀ d : Nat, d < 5 → ∀ t b : Int, b ≤ n → mp_fr V t b → mp_red ((d : Int) + 1) t b →
    wY_value_97 post (nI n) mt mb wt wb ow ta wa (d + 1) (nI (d + 1)) (mp_z t) (mp_z b) := by
  intro d
  induction d with
  | zero =>
    intro _ t b hb hf hr
    exact pk_le 1 1 (fun _ => h t b hb hf (mp_red_low hf.1 hf.2.1 hr)) (fun h => absurd h (by omega))
  | succ d ih =>
    intro hd t b hb hf hr
    have hf' := hf
    obtain ⟨h1, h2, h3, h4, e⟩ := hf'
    have hz : ¬ nI (d + 1 + 1) = 0 := nI_ne0 (by omega) (by omega)
    have ez : nI (d + 1 + 1) = mp_z ((d : Int) + 2) := by rw [mp_zn]; rfl
    have em : nI (d + 1 + 1) + (-1) = nI (d + 1) := pk_m1 (d + 1)
    have e1 : (mp_z t - mp_z t / nI (d + 1 + 1) * nI (d + 1 + 1)) = 0 ↔ ((d : Int) + 2) ∣ t := by
      rw [ez]; exact mp_zrem0 _ (by omega) (by omega) (by omega) (by omega)
    have e2 : (mp_z b - mp_z b / nI (d + 1 + 1) * nI (d + 1 + 1)) = 0 ↔ ((d : Int) + 2) ∣ b := by
      rw [ez]; exact mp_zrem0 _ (by omega) (by omega) (by omega) (by omega)
    have er : (((d + 1 : Nat) : Int) + 1) = (d : Int) + 2 := by omega
    rw [er] at hr
    refine pk_le (d + 1 + 1) 1 (fun h => absurd h (by omega)) (fun _ => ⟨hz, mp_bif e1 (fun ht => ⟨hz, mp_bif e2 (fun hbd => ⟨hz, ?_⟩) (fun hn => ?_)⟩) (fun hn => ?_)⟩)
    · obtain ⟨t', b', rfl, rfl, hf', hr'⟩ := mp_red_yes (by omega) (by omega) hf hr ht hbd
      have ih' := ih (by omega) t' b' (by
        have h7 := hf'.1
        have hd4 : d = 0 ∨ d = 1 ∨ d = 2 ∨ d = 3 := by omega
        rcases hd4 with rfl | rfl | rfl | rfl <;> omega) hf' (by rw [show (d : Int) + 1 = (d : Int) + 2 - 1 by omega]; exact hr')
      refine nm_r (e' := mp_z t') ?_ ⟨hz, nm_r (e' := mp_z b') ?_ (nm_r em ih')⟩
      · rw [ez, mp_zdiv (by omega) (by omega) (by omega) (by omega), Int.mul_tdiv_cancel_left _ (by omega)]
      · rw [ez, mp_zdiv (by omega) (by omega) (by omega) (by omega), Int.mul_tdiv_cancel_left _ (by omega)]
    · have hr' := mp_red_no hr (fun hh => hn hh.2)
      rw [show (d : Int) + 2 - 1 = (d : Int) + 1 by omega] at hr'
      exact nm_r em (ih (by omega) t b hb hf hr')
    · have hr' := mp_red_no hr (fun hh => hn hh.1)
      rw [show (d : Int) + 2 - 1 = (d : Int) + 1 by omega] at hr'
      exact nm_r em (ih (by omega) t b hb hf hr')
theorem my_value20 {n p o : Nat} {T : Nat → Nat} {W : Nat → Int} {m : Nat → Int} {ow ta wa : Nat → Int32} (hX : mp_X n T W ta wa) (hp : p < n) (ho : o < 2 ^ n)
    (hm : ∀ c, c < 32 → m c = mp_m n T W p c)
    {post : SY → Prop} (h : ∀ (mt mb wt wb : Int32) (t b : Int), b ≤ n → mp_fr (mp_val n m o) t b → mp_low t b → post (nI n, mt, mb, wt, wb, mp_z t, mp_z b, ow, ta, wa)) : ∀ d k, k + d = 32 →
    ∀ mt mb wt wb tp bt : Int32, mp_so n k (mp_va (fun M => mp_wo m o M (2 ^ n)) o (min k (2 ^ n))) tp bt →
    wY_value_20 post (nI p) (nI o) (nI (2 ^ n - 1 - o)) (d + 1) (nI k) (nI n) mt mb wt wb tp bt ow ta wa := by
  have h5 := hX.2.1
  have h2 := mp_p2 hX.1 h5
  have hok : mp_ok m := fun c hc => by rw [hm c hc]; exact mp_m_bd hX hp c
  have hok2 := mp_wo_ok hX.1 h5 hok o
  intro d
  induction d with
  | zero =>
    intro k hk mt mb wt wb tp bt hs
    obtain rfl : k = 32 := by omega
    refine pk_le 32 32 (fun _ => ?_) (fun h => absurd h (by omega))
    rcases hs with ⟨h0, _⟩ | ⟨_, t, b, rfl, rfl, hb, hf⟩
    · exact absurd h0 (by omega)
    · rw [show min 32 (2 ^ n) = 2 ^ n by omega] at hf
      exact ⟨5, my_red97 (h mt mb wt wb) 4 (by omega) t b hb hf (fun e h1 h2 _ => by omega)⟩
  | succ d ih =>
    intro k hk mt mb wt wb tp bt hs
    have hk5 : k < 32 := by omega
    refine pk_le 32 k (fun h => absurd h (by omega)) (fun _ => ?_)
    refine mp_bif (mp_tandc hk5 (by omega)) (fun h0 => ?_) (fun h0 => ?_)
    · have hkn : k < 2 ^ n := by
        by_cases hh : k < 2 ^ n
        · exact hh
        · exact absurd h0 (mp_big (N := 2 ^ n) (by omega) (by omega))
      rw [show min k (2 ^ n) = k by omega] at hs
      refine my_worst hX hp ho hk5 hm (fun mt mb t b hb hf => ?_)
      rcases hs with ⟨hk0, rfl⟩ | ⟨hk1, t', b', rfl, rfl, hb', hf'⟩
      · refine br_t rfl (nm_r (nI_1 k) ?_)
        refine ih (k + 1) (by omega) _ _ _ _ _ _ (Or.inr ⟨by omega, t, b, rfl, rfl, hb, ?_⟩)
        rw [show min (k + 1) (2 ^ n) = k + 1 by omega, mp_va_lt h0 ?_]
        · exact hf
        · subst hk0
          show (-181 : Int) < _
          have h7 : -180 ≤ mp_wo m o 0 (2 ^ n) := (hok2 0 (by omega)).1
          omega
      · have hz : ¬ mp_z b' = 0 := by
          rw [← mp_z0, mp_zeq (by have := hf'.1; omega) (by have := hf'.2.1; omega) (by omega) (by omega)]
          have := hf'.1
          omega
        refine br_f hz ?_
        have c1 := mp_fr_bd hf' hf
        have c2 := mp_fr_bd hf hf'
        refine mp_ble (t * b') (t' * b) (fun hc => ?_) (fun hc => ?_) (mp_zmul _ _) (mp_zmul _ _) c2.1 c2.2 c1.1 c1.2
        · refine nm_r (nI_1 k) (ih (k + 1) (by omega) _ _ _ _ _ _ (Or.inr ⟨by omega, t', b', rfl, rfl, hb', ?_⟩))
          rw [show min (k + 1) (2 ^ n) = k + 1 by omega, mp_va_ge h0 (fun hlt => ?_)]
          · exact hf'
          · have := (mp_cross hf' hf).mpr hlt
            omega
        · refine nm_r (nI_1 k) (ih (k + 1) (by omega) _ _ _ _ _ _ (Or.inr ⟨by omega, t, b, rfl, rfl, hb, ?_⟩))
          rw [show min (k + 1) (2 ^ n) = k + 1 by omega, mp_va_lt h0 ((mp_cross hf' hf).mp hc)]
          exact hf
    · refine nm_r (nI_1 k) (ih (k + 1) (by omega) _ _ _ _ _ _ ?_)
      have e : mp_va (fun M => mp_wo m o M (2 ^ n)) o (min (k + 1) (2 ^ n)) = mp_va (fun M => mp_wo m o M (2 ^ n)) o (min k (2 ^ n)) := by
        by_cases hkn : k < 2 ^ n
        · rw [show min (k + 1) (2 ^ n) = k + 1 by omega, show min k (2 ^ n) = k by omega]
          exact mp_va_no h0
        · rw [show min (k + 1) (2 ^ n) = 2 ^ n by omega, show min k (2 ^ n) = 2 ^ n by omega]
      rw [e]
      rcases hs with ⟨hk0, _⟩ | ⟨_, hs⟩
      · subst hk0; exact absurd (Nat.zero_and _) h0
      · exact Or.inr ⟨by omega, hs⟩
theorem mp_own1 {n o : Nat} {ow : Nat → Int32} (hO : ∀ q, q < n → ow q = nI (mp_bit o q)) : ∀ q, q < n → (ow q = 1 ↔ mp_bit o q = 1) := by
  intro q hq
  have := mp_bit_le o q
  rw [hO q hq]
  exact nI_eq (b := 1) (by omega) (by omega)
theorem mp_own0 {n o : Nat} {ow : Nat → Int32} (h5 : n ≤ 5) (ho : o < 2 ^ n) (hO : ∀ q, q < n → ow q = nI (mp_bit o q)) : ∀ q, q < n → (ow q = 0 ↔ mp_bit (2 ^ n - 1 - o) q = 1) := by
  intro q hq
  have h1 := mp_bit_le o q
  rw [hO q hq, mp_mir_bit n (by omega) o ho q hq, ← nI_0, nI_eq (by omega) (by omega)]
  omega
theorem my_value {n p o : Nat} {T : Nat → Nat} {W : Nat → Int} {m : Nat → Int} {mt mb wt wb tp bt : Int32} {ow ta wa : Nat → Int32} (hX : mp_X n T W ta wa) (hp : p < n) (ho : o < 2 ^ n)
    (hO : ∀ q, q < n → ow q = nI (mp_bit o q)) (hm : ∀ c, c < 32 → m c = mp_m n T W p c)
    {post : SY → Prop} (h : ∀ (mt mb wt wb : Int32) (t b : Int), b ≤ n → mp_fr (mp_val n m o) t b → mp_low t b → post (nI n, mt, mb, wt, wb, mp_z t, mp_z b, ow, ta, wa)) :
    wpY_value post (nI n, mt, mb, wt, wb, tp, bt, ow, ta, wa) (nI p) := by
  have h5 := hX.2.1
  have h2 := mp_p2 hX.1 h5
  unfold wpY_value
  dsimp only
  refine my_places h5 ho (mp_own1 hO) ?_
  refine my_places (S := 2 ^ n - 1 - o) h5 (by omega) (mp_own0 h5 ho hO) ?_
  exact ⟨33, my_value20 hX hp ho hm h 32 0 rfl _ _ _ _ _ _ (Or.inl ⟨rfl, rfl⟩)⟩
