/-! the reference's private methods against the same picture -/
theorem my_done51 {n c L : Nat} {s x3 : Int32} {t : Int} {wt wb tp bt : Int32} {ow ta wa : Nat → Int32} {post : SY → Prop} (h : post (nI n, mp_z t, nI L, wt, wb, tp, bt, ow, ta, wa)) (d : Nat) :
    wY_mean_51 post (nI c) s (nI n) wt wb tp bt ow ta wa (d + 1) x3 1 (nI L) (mp_z t) (nI L) :=
  br_c (fun _ => h) (fun _ => br_f (by decide) h)
theorem my_mean51 {n p c L : Nat} {T : Nat → Nat} {W : Nat → Int} {wt wb tp bt : Int32} {ow ta wa : Nat → Int32} (hX : mp_X n T W ta wa) (hp : p < n) (hc : c < 32) (hL : L ≤ n)
    (hr : mp_at (mp_f T c) p (5 + L) = mp_at (mp_f T c) p 5) (hn : ∀ j, 1 ≤ j → j < L → mp_at (mp_f T c) p (5 + j) ≠ mp_at (mp_f T c) p 5)
    {post : SY → Prop} (h : post (nI n, mp_z (mp_sm (mp_g W c) (mp_at (mp_f T c) p) 5 L), nI L, wt, wb, tp, bt, ow, ta, wa)) : ∀ d i, i + d + 1 = L →
    wY_mean_51 post (nI c) (nI (mp_at (mp_f T c) p 5)) (nI n) wt wb tp bt ow ta wa (d + 2) (nI (mp_at (mp_f T c) p (5 + i))) 0 (nI i) (mp_z (mp_sm (mp_g W c) (mp_at (mp_f T c) p) 5 i)) (nI i) := by
  have h5 := hX.2.1
  have hs := mp_at_lt (mp_f_lt hX c) hp 5
  intro d
  induction d with
  | zero =>
    intro i hi
    have hq := mp_at_lt (mp_f_lt hX c) hp (5 + i)
    have hk := mp_ixlt c hq
    have hx := hX.2.2 _ hk
    refine pk_le 5 i (fun h => absurd h (by omega)) (fun _ => br_t rfl ?_)
    refine nm_r (mp_ix hc (by omega)) ⟨vp_in_nI (by omega) (by omega), nm_r (e' := mp_z (mp_sm (mp_g W c) (mp_at (mp_f T c) p) 5 (i + 1))) ?_
      (nm_r (nI_1 i) ⟨vp_in_nI (by omega) (by omega), nm_r (e' := nI (mp_at (mp_f T c) p (5 + (i + 1)))) ?_ ?_⟩)⟩
    · rw [nI_clamp (by omega), hx.2.2.2.2, mp_zadd]; rfl
    · rw [nI_clamp (by omega), hx.2.2.2.1]; rfl
    · obtain rfl : L = i + 1 := by omega
      rw [hr]
      exact br_t rfl (nm_r (nI_1 i) (my_done51 h 0))
  | succ d ih =>
    intro i hi
    have hq := mp_at_lt (mp_f_lt hX c) hp (5 + i)
    have hq1 := mp_at_lt (mp_f_lt hX c) hp (5 + (i + 1))
    have hk := mp_ixlt c hq
    have hx := hX.2.2 _ hk
    have hne := hn (i + 1) (by omega) (by omega)
    have ih' := ih (i + 1) (by omega)
    refine pk_le 5 i (fun h => absurd h (by omega)) (fun _ => br_t rfl ?_)
    refine nm_r (mp_ix hc (by omega)) ⟨vp_in_nI (by omega) (by omega), nm_r (e' := mp_z (mp_sm (mp_g W c) (mp_at (mp_f T c) p) 5 (i + 1))) ?_
      (nm_r (nI_1 i) ⟨vp_in_nI (by omega) (by omega), nm_r (e' := nI (mp_at (mp_f T c) p (5 + (i + 1)))) ?_ ?_⟩)⟩
    · rw [nI_clamp (by omega), hx.2.2.2.2, mp_zadd]; rfl
    · rw [nI_clamp (by omega), hx.2.2.2.1]; rfl
    · exact br_f (fun e => hne ((nI_eq (by omega) (by omega)).mp e)) (nm_r (nI_1 i) ih')
theorem my_mean5 {n p c : Nat} {T : Nat → Nat} {W : Nat → Int} {mt mb wt wb tp bt : Int32} {ow ta wa : Nat → Int32} (hX : mp_X n T W ta wa) (hp : p < n) (hc : c < 32)
    {post : SY → Prop} (h : ∀ (L : Nat) (t : Int), L ≤ n → mp_fr (mp_m n T W p c) t (L : Int) → post (nI n, mp_z t, nI L, wt, wb, tp, bt, ow, ta, wa)) : ∀ d i, i + d = 5 →
    wY_mean_5 post (nI c) (nI n) mt mb wt wb tp bt ow ta wa (d + 1) (nI (mp_at (mp_f T c) p i)) (nI i) := by
  have h5 := hX.2.1
  intro d
  induction d with
  | zero =>
    intro i hi
    obtain rfl : i = 5 := by omega
    obtain ⟨L, h1, hL, hr, hn, e⟩ := mp_cyc (mp_g W c) h5 (mp_f_lt hX c) hp
    have hb := mp_sm_bd (mp_g_bd hX c) (mp_at_lt (mp_f_lt hX c) hp) 5 L
    have hh := h L _ hL ⟨by omega, by omega, by omega, by omega, e⟩
    have e := my_mean51 hX hp hc hL hr hn hh (L - 1) 0 (by omega)
    simp only [mp_sm, mp_z0, nI_0, Nat.add_zero] at e
    exact pk_le 5 5 (fun _ => ⟨_, e⟩) (fun h => absurd h (by omega))
  | succ d ih =>
    intro i hi
    have hq := mp_at_lt (mp_f_lt hX c) hp i
    have hk := mp_ixlt c hq
    have hx := hX.2.2 _ hk
    have ih' := ih (i + 1) (by omega)
    refine pk_le 5 i (fun h => absurd h (by omega)) (fun _ => ?_)
    rw [mp_ix hc (show mp_at (mp_f T c) p i < 5 by omega)]
    refine ⟨vp_in_nI (by omega) (by omega), nm_r (e' := nI (mp_at (mp_f T c) p (i + 1))) ?_ (nm_r (nI_1 i) ih')⟩
    rw [nI_clamp (by omega), hx.2.2.2.1]; rfl
theorem my_mean {n p c : Nat} {T : Nat → Nat} {W : Nat → Int} {mt mb wt wb tp bt : Int32} {ow ta wa : Nat → Int32} (hX : mp_X n T W ta wa) (hp : p < n) (hc : c < 32)
    {post : SY → Prop} (h : ∀ (L : Nat) (t : Int), L ≤ n → mp_fr (mp_m n T W p c) t (L : Int) → post (nI n, mp_z t, nI L, wt, wb, tp, bt, ow, ta, wa)) :
    wpY_mean post (nI n, mt, mb, wt, wb, tp, bt, ow, ta, wa) (nI p) (nI c) :=
  ⟨6, my_mean5 hX hp hc h 5 0 rfl⟩
/-- the best fraction so far: none yet, or V sixtieths -/
def mp_so (n k : Nat) (V : Int) (wt wb : Int32) : Prop := (k = 0 ∧ wb = 0) ∨ (1 ≤ k ∧ ∃ t b : Int, wt = mp_z t ∧ wb = mp_z b ∧ b ≤ n ∧ mp_fr V t b)
theorem mp_fr_bd {V t b V' t' b' : Int} (h : mp_fr V t b) (h' : mp_fr V' t' b') : -1000000 ≤ t * b' ∧ t * b' ≤ 1000000 := by
  obtain ⟨_, _, _, _, _⟩ := h
  obtain ⟨h1, h2, _⟩ := h'
  rcases mp_le5i h1 h2 with rfl | rfl | rfl | rfl | rfl <;> omega
theorem my_worst8 {n p o M : Nat} {T : Nat → Nat} {W : Nat → Int} {m : Nat → Int} {tp bt : Int32} {ow ta wa : Nat → Int32} (hX : mp_X n T W ta wa) (hp : p < n) (ho : o < 2 ^ n) (hM : M < 32)
    (hm : ∀ c, c < 32 → m c = mp_m n T W p c)
    {post : SY → Prop} (h : ∀ (mt mb : Int32) (t b : Int), b ≤ n → mp_fr (mp_wo m o M (2 ^ n)) t b → post (nI n, mt, mb, mp_z t, mp_z b, tp, bt, ow, ta, wa)) : ∀ d k, k + d = 32 →
    ∀ mt mb wt wb : Int32, mp_so n k (mp_wo m o M (min k (2 ^ n))) wt wb →
    wY_worst_8 post (nI p) (nI M) (nI (2 ^ n - 1 - o)) (d + 1) (nI k) (nI n) mt mb wt wb tp bt ow ta wa := by
  have h5 := hX.2.1
  have h2 := mp_p2 hX.1 h5
  intro d
  induction d with
  | zero =>
    intro k hk mt mb wt wb hs
    obtain rfl : k = 32 := by omega
    refine pk_le 32 32 (fun _ => ?_) (fun h => absurd h (by omega))
    rcases hs with ⟨h0, _⟩ | ⟨_, t, b, rfl, rfl, hb, hf⟩
    · exact absurd h0 (by omega)
    · rw [show min 32 (2 ^ n) = 2 ^ n by omega] at hf
      exact h mt mb t b hb hf
  | succ d ih =>
    intro k hk mt mb wt wb hs
    have hk5 : k < 32 := by omega
    refine pk_le 32 k (fun h => absurd h (by omega)) (fun _ => ?_)
    refine mp_bif (mp_tandc hk5 (by omega)) (fun h0 => ?_) (fun h0 => ?_)
    · have hkn : k < 2 ^ n := by
        by_cases hh : k < 2 ^ n
        · exact hh
        · exact absurd h0 (mp_big (N := 2 ^ n) (by omega) (by omega))
      have h0' := (mp_tco n (by omega) o ho k hkn).mp h0
      rw [show min k (2 ^ n) = k by omega] at hs
      rw [mp_tor M hM k hk5]
      refine my_mean hX hp (mp_or32 hM hk5) (fun L t hL hf => ?_)
      rw [← hm _ (mp_or32 hM hk5)] at hf
      rcases hs with ⟨hk0, rfl⟩ | ⟨hk1, t', b', rfl, rfl, hb', hf'⟩
      · refine br_t rfl (nm_r (nI_1 k) ?_)
        rw [mp_zn L]
        refine ih (k + 1) (by omega) _ _ _ _ (Or.inr ⟨by omega, t, (L : Int), rfl, rfl, by omega, ?_⟩)
        rw [show min (k + 1) (2 ^ n) = k + 1 by omega, mp_wo_lt h0' ?_]
        · exact hf
        · subst hk0
          show _ < (181 : Int)
          rw [hm _ (mp_or32 hM hk5)]
          have := (mp_m_bd hX hp (M ||| 0)).2
          omega
      · have hz : ¬ mp_z b' = 0 := by
          rw [← mp_z0, mp_zeq (by have := hf'.1; omega) (by have := hf'.2.1; omega) (by omega) (by omega)]
          have := hf'.1
          omega
        refine br_f hz ?_
        have c1 := mp_fr_bd hf' hf
        have c2 := mp_fr_bd hf hf'
        refine mp_ble (t' * (L : Int)) (t * b') (fun hc => ?_) (fun hc => ?_) (by rw [mp_zn, mp_zmul]) (mp_zmul _ _) c1.1 c1.2 c2.1 c2.2
        · refine nm_r (nI_1 k) (ih (k + 1) (by omega) _ _ _ _ (Or.inr ⟨by omega, t', b', rfl, rfl, hb', ?_⟩))
          rw [show min (k + 1) (2 ^ n) = k + 1 by omega, mp_wo_ge h0' (fun hlt => ?_)]
          · exact hf'
          · have := (mp_cross hf hf').mpr hlt
            omega
        · refine nm_r (nI_1 k) ?_
          rw [mp_zn L]
          refine ih (k + 1) (by omega) _ _ _ _ (Or.inr ⟨by omega, t, (L : Int), rfl, rfl, by omega, ?_⟩)
          rw [show min (k + 1) (2 ^ n) = k + 1 by omega, mp_wo_lt h0' ((mp_cross hf hf').mp hc)]
          exact hf
    · refine nm_r (nI_1 k) (ih (k + 1) (by omega) _ _ _ _ ?_)
      have e : mp_wo m o M (min (k + 1) (2 ^ n)) = mp_wo m o M (min k (2 ^ n)) := by
        by_cases hkn : k < 2 ^ n
        · rw [show min (k + 1) (2 ^ n) = k + 1 by omega, show min k (2 ^ n) = k by omega]
          exact mp_wo_no (fun hh => h0 ((mp_tco n (by omega) o ho k hkn).mpr hh))
        · rw [show min (k + 1) (2 ^ n) = 2 ^ n by omega, show min k (2 ^ n) = 2 ^ n by omega]
      rw [e]
      rcases hs with ⟨hk0, _⟩ | ⟨_, hs⟩
      · subst hk0; exact absurd (Nat.zero_and _) h0
      · exact Or.inr ⟨by omega, hs⟩
theorem my_worst {n p o M : Nat} {T : Nat → Nat} {W : Nat → Int} {m : Nat → Int} {mt mb wt wb tp bt : Int32} {ow ta wa : Nat → Int32} (hX : mp_X n T W ta wa) (hp : p < n) (ho : o < 2 ^ n) (hM : M < 32)
    (hm : ∀ c, c < 32 → m c = mp_m n T W p c)
    {post : SY → Prop} (h : ∀ (mt mb : Int32) (t b : Int), b ≤ n → mp_fr (mp_wo m o M (2 ^ n)) t b → post (nI n, mt, mb, mp_z t, mp_z b, tp, bt, ow, ta, wa)) :
    wpY_worst post (nI n, mt, mb, wt, wb, tp, bt, ow, ta, wa) (nI p) (nI M) (nI (2 ^ n - 1 - o)) :=
  ⟨33, my_worst8 hX hp ho hM hm h 32 0 rfl _ _ _ _ (Or.inl ⟨rfl, rfl⟩)⟩
theorem my_places4 {n S : Nat} {mt mb wt wb tp bt pl : Int32} {ow ta wa : Nat → Int32} (h5 : n ≤ 5) (hS : S < 2 ^ n) (ho : ∀ q, q < n → (ow q = pl ↔ mp_bit S q = 1))
    {post : Int32 → Prop} (h : post (nI S)) : ∀ d k, k + d = n → wY_placesOf_4 post pl (nI n) mt mb wt wb tp bt ow ta wa (d + 1) (nI (S % 2 ^ k)) (nI k) := by
  have hS5 : S < 32 := Nat.lt_of_lt_of_le hS (Nat.pow_le_pow_right (n := 2) (by omega) h5)
  intro d
  induction d with
  | zero =>
    intro k hk
    obtain rfl : k = n := by omega
    refine pk_le k k (fun _ => ?_) (fun h => absurd h (by omega))
    rw [Nat.mod_eq_of_lt hS]; exact h
  | succ d ih =>
    intro k hk
    have ih' := ih (k + 1) (by omega)
    refine pk_le n k (fun h => absurd h (by omega)) (fun _ => ⟨vp_in_nI (by omega) (by omega), ?_⟩)
    rw [nI_clamp (by omega)]
    refine mp_bif (ho k (by omega)) (fun hb => ?_) (fun hb => ?_)
    · exact nm_r (by rw [mp_tsh k (by omega), mp_tin S hS5 k (by omega) hb]) (nm_r (nI_1 k) ih')
    · have hb0 : mp_bit S k = 0 := by have := mp_bit_le S k; omega
      rw [mp_tout S hS5 k (by omega) hb0] at ih'
      exact nm_r (nI_1 k) ih'
theorem my_places {n S : Nat} {mt mb wt wb tp bt pl : Int32} {ow ta wa : Nat → Int32} (h5 : n ≤ 5) (hS : S < 2 ^ n) (ho : ∀ q, q < n → (ow q = pl ↔ mp_bit S q = 1))
    {post : Int32 → Prop} (h : post (nI S)) : wpY_placesOf post (nI n, mt, mb, wt, wb, tp, bt, ow, ta, wa) pl := by
  have e := my_places4 (mt := mt) (mb := mb) (wt := wt) (wb := wb) (tp := tp) (bt := bt) (ta := ta) (wa := wa) h5 hS ho h n 0 (by omega)
  rw [Nat.pow_zero, Nat.mod_one, nI_0] at e
  exact ⟨n + 1, e⟩
