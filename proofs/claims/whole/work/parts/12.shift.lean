/-! shift and mirror -/
theorem mx_add50 {n : Nat} {T : Nat → Nat} {W : Nat → Int} {w : Int} {mx : Int32} {ta : Nat → Int32} (h5 : n ≤ 5)
    {post : Int32 → SX → Prop} (h : ∀ wa' : Nat → Int32, (∀ i, i < 2 * n → wa' i = mp_z (W i + w)) → post 0 (nI n, mx, ta, wa')) : ∀ d k, k + d = 2 * n → ∀ wa : Nat → Int32,
    (∀ i, i < 2 * n → wa i = mp_z (if i < k then W i + w else W i)) → wX_shift_50 post (mp_z w) (nI n) mx (d + 1) (nI k) ta wa := by
  intro d
  induction d with
  | zero =>
    intro k hk wa hw
    obtain rfl : k = 2 * n := by omega
    refine pk_le (2 * n) (2 * n) (fun _ => h wa (fun i hi => ?_)) (fun h => absurd h (by omega)) (mp_2 n)
    rw [hw i hi, if_pos hi]
  | succ d ih =>
    intro k hk wa hw
    refine pk_le (2 * n) k (fun h => absurd h (by omega)) (fun _ => ?_) (mp_2 n)
    rw [nI_clamp (by omega)]
    refine ⟨vp_in_nI (by omega) (by omega), vp_in_nI (by omega) (by omega), nm_e (nm_r (nI_1 k) (ih (k + 1) (by omega) _ (fun i hi => ?_)))⟩
    by_cases e : i = k
    · subst e
      rw [pk_us, hw i hi, if_neg (by omega), if_pos (by omega), mp_zadd]
    · rw [pk_un e, hw i hi]
      by_cases hl : i < k
      · rw [if_pos hl, if_pos (by omega)]
      · rw [if_neg hl, if_neg (by omega)]
theorem my_add63 {n : Nat} {T : Nat → Nat} {W : Nat → Int} {w : Int} {mt mb wt wb tp bt : Int32} {ow ta : Nat → Int32} (h5 : n ≤ 5)
    {post : Int32 → SY → Prop} (h : ∀ wa' : Nat → Int32, (∀ i, i < 2 * n → wa' i = mp_z (W i + w)) → post 0 (nI n, mt, mb, wt, wb, tp, bt, ow, ta, wa')) : ∀ d k, k + d = 2 * n → ∀ wa : Nat → Int32,
    (∀ i, i < 2 * n → wa i = mp_z (if i < k then W i + w else W i)) → wY_shift_63 post (mp_z w) (nI n) mt mb wt wb tp bt (d + 1) (nI k) ow ta wa := by
  intro d
  induction d with
  | zero =>
    intro k hk wa hw
    obtain rfl : k = 2 * n := by omega
    refine pk_le (2 * n) (2 * n) (fun _ => h wa (fun i hi => ?_)) (fun h => absurd h (by omega)) (mp_2 n)
    rw [hw i hi, if_pos hi]
  | succ d ih =>
    intro k hk wa hw
    refine pk_le (2 * n) k (fun h => absurd h (by omega)) (fun _ => ?_) (mp_2 n)
    rw [nI_clamp (by omega)]
    refine ⟨vp_in_nI (by omega) (by omega), vp_in_nI (by omega) (by omega), nm_e (nm_r (nI_1 k) (ih (k + 1) (by omega) _ (fun i hi => ?_)))⟩
    by_cases e : i = k
    · subst e
      rw [pk_us, hw i hi, if_neg (by omega), if_pos (by omega), mp_zadd]
    · rw [pk_un e, hw i hi]
      by_cases hl : i < k
      · rw [if_pos hl, if_pos (by omega)]
      · rw [if_neg hl, if_neg (by omega)]
theorem mx_chk {n : Nat} {T : Nat → Nat} {W : Nat → Int} {w : Int} {mx : Int32} {ta wa : Nat → Int32} (hX : mp_X n T W ta wa) (h1 : -6 ≤ w) (h2 : w ≤ 6)
    {post : Int32 → SX → Prop} (hy : (∀ i, i < 2 * n → -3 ≤ W i + w ∧ W i + w ≤ 3) → ∃ n50, wX_shift_50 post (mp_z w) (nI n) mx n50 0 ta wa)
    (hn : ¬ (∀ i, i < 2 * n → -3 ≤ W i + w ∧ W i + w ≤ 3) → post (-100) (nI n, mx, ta, wa)) : ∀ d k, k + d = 2 * n → (∀ i, i < k → -3 ≤ W i + w ∧ W i + w ≤ 3) →
    wX_shift_14 post (mp_z w) (nI n) mx ta wa (d + 1) (nI k) := by
  have h5 := hX.2.1
  intro d
  induction d with
  | zero =>
    intro k hk hl
    obtain rfl : k = 2 * n := by omega
    exact pk_le (2 * n) (2 * n) (fun _ => hy hl) (fun h => absurd h (by omega)) (mp_2 n)
  | succ d ih =>
    intro k hk hl
    have hx := hX.2.2 k (by omega)
    refine pk_le (2 * n) k (fun h => absurd h (by omega)) (fun _ => ⟨vp_in_nI (by omega) (by omega), ?_⟩) (mp_2 n)
    rw [nI_clamp (by omega), hx.2.2.2.2, mp_zadd]
    by_cases ok : -3 ≤ W k + w ∧ W k + w ≤ 3
    · refine mx_within (K := 3) (by decide) (by omega) (by omega) ok.1 ok.2 (br_f (by decide) (nm_r (nI_1 k) (ih (k + 1) (by omega) (fun i hi => ?_))))
      by_cases e : i = k
      · subst e; exact ok
      · exact hl i (by omega)
    · refine mx_nowithin ?_ (br_t rfl (hn (fun z => ok (z k (by omega)))))
      rw [show (3 : Int32) = mp_z 3 by decide, mp_zneg, mp_zlt (by omega) (by omega) (by omega) (by omega), mp_zlt (by omega) (by omega) (by omega) (by omega)]
      omega
theorem my_chk {n : Nat} {T : Nat → Nat} {W : Nat → Int} {w : Int} {mt mb wt wb tp bt : Int32} {ow ta wa : Nat → Int32} (hX : mp_X n T W ta wa) (h1 : -6 ≤ w) (h2 : w ≤ 6)
    {post : Int32 → SY → Prop} (hy : (∀ i, i < 2 * n → -3 ≤ W i + w ∧ W i + w ≤ 3) → ∃ n63, wY_shift_63 post (mp_z w) (nI n) mt mb wt wb tp bt n63 0 ow ta wa)
    (hn : ¬ (∀ i, i < 2 * n → -3 ≤ W i + w ∧ W i + w ≤ 3) → post (-100) (nI n, mt, mb, wt, wb, tp, bt, ow, ta, wa)) : ∀ d k, k + d = 2 * n → (∀ i, i < k → -3 ≤ W i + w ∧ W i + w ≤ 3) →
    wY_shift_17 post (mp_z w) (nI n) mt mb wt wb tp bt ow ta wa (d + 1) (nI k) := by
  have h5 := hX.2.1
  intro d
  induction d with
  | zero =>
    intro k hk hl
    obtain rfl : k = 2 * n := by omega
    exact pk_le (2 * n) (2 * n) (fun _ => hy hl) (fun h => absurd h (by omega)) (mp_2 n)
  | succ d ih =>
    intro k hk hl
    have hx := hX.2.2 k (by omega)
    have no : ¬ (-3 ≤ W k + w ∧ W k + w ≤ 3) → post (-100) (nI n, mt, mb, wt, wb, tp, bt, ow, ta, wa) := fun ok => hn (fun z => ok (z k (by omega)))
    refine pk_le (2 * n) k (fun h => absurd h (by omega)) (fun _ => ⟨vp_in_nI (by omega) (by omega), ?_⟩) (mp_2 n)
    rw [nI_clamp (by omega), hx.2.2.2.2, mp_zadd]
    refine mp_blt (W k + w) (-3) (fun z => no (by omega)) (fun z1 => ⟨vp_in_nI (by omega) (by omega), mp_ble (W k + w) 3 (fun z2 => ?_) (fun z => no (by omega)) rfl (by decide)⟩) rfl (by decide)
    refine nm_r (nI_1 k) (ih (k + 1) (by omega) (fun i hi => ?_))
    by_cases e : i = k
    · subst e; exact ⟨z1, z2⟩
    · exact hl i (by omega)
theorem mp_X_w {n : Nat} {T : Nat → Nat} {W W' : Nat → Int} {ta wa wa' : Nat → Int32} (hX : mp_X n T W ta wa) (h : ∀ i, i < 2 * n → -3 ≤ W' i ∧ W' i ≤ 3) (hw : ∀ i, i < 2 * n → wa' i = mp_z (W' i)) : mp_X n T W' ta wa' :=
  ⟨hX.1, hX.2.1, fun i hi => ⟨(hX.2.2 i hi).1, (h i hi).1, (h i hi).2, (hX.2.2 i hi).2.2.2.1, hw i hi⟩⟩
theorem i_vc_shift {k : Nat} {u : SX} {v : SY} (I : i_Rel k u v) (hk : k + 5 ≤ 2561) (v1 : Int32) : wpX_shift (fun r u' => wpY_shift (fun r' v' => r' = r ∧ i_Rel (k + 5) u' v') v v1) u v1 := by
  have R : i_Rel (k + 5) u v := I
  obtain ⟨n, M, T, W, ta, wa, ow, tb, wc, mt, mb, wt, wb, tp, bt, rfl, rfl, hX, hY, hM, hO⟩ := I
  have h5 := hX.2.1
  unfold wpX_shift
  dsimp only
  rcases mp_wi v1 (y := 6) 6 (by decide) (by omega) (by omega) with h | ⟨w, h1, h2, rfl⟩
  · refine mx_nowithin h (br_t rfl ?_)
    refine br_c (fun _ => ⟨rfl, R⟩) (fun hn => br_f (fun hle => ?_) ⟨rfl, R⟩)
    exact h.elim (fun z => hn z) (fun z => Int32.not_le.mpr z hle)
  · have yy : ∀ {post : Int32 → SY → Prop}, (∃ n17, wY_shift_17 post (mp_z w) (nI n) mt mb wt wb tp bt ow tb wc n17 0) → wpY_shift post (nI n, mt, mb, wt, wb, tp, bt, ow, tb, wc) (mp_z w) := fun h =>
      mp_blt w (-6) (fun h => absurd h (by omega)) (fun _ => mp_ble w 6 (fun _ => h) (fun h => absurd h (by omega)) rfl (by decide)) rfl (by decide)
    refine mx_within (K := 6) (by decide) (by omega) (by omega) h1 h2 (br_f (by decide) ⟨2 * n + 1, mx_chk hX h1 h2 (fun hall => ⟨2 * n + 1, ?_⟩) (fun hno => ?_) (2 * n) 0 (by omega) (fun i hi => absurd hi (by omega))⟩)
    · refine mx_add50 (T := T) (W := W) h5 (fun wa' hw' => ?_) (2 * n) 0 (by omega) wa (fun i hi => by rw [if_neg (by omega)]; exact (hX.2.2 i hi).2.2.2.2)
      refine yy ⟨2 * n + 1, my_chk hY h1 h2 (fun _ => ⟨2 * n + 1, ?_⟩) (fun hno => absurd hall hno) (2 * n) 0 (by omega) (fun i hi => absurd hi (by omega))⟩
      refine my_add63 (T := T) (W := W) h5 (fun wb' hv' => ?_) (2 * n) 0 (by omega) wc (fun i hi => by rw [if_neg (by omega)]; exact (hY.2.2 i hi).2.2.2.2)
      exact ⟨rfl, mp_rel (mp_X_w (W' := fun i => W i + w) hX hall hw') (mp_X_w (W' := fun i => W i + w) hY hall hv') hM hO⟩
    · exact yy ⟨2 * n + 1, my_chk hY h1 h2 (fun hall => absurd hall hno) (fun _ => ⟨rfl, R⟩) (2 * n) 0 (by omega) (fun i hi => absurd hi (by omega))⟩
theorem mx_mir19 {n : Nat} {W : Nat → Int} {mx : Int32} {ta : Nat → Int32} (h5 : n ≤ 5)
    {post : SX → Prop} (h : ∀ wa' : Nat → Int32, (∀ i, i < 2 * n → wa' i = mp_z (-W i)) → post (nI n, mx, ta, wa')) : ∀ d k, k + d = 2 * n → ∀ wa : Nat → Int32,
    (∀ i, i < 2 * n → wa i = mp_z (if i < k then -W i else W i)) → wX_mirror_19 post (nI n) mx (d + 1) (nI k) ta wa := by
  intro d
  induction d with
  | zero =>
    intro k hk wa hw
    obtain rfl : k = 2 * n := by omega
    refine pk_le (2 * n) (2 * n) (fun _ => h wa (fun i hi => ?_)) (fun h => absurd h (by omega)) (mp_2 n)
    rw [hw i hi, if_pos hi]
  | succ d ih =>
    intro k hk wa hw
    refine pk_le (2 * n) k (fun h => absurd h (by omega)) (fun _ => ?_) (mp_2 n)
    rw [nI_clamp (by omega)]
    refine ⟨vp_in_nI (by omega) (by omega), vp_in_nI (by omega) (by omega), nm_e (nm_r (nI_1 k) (ih (k + 1) (by omega) _ (fun i hi => ?_)))⟩
    by_cases e : i = k
    · subst e
      rw [pk_us, hw i hi, if_neg (by omega), if_pos (by omega), mp_zneg]
    · rw [pk_un e, hw i hi]
      by_cases hl : i < k
      · rw [if_pos hl, if_pos (by omega)]
      · rw [if_neg hl, if_neg (by omega)]
theorem my_mir2 {n M : Nat} {W : Nat → Int} {mt mb wt wb tp bt : Int32} {ta : Nat → Int32} (h5 : n ≤ 5) (hM : M < 2 ^ n)
    {post : SY → Prop} (h : ∀ ow' wa' : Nat → Int32, (∀ q, q < n → ow' q = nI (mp_bit (2 ^ n - 1 - M) q)) → (∀ i, i < 2 * n → wa' i = mp_z (-W i)) → post (nI n, mt, mb, wt, wb, tp, bt, ow', ta, wa')) : ∀ d k, k + d = n → ∀ ow wa : Nat → Int32,
    (∀ q, q < n → ow q = nI (if q < k then mp_bit (2 ^ n - 1 - M) q else mp_bit M q)) → (∀ i, i < 2 * n → wa i = mp_z (if i < 2 * k then -W i else W i)) → wY_mirror_2 post (nI n) mt mb wt wb tp bt (d + 1) (nI k) ow ta wa := by
  intro d
  induction d with
  | zero =>
    intro k hk ow wa ho hw
    obtain rfl : k = n := by omega
    refine pk_le k k (fun _ => h ow wa (fun q hq => ?_) (fun i hi => ?_)) (fun h => absurd h (by omega))
    · rw [ho q hq, if_pos hq]
    · rw [hw i hi, if_pos hi]
  | succ d ih =>
    intro k hk ow wa ho hw
    have hb := mp_bit_le M k
    have e1 : (1 : Int32) - nI (mp_bit M k) = nI (mp_bit (2 ^ n - 1 - M) k) := by
      rw [mp_mir_bit n (by omega) M hM k (by omega)]; exact pk_sub (a := 1) hb
    refine pk_le n k (fun h => absurd h (by omega)) (fun _ => ?_)
    rw [mp_2, nI_1 (2 * k), nI_clamp (by omega), nI_clamp (by omega), nI_clamp (by omega)]
    refine ⟨vp_in_nI (by omega) (by omega), vp_in_nI (by omega) (by omega), nm_e ⟨vp_in_nI (by omega) (by omega), vp_in_nI (by omega) (by omega), nm_e ⟨vp_in_nI (by omega) (by omega), vp_in_nI (by omega) (by omega), nm_e (nm_r (nI_1 k) (ih (k + 1) (by omega) _ _ (fun q hq => ?_) (fun i hi => ?_)))⟩⟩⟩
    · by_cases e : q = k
      · subst e
        rw [pk_us, ho q hq, if_neg (by omega), if_pos (by omega), e1]
      · rw [pk_un e, ho q hq]
        by_cases hl : q < k
        · rw [if_pos hl, if_pos (by omega)]
        · rw [if_neg hl, if_neg (by omega)]
    · by_cases e : i = 2 * k + 1
      · subst e
        rw [pk_us, pk_un (by omega), hw _ hi, if_neg (by omega), if_pos (by omega), mp_zneg]
      · rw [pk_un e]
        by_cases e' : i = 2 * k
        · subst e'
          rw [pk_us, hw _ hi, if_neg (by omega), if_pos (by omega), mp_zneg]
        · rw [pk_un e', hw i hi]
          by_cases hl : i < 2 * k
          · rw [if_pos hl, if_pos (by omega)]
          · rw [if_neg hl, if_neg (by omega)]
theorem i_vc_mirror {k : Nat} {u : SX} {v : SY} (I : i_Rel k u v) (hk : k + 5 ≤ 2561) : wpX_mirror (fun u' => wpY_mirror (fun v' => i_Rel (k + 5) u' v') v) u := by
  obtain ⟨n, M, T, W, ta, wa, ow, tb, wc, mt, mb, wt, wb, tp, bt, rfl, rfl, hX, hY, hM, hO⟩ := I
  have h5 := hX.2.1
  have h2 := mp_p2 hX.1 h5
  refine nm_r (e' := nI (2 ^ n - 1 - M)) (by rw [mp_tsh n (by omega), mp_tfull n (by omega), mp_tmir n (by omega) M hM]) ⟨2 * n + 1, ?_⟩
  refine mx_mir19 (W := W) h5 (fun wa' hw' => ?_) (2 * n) 0 (by omega) wa (fun i hi => by rw [if_neg (by omega)]; exact (hX.2.2 i hi).2.2.2.2)
  refine ⟨n + 1, my_mir2 (W := W) h5 hM (fun ow' wb' ho' hv' => ?_) n 0 (by omega) ow wc (fun q hq => by rw [if_neg (by omega)]; exact hO q hq) (fun i hi => by rw [if_neg (by omega)]; exact (hY.2.2 i hi).2.2.2.2)⟩
  have hb : ∀ i, i < 2 * n → -3 ≤ -W i ∧ -W i ≤ 3 := fun i hi => by
    have := (hX.2.2 i hi).2.1
    have := (hX.2.2 i hi).2.2.1
    omega
  exact mp_rel (mp_X_w (W' := fun i => -W i) hX hb hw') (mp_X_w (W' := fun i => -W i) hY hb hv') (by omega) ho'
