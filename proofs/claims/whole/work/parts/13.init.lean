/-! the constructors -/
theorem mp_m0 : ∀ n, n < 6 → (21 : Int32) &&& (nI (2 ^ n) - 1) = nI (21 % 2 ^ n) := by decide +kernel
theorem mp_m0_bit : ∀ n, n < 6 → ∀ q, q < n → mp_bit (21 % 2 ^ n) q = 1 - q % 2 := by decide +kernel
theorem mp_par : ∀ q, q < 5 → ((nI q - nI q / 2 * 2) = 0 ↔ q % 2 = 0) := by decide +kernel
theorem mx_init60 {n : Nat} {mx : Int32} {wa : Nat → Int32} (h5 : n ≤ 5)
    {post : SX → Prop} (h : ∀ ta : Nat → Int32, (∀ i, i < 2 * n → ta i = nI (i / 2)) → post (nI n, mx, ta, wa)) : ∀ d k, k + d = n → ∀ ta : Nat → Int32,
    (∀ i, i < 2 * k → ta i = nI (i / 2)) → wX_init_60 post (nI n) mx (d + 1) (nI k) ta wa := by
  intro d
  induction d with
  | zero =>
    intro k hk ta ht
    obtain rfl : k = n := by omega
    exact pk_le k k (fun _ => h ta ht) (fun h => absurd h (by omega))
  | succ d ih =>
    intro k hk ta ht
    refine pk_le n k (fun h => absurd h (by omega)) (fun _ => ?_)
    rw [mp_2, nI_1 (2 * k), nI_clamp (by omega), nI_clamp (by omega)]
    refine ⟨vp_in_nI (by omega) (by omega), nm_e ⟨vp_in_nI (by omega) (by omega), nm_e (nm_r (nI_1 k) (ih (k + 1) (by omega) _ (fun i hi => ?_)))⟩⟩
    by_cases e : i = 2 * k + 1
    · subst e; rw [pk_us, show (2 * k + 1) / 2 = k by omega]
    · rw [pk_un e]
      by_cases e' : i = 2 * k
      · subst e'; rw [pk_us, show 2 * k / 2 = k by omega]
      · rw [pk_un e']; exact ht i (by omega)
theorem my_init52 {n : Nat} {mt mb wt wb tp bt : Int32} {wa : Nat → Int32}
    {post : SY → Prop} (h : ∀ ow ta : Nat → Int32, (∀ q, q < 5 → ow q = nI (1 - q % 2)) → (∀ i, i < 10 → ta i = nI (i / 2)) → post (nI n, mt, mb, wt, wb, tp, bt, ow, ta, wa)) : ∀ d k, k + d = 5 → ∀ ow ta : Nat → Int32,
    (∀ q, q < k → ow q = nI (1 - q % 2)) → (∀ i, i < 2 * k → ta i = nI (i / 2)) → wY_init_52 post (nI n) mt mb wt wb tp bt (d + 1) (nI k) ow ta wa := by
  intro d
  induction d with
  | zero =>
    intro k hk ow ta ho ht
    obtain rfl : k = 5 := by omega
    exact pk_le 5 5 (fun _ => h ow ta ho ht) (fun h => absurd h (by omega))
  | succ d ih =>
    intro k hk ow ta ho ht
    have key : ∀ z : Nat, z = 1 - k % 2 → wY_init_73 post (wY_init_52 post (nI n) mt mb wt wb tp bt (d + 1)) (nI k) (nI z) (nI k) (nI n) mt mb wt wb tp bt ow ta wa := by
      intro z hz
      unfold wY_init_73
      rw [mp_2, nI_1 (2 * k), nI_clamp (by omega), nI_clamp (by omega), nI_clamp (by omega)]
      refine ⟨vp_in_nI (by omega) (by omega), nm_e ⟨vp_in_nI (by omega) (by omega), nm_e ⟨vp_in_nI (by omega) (by omega), nm_e (nm_r (nI_1 k) (ih (k + 1) (by omega) _ _ (fun q hq => ?_) (fun i hi => ?_)))⟩⟩⟩
      · by_cases e : q = k
        · subst e; rw [pk_us, hz]
        · rw [pk_un e]; exact ho q (by omega)
      · by_cases e : i = 2 * k + 1
        · subst e; rw [pk_us, show (2 * k + 1) / 2 = k by omega]
        · rw [pk_un e]
          by_cases e' : i = 2 * k
          · subst e'; rw [pk_us, show 2 * k / 2 = k by omega]
          · rw [pk_un e']; exact ht i (by omega)
    refine pk_le 5 k (fun h => absurd h (by omega)) (fun _ => ⟨by decide, mp_bif (mp_par k (by omega)) (fun h0 => ?_) (fun h0 => ?_)⟩)
    · exact key 1 (by omega)
    · exact key 0 (by omega)
theorem mx_init {n : Nat} (h5 : n ≤ 5) {post : SX → Prop} (h : ∀ ta : Nat → Int32, (∀ i, i < 2 * n → ta i = nI (i / 2)) → post (nI n, nI (21 % 2 ^ n), ta, fun _ => 0)) :
    wX_init_40 post (nI n) 0 0 (fun _ => 0) (fun _ => 0) := by
  refine nm_r (e' := nI (21 % 2 ^ n)) (by rw [mp_tsh n (by omega), mp_m0 n (by omega)]) ⟨n + 1, ?_⟩
  exact mx_init60 h5 h n 0 (by omega) _ (fun i hi => absurd hi (by omega))
theorem my_init {n : Nat} {post : SY → Prop} (h : ∀ ow ta : Nat → Int32, (∀ q, q < 5 → ow q = nI (1 - q % 2)) → (∀ i, i < 10 → ta i = nI (i / 2)) → post (nI n, 0, 0, 0, 0, 0, 0, ow, ta, fun _ => 0)) :
    ∃ n52 : Nat, wY_init_52 post (nI n) 0 0 0 0 0 0 n52 0 (fun _ => 0) (fun _ => 0) (fun _ => 0) :=
  ⟨6, my_init52 h 5 0 rfl _ _ (fun i hi => absurd hi (by omega)) (fun i hi => absurd hi (by omega))⟩
theorem mp_ini {k n : Nat} {ta ow tb : Nat → Int32} (h1 : 1 ≤ n) (h5 : n ≤ 5) (ht : ∀ i, i < 2 * n → ta i = nI (i / 2)) (ho : ∀ q, q < 5 → ow q = nI (1 - q % 2)) (hb : ∀ i, i < 10 → tb i = nI (i / 2)) :
    i_Rel k (nI n, nI (21 % 2 ^ n), ta, fun _ => 0) (nI n, 0, 0, 0, 0, 0, 0, ow, tb, fun _ => 0) := by
  have h2 := mp_p2 h1 h5
  have z0 : (0 : Int32) = mp_z 0 := mp_z0.symm
  refine mp_rel (T := fun i => i / 2) (W := fun _ => 0) ⟨h1, h5, fun i hi => ?_⟩ ⟨h1, h5, fun i hi => ?_⟩ (Nat.mod_lt _ (by omega)) (fun q hq => ?_)
  · dsimp only
    exact ⟨by omega, by omega, by omega, ht i hi, z0⟩
  · dsimp only
    exact ⟨by omega, by omega, by omega, hb i (by omega), z0⟩
  · rw [mp_m0_bit n (by omega) q hq]; exact ho q (by omega)
theorem i_vc0 (k0 : Int32) : wpX_init (fun u => wpY_init (fun v => i_Rel 1 u v) k0) k0 := by
  by_cases a : 1 ≤ k0
  · by_cases b : k0 ≤ 5
    · obtain ⟨j, hj, rfl⟩ := nI_of2 (M := 5) (n := 5) (x := k0) (by decide) (fun z => absurd (Int32.le_trans a (Int32.le_of_lt z)) (by decide)) b
      have h1 : 1 ≤ j := (nI_leI (a := 1) (by omega) (by omega)).mp a
      exact br_t a (br_t b (mx_init hj (fun ta ht => br_t a (br_t b (my_init (fun ow tb ho hb => mp_ini h1 hj ht ho hb))))))
    · exact br_t a (br_f b (mx_init (n := 5) (by omega) (fun ta ht => br_t a (br_f b (my_init (n := 5) (fun ow tb ho hb => mp_ini (n := 5) (by omega) (by omega) ht ho hb))))))
  · exact br_f a (mx_init (n := 1) (by omega) (fun ta ht => br_f a (my_init (n := 1) (fun ow tb ho hb => mp_ini (n := 1) (by omega) (by omega) ht ho hb))))
