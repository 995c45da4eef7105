/-! gifts -/
theorem my_give2 {n S A B pl : Nat} {mt mb wt wb tp bt : Int32} {ta wa : Nat → Int32} (h5 : n ≤ 5) (hS : S < 32) (hAB : ∀ q, q < n → mp_bit B q = if mp_bit S q = 1 then pl else mp_bit A q)
    {post : SY → Prop} (h : ∀ ow' : Nat → Int32, (∀ q, q < n → ow' q = nI (mp_bit B q)) → post (nI n, mt, mb, wt, wb, tp, bt, ow', ta, wa)) : ∀ d k, k + d = n → ∀ ow : Nat → Int32,
    (∀ q, q < n → ow q = nI (if q < k then mp_bit B q else mp_bit A q)) → wY_give_2 post (nI S) (nI pl) (nI n) mt mb wt wb tp bt (d + 1) (nI k) ow ta wa := by
  intro d
  induction d with
  | zero =>
    intro k hk ow hO
    obtain rfl : k = n := by omega
    refine pk_le k k (fun _ => h ow (fun q hq => ?_)) (fun h => absurd h (by omega))
    rw [hO q hq, if_pos hq]
  | succ d ih =>
    intro k hk ow hO
    have ih' := ih (k + 1) (by omega)
    have hb := mp_bit_le S k
    refine pk_le n k (fun h => absurd h (by omega)) (fun _ => ?_)
    rw [mp_tb S hS k (by omega)]
    refine mp_bif (nI_eq (b := 1) (by omega) (by omega)) (fun e => ?_) (fun e => ?_)
    · rw [nI_clamp (by omega)]
      refine ⟨vp_in_nI (by omega) (by omega), nm_e (nm_r (nI_1 k) (ih' _ (fun q hq => ?_)))⟩
      by_cases eq : q = k
      · subst eq
        rw [pk_us, if_pos (by omega), hAB q hq, if_pos e]
      · rw [pk_un eq, hO q hq]
        by_cases hl : q < k
        · rw [if_pos hl, if_pos (by omega)]
        · rw [if_neg hl, if_neg (by omega)]
    · refine nm_r (nI_1 k) (ih' _ (fun q hq => ?_))
      rw [hO q hq]
      by_cases eq : q = k
      · subst eq
        rw [if_neg (by omega), if_pos (by omega), hAB q hq, if_neg e]
      · by_cases hl : q < k
        · rw [if_pos hl, if_pos (by omega)]
        · rw [if_neg hl, if_neg (by omega)]
theorem my_give {n S A B pl : Nat} {mt mb wt wb tp bt : Int32} {ow ta wa : Nat → Int32} (h5 : n ≤ 5) (hS : S < 32) (hO : ∀ q, q < n → ow q = nI (mp_bit A q)) (hAB : ∀ q, q < n → mp_bit B q = if mp_bit S q = 1 then pl else mp_bit A q)
    {post : SY → Prop} (h : ∀ ow' : Nat → Int32, (∀ q, q < n → ow' q = nI (mp_bit B q)) → post (nI n, mt, mb, wt, wb, tp, bt, ow', ta, wa)) :
    wpY_give post (nI n, mt, mb, wt, wb, tp, bt, ow, ta, wa) (nI S) (nI pl) :=
  ⟨n + 1, my_give2 h5 hS hAB h n 0 (by omega) ow (fun q hq => by rw [hO q hq, if_neg (by omega)])⟩
theorem my_size4 {n c : Nat} {mt mb wt wb tp bt : Int32} {ow ta wa : Nat → Int32} (hc : c < 32) {post : Int32 → Prop} (h : post (nI (mp_cnt c 5))) : ∀ d k, k + d = 5 →
    wY_sizeOf_4 post (nI c) (nI n) mt mb wt wb tp bt ow ta wa (d + 1) (nI (mp_cnt c k)) (nI k) := by
  intro d
  induction d with
  | zero =>
    intro k hk
    obtain rfl : k = 5 := by omega
    exact pk_le 5 5 (fun _ => h) (fun h => absurd h (by omega))
  | succ d ih =>
    intro k hk
    refine pk_le 5 k (fun h => absurd h (by omega)) (fun _ => ?_)
    rw [mp_tb c hc k (by omega)]
    exact nm_r (nI_add _ _) (nm_r (nI_1 k) (ih (k + 1) (by omega)))
theorem my_size {n c : Nat} {mt mb wt wb tp bt : Int32} {ow ta wa : Nat → Int32} (hc : c < 32) {post : Int32 → Prop} (h : post (nI (mp_cnt c 5))) :
    wpY_sizeOf post (nI n, mt, mb, wt, wb, tp, bt, ow, ta, wa) (nI c) :=
  ⟨6, my_size4 hc h 5 0 rfl⟩
/-- the least number of gifts among the sets below k -/
def mp_gi (v : Nat → Int) (V : Int) (o n : Nat) : Nat → Nat
  | 0 => n + 1
  | k + 1 => if k &&& o = 0 then (if mp_cnt k n < mp_gi v V o n k then (if V < v k then mp_cnt k n else mp_gi v V o n k) else mp_gi v V o n k) else mp_gi v V o n k
theorem mp_gi_no {v : Nat → Int} {V : Int} {o n k : Nat} (h : ¬ k &&& o = 0) : mp_gi v V o n (k + 1) = mp_gi v V o n k := if_neg h
theorem mp_gi_ge {v : Nat → Int} {V : Int} {o n k : Nat} (h : ¬ mp_cnt k n < mp_gi v V o n k) : mp_gi v V o n (k + 1) = mp_gi v V o n k := by
  show (if k &&& o = 0 then (if mp_cnt k n < mp_gi v V o n k then (if V < v k then mp_cnt k n else mp_gi v V o n k) else mp_gi v V o n k) else mp_gi v V o n k) = mp_gi v V o n k
  rw [if_neg h, ite_self]
theorem mp_gi_le {v : Nat → Int} {V : Int} {o n k : Nat} (h : ¬ V < v k) : mp_gi v V o n (k + 1) = mp_gi v V o n k := by
  show (if k &&& o = 0 then (if mp_cnt k n < mp_gi v V o n k then (if V < v k then mp_cnt k n else mp_gi v V o n k) else mp_gi v V o n k) else mp_gi v V o n k) = mp_gi v V o n k
  rw [if_neg h, ite_self, ite_self]
theorem mp_gi_lt {v : Nat → Int} {V : Int} {o n k : Nat} (h : k &&& o = 0) (h2 : mp_cnt k n < mp_gi v V o n k) (h3 : V < v k) : mp_gi v V o n (k + 1) = mp_cnt k n :=
  (if_pos h).trans ((if_pos h2).trans (if_pos h3))
theorem mp_gi_bd {v : Nat → Int} {V : Int} {o n : Nat} : ∀ k, mp_gi v V o n k ≤ n + 1 := by
  intro k
  induction k with
  | zero => exact Nat.le_refl _
  | succ k ih =>
    have h := mp_cnt_le k n
    unfold mp_gi
    split
    · split
      · split <;> omega
      · exact ih
    · exact ih
theorem mx_gifts31 {n p M : Nat} {T : Nat → Nat} {W : Nat → Int} {V : Int} {ta wa : Nat → Int32} (hX : mp_X n T W ta wa) (hp : p < n) (hM : M < 2 ^ n) (hV1 : -180 ≤ V) (hV2 : V ≤ 180)
    {post : Int32 → Prop} (h : post (nI (mp_gi (fun s => mp_val n (mp_m n T W p) (M ||| s)) V M n (2 ^ n)))) : ∀ d k, k + d = 2 ^ n →
    wX_gifts_31 post (nI p) (mp_z V) (nI n) (nI M) ta wa (d + 1) (nI (mp_gi (fun s => mp_val n (mp_m n T W p) (M ||| s)) V M n k)) (nI k) := by
  have h5 := hX.2.1
  have h2 := mp_p2 hX.1 h5
  have hM5 := mp_M32 h5 hM
  intro d
  induction d with
  | zero =>
    intro k hk
    obtain rfl : k = 2 ^ n := by omega
    exact pk_le (2 ^ n) (2 ^ n) (fun _ => h) (fun h => absurd h (by omega)) (mp_tsh n (by omega))
  | succ d ih =>
    intro k hk
    have ih' := ih (k + 1) (by omega)
    have hk5 : k < 32 := by omega
    have b1 := mp_gi_bd (v := fun s => mp_val n (mp_m n T W p) (M ||| s)) (V := V) (o := M) (n := n) k
    have b2 := mp_cnt_le k n
    have b3 := mp_val_bd hX.1 h5 (mp_m_ok hX hp) (M ||| k)
    refine pk_le (2 ^ n) k (fun h => absurd h (by omega)) (fun _ => ?_) (mp_tsh n (by omega))
    refine mp_bif (mp_tand0 hk5 hM5) (fun h0 => ?_) (fun h0 => ?_)
    · refine mx_cnt h5 hk5 (pk_le _ (mp_cnt k n) (fun hc => ?_) (fun hc => ?_))
      · rw [mp_gi_ge (by omega)] at ih'
        exact nm_r (nI_1 k) ih'
      · rw [mp_tor M hM5 k hk5]
        refine mx_valueOf hX hp (mp_or32 hM5 hk5) (mp_ble _ V (fun hv => ?_) (fun hv => ?_) rfl rfl)
        · rw [mp_gi_le (by omega)] at ih'
          exact nm_r (nI_1 k) ih'
        · rw [mp_gi_lt h0 hc hv] at ih'
          exact nm_r (nI_1 k) ih'
    · rw [mp_gi_no h0] at ih'
      exact nm_r (nI_1 k) ih'
theorem my_gifts44 {n p M : Nat} {T : Nat → Nat} {W : Nat → Int} {V t0 b0 : Int} {ta wa : Nat → Int32} (hX : mp_X n T W ta wa) (hp : p < n) (hM : M < 2 ^ n) (hf0 : mp_fr V t0 b0)
    {post : Int32 → SY → Prop} (h : ∀ (mt mb wt wb tp bt : Int32) (ow : Nat → Int32), (∀ q, q < n → ow q = nI (mp_bit M q)) → post (nI (mp_gi (fun s => mp_val n (mp_m n T W p) (M ||| s)) V M n (2 ^ n))) (nI n, mt, mb, wt, wb, tp, bt, ow, ta, wa)) :
    ∀ d k, k + d = 32 → ∀ (mt mb wt wb tp bt : Int32) (ow : Nat → Int32), (∀ q, q < n → ow q = nI (mp_bit M q)) →
    wY_gifts_44 post (nI p) (mp_z t0) (mp_z b0) (nI (2 ^ n - 1 - M)) (d + 1) (nI (mp_gi (fun s => mp_val n (mp_m n T W p) (M ||| s)) V M n (min k (2 ^ n)))) (nI k) (nI n) mt mb wt wb tp bt ow ta wa := by
  have h5 := hX.2.1
  have h2 := mp_p2 hX.1 h5
  have hM5 := mp_M32 h5 hM
  intro d
  induction d with
  | zero =>
    intro k hk mt mb wt wb tp bt ow hO
    obtain rfl : k = 32 := by omega
    rw [show min 32 (2 ^ n) = 2 ^ n by omega]
    exact pk_le 32 32 (fun _ => h _ _ _ _ _ _ _ hO) (fun h => absurd h (by omega))
  | succ d ih =>
    intro k hk mt mb wt wb tp bt ow hO
    have hk5 : k < 32 := by omega
    have ih' := ih (k + 1) (by omega)
    refine pk_le 32 k (fun h => absurd h (by omega)) (fun _ => ?_)
    refine mp_bif (mp_tandc hk5 (by omega)) (fun h0 => ?_) (fun h0 => ?_)
    · have hkn : k < 2 ^ n := by
        by_cases hh : k < 2 ^ n
        · exact hh
        · exact absurd h0 (mp_big (N := 2 ^ n) (by omega) (by omega))
      have h0' := (mp_tco n (by omega) M hM k hkn).mp h0
      rw [show min (k + 1) (2 ^ n) = k + 1 by omega] at ih'
      rw [show min k (2 ^ n) = k by omega]
      have b1 := mp_gi_bd (v := fun s => mp_val n (mp_m n T W p) (M ||| s)) (V := V) (o := M) (n := n) k
      have b2 := mp_cnt_le k n
      have e5 := mp_cnt5 n (by omega) k hkn
      refine my_size hk5 ?_
      rw [e5]
      refine pk_le _ (mp_cnt k n) (fun hc => ?_) (fun hc => ?_)
      · rw [mp_gi_ge (by omega)] at ih'
        exact nm_r (nI_1 k) (ih' _ _ _ _ _ _ _ hO)
      · refine my_give (pl := 1) h5 hk5 hO (fun q hq => mp_give M hM5 k hk5 h0' q (by omega)) (fun ow1 hO1 => ?_)
        refine my_value hX hp (mp_orlt hM hkn) hO1 (fun _ _ => rfl) (fun mt mb wt wb t b hb hf hl => ?_)
        refine my_give (pl := 0) (B := M) h5 hk5 hO1 (fun q hq => ?_) (fun ow2 hO2 => ?_)
        · have g1 := mp_give M hM5 k hk5 h0' q (by omega)
          by_cases e : mp_bit k q = 1
          · rw [if_pos e]; exact mp_back M hM5 k hk5 h0' q (by omega) e
          · rw [if_neg e, g1, if_neg e]
        · have c1 := mp_fr_bd hf hf0
          have c2 := mp_fr_bd hf0 hf
          have cc := mp_cross hf0 hf
          refine mp_ble (t * b0) (t0 * b) (fun hv => ?_) (fun hv => ?_) (mp_zmul _ _) (mp_zmul _ _) c1.1 c1.2 c2.1 c2.2
          · rw [mp_gi_le (fun z => by have := cc.mpr z; omega)] at ih'
            exact nm_r (nI_1 k) (ih' _ _ _ _ _ _ _ hO2)
          · rw [mp_gi_lt h0' hc (cc.mp hv)] at ih'
            refine my_size hk5 ?_
            rw [e5]
            exact nm_r (nI_1 k) (ih' _ _ _ _ _ _ _ hO2)
    · have e : mp_gi (fun s => mp_val n (mp_m n T W p) (M ||| s)) V M n (min (k + 1) (2 ^ n)) = mp_gi (fun s => mp_val n (mp_m n T W p) (M ||| s)) V M n (min k (2 ^ n)) := by
        by_cases hkn : k < 2 ^ n
        · rw [show min (k + 1) (2 ^ n) = k + 1 by omega, show min k (2 ^ n) = k by omega]
          exact mp_gi_no (fun hh => h0 ((mp_tco n (by omega) M hM k hkn).mpr hh))
        · rw [show min (k + 1) (2 ^ n) = 2 ^ n by omega, show min k (2 ^ n) = 2 ^ n by omega]
      rw [e] at ih'
      exact nm_r (nI_1 k) (ih' _ _ _ _ _ _ _ hO)
theorem i_vc_gifts {k : Nat} {u : SX} {v : SY} (I : i_Rel k u v) (hk : k + 5 ≤ 2561) (v1 : Int32) : wpX_gifts (fun r => wpY_gifts (fun r' v' => r' = r ∧ i_Rel (k + 5) u v') v v1) u v1 := by
  have R : i_Rel (k + 5) u v := I
  obtain ⟨n, M, T, W, ta, wa, ow, tb, wc, mt, mb, wt, wb, tp, bt, rfl, rfl, hX, hY, hM, hO⟩ := I
  have h5 := hX.2.1
  have h2 := mp_p2 hX.1 h5
  have hM5 := mp_M32 h5 hM
  unfold wpX_gifts
  dsimp only
  rcases mp_pl v1 h5 with h | ⟨p, hp, rfl⟩
  · refine mx_noplace h (br_t rfl ?_)
    unfold wpY_gifts
    dsimp only
    exact my_noplace h (br_t rfl ⟨rfl, R⟩)
  · refine mx_place h5 hp (br_f (by decide) (mx_valueOf hX hp hM5 ?_))
    have hv := mp_val_bd hX.1 h5 (mp_m_ok hX hp) M
    have e1 : mp_gi (fun s => mp_val n (mp_m n T W p) (M ||| s)) (mp_val n (mp_m n T W p) M) M n 1 = n + 1 :=
      mp_gi_le (by rw [Nat.or_zero]; omega)
    refine nm_r (nI_1 n) ⟨2 ^ n - 1 + 1, ?_⟩
    have g := mx_gifts31 (post := fun r => wpY_gifts (fun r' v' => r' = r ∧ i_Rel (k + 5) (nI n, nI M, ta, wa) v') (nI n, mt, mb, wt, wb, tp, bt, ow, tb, wc) (nI p)) hX hp hM hv.1 hv.2 ?_ (2 ^ n - 1) 1 (by omega)
    · rw [e1] at g
      exact g
    · unfold wpY_gifts
      dsimp only
      refine my_place h5 hp (br_f (by decide) (my_value hY hp hM hO (fun _ _ => rfl) (fun mt mb wt wb t b hb hf hl => ?_)))
      refine my_places (S := 2 ^ n - 1 - M) h5 (by omega) (mp_own0 h5 hM hO) (nm_r (nI_1 n) ⟨33, ?_⟩)
      have g := my_gifts44 (post := fun r' v' => r' = nI (mp_gi (fun s => mp_val n (mp_m n T W p) (M ||| s)) (mp_val n (mp_m n T W p) M) M n (2 ^ n)) ∧ i_Rel (k + 5) (nI n, nI M, ta, wa) v') hY hp hM hf
        (fun _ _ _ _ _ _ ow' hO' => ⟨rfl, mp_rel hX hY hM hO'⟩) 32 0 rfl mt mb wt wb (mp_z t) (mp_z b) ow hO
      exact g
