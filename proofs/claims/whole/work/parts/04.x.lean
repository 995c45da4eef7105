/-! the component's private methods against the pure picture -/
/-- n places, targets T and weights W, and the arrays that hold them up to 2 * n -/
def mp_X (n : Nat) (T : Nat → Nat) (W : Nat → Int) (ta wa : Nat → Int32) : Prop :=
  1 ≤ n ∧ n ≤ 5 ∧ ∀ i, i < 2 * n → T i < n ∧ -3 ≤ W i ∧ W i ≤ 3 ∧ ta i = nI (T i) ∧ wa i = mp_z (W i)
def mp_f (T : Nat → Nat) (c q : Nat) : Nat := T (2 * q + mp_bit c q)
def mp_g (W : Nat → Int) (c q : Nat) : Int := W (2 * q + mp_bit c q)
def mp_m (n : Nat) (T : Nat → Nat) (W : Nat → Int) (p c : Nat) : Int := mp_mn n (mp_f T c) (mp_g W c) p
theorem mp_ixlt {n q : Nat} (c : Nat) (hq : q < n) : 2 * q + mp_bit c q < 2 * n := by
  have h := mp_bit_le c q
  omega
theorem mp_f_lt {n : Nat} {T : Nat → Nat} {W : Nat → Int} {ta wa : Nat → Int32} (hX : mp_X n T W ta wa) (c : Nat) : ∀ q, q < n → mp_f T c q < n :=
  fun _ hq => (hX.2.2 _ (mp_ixlt c hq)).1
theorem mp_g_bd {n : Nat} {T : Nat → Nat} {W : Nat → Int} {ta wa : Nat → Int32} (hX : mp_X n T W ta wa) (c : Nat) : ∀ q, q < n → -3 ≤ mp_g W c q ∧ mp_g W c q ≤ 3 :=
  fun _ hq => ⟨(hX.2.2 _ (mp_ixlt c hq)).2.1, (hX.2.2 _ (mp_ixlt c hq)).2.2.1⟩
theorem mp_m_bd {n p : Nat} {T : Nat → Nat} {W : Nat → Int} {ta wa : Nat → Int32} (hX : mp_X n T W ta wa) (hp : p < n) (c : Nat) : -180 ≤ mp_m n T W p c ∧ mp_m n T W p c ≤ 180 :=
  mp_mn_bd (mp_f_lt hX c) (mp_g_bd hX c) hp
theorem mp_2 (q : Nat) : (2 : Int32) * nI q = nI (2 * q) := pk_mul 2 q
theorem mp_ix {c q : Nat} (hc : c < 32) (hq : q < 5) : (2 * nI q) + ((nI c >>> (nI q &&& 31)) &&& 1) = nI (2 * q + mp_bit c q) := by
  rw [mp_tb c hc q hq, mp_2, nI_add]
theorem mx_mean41 {n p c : Nat} {T : Nat → Nat} {W : Nat → Int} {mx : Int32} {ta wa : Nat → Int32} (hX : mp_X n T W ta wa) (hp : p < n) (hc : c < 32)
    {post : Int32 → Prop} (h : post (mp_z (mp_m n T W p c))) : ∀ d i, i + d = 60 →
    wX_meanFrom_41 post (nI c) (nI n) mx ta wa (d + 1) (nI (mp_at (mp_f T c) p (n + i))) (mp_z (mp_sm (mp_g W c) (mp_at (mp_f T c) p) n i)) (nI i) := by
  have h5 := hX.2.1
  intro d
  induction d with
  | zero =>
    intro i hi
    obtain rfl : i = 60 := by omega
    exact pk_le 60 60 (fun _ => h) (fun h => absurd h (by omega))
  | succ d ih =>
    intro i hi
    have hq := mp_at_lt (mp_f_lt hX c) hp (n + i)
    have hk := mp_ixlt c hq
    have hx := hX.2.2 _ hk
    have ih' := ih (i + 1) (by omega)
    refine pk_le 60 i (fun h => absurd h (by omega)) (fun _ => ?_)
    refine nm_r (mp_ix hc (by omega)) ⟨vp_in_nI (by omega) (by omega), nm_r (e' := mp_z (mp_sm (mp_g W c) (mp_at (mp_f T c) p) n (i + 1))) ?_
      ⟨vp_in_nI (by omega) (by omega), nm_r (e' := nI (mp_at (mp_f T c) p (n + (i + 1)))) ?_ (nm_r (nI_1 i) ih')⟩⟩
    · rw [nI_clamp (by omega), hx.2.2.2.2, mp_zadd]; rfl
    · rw [nI_clamp (by omega), hx.2.2.2.1]; rfl
theorem mx_mean5 {n p c : Nat} {T : Nat → Nat} {W : Nat → Int} {mx : Int32} {ta wa : Nat → Int32} (hX : mp_X n T W ta wa) (hp : p < n) (hc : c < 32)
    {post : Int32 → Prop} (h : post (mp_z (mp_m n T W p c))) : ∀ d i, i + d = n →
    wX_meanFrom_5 post (nI c) (nI n) mx ta wa (d + 1) (nI (mp_at (mp_f T c) p i)) (nI i) := by
  have h5 := hX.2.1
  intro d
  induction d with
  | zero =>
    intro i hi
    obtain rfl : i = n := by omega
    have e := mx_mean41 (mx := mx) hX hp hc h 60 0 rfl
    simp only [mp_sm, mp_z0, nI_0, Nat.add_zero] at e
    exact pk_le i i (fun _ => ⟨61, e⟩) (fun h => absurd h (by omega))
  | succ d ih =>
    intro i hi
    have hq := mp_at_lt (mp_f_lt hX c) hp i
    have hk := mp_ixlt c hq
    have hx := hX.2.2 _ hk
    have ih' := ih (i + 1) (by omega)
    refine pk_le n i (fun h => absurd h (by omega)) (fun _ => ?_)
    rw [mp_ix hc (show mp_at (mp_f T c) p i < 5 by omega)]
    refine ⟨vp_in_nI (by omega) (by omega), nm_r (e' := nI (mp_at (mp_f T c) p (i + 1))) ?_ (nm_r (nI_1 i) ih')⟩
    rw [nI_clamp (by omega), hx.2.2.2.1]; rfl
theorem mx_mean {n p c : Nat} {T : Nat → Nat} {W : Nat → Int} {mx : Int32} {ta wa : Nat → Int32} (hX : mp_X n T W ta wa) (hp : p < n) (hc : c < 32)
    {post : Int32 → Prop} (h : post (mp_z (mp_m n T W p c))) : wpX_meanFrom post (nI n, mx, ta, wa) (nI p) (nI c) :=
  ⟨n + 1, mx_mean5 hX hp hc h n 0 (by omega)⟩

theorem mp_wo_no {m : Nat → Int} {o M k : Nat} (h : ¬ k &&& o = 0) : mp_wo m o M (k + 1) = mp_wo m o M k := if_neg h
theorem mp_wo_lt {m : Nat → Int} {o M k : Nat} (h : k &&& o = 0) (h2 : m (M ||| k) < mp_wo m o M k) : mp_wo m o M (k + 1) = m (M ||| k) := (if_pos h).trans (if_pos h2)
theorem mp_wo_ge {m : Nat → Int} {o M k : Nat} (h : k &&& o = 0) (h2 : ¬ m (M ||| k) < mp_wo m o M k) : mp_wo m o M (k + 1) = mp_wo m o M k := (if_pos h).trans (if_neg h2)
theorem mp_va_no {w : Nat → Int} {o k : Nat} (h : ¬ k &&& o = k) : mp_va w o (k + 1) = mp_va w o k := if_neg h
theorem mp_va_lt {w : Nat → Int} {o k : Nat} (h : k &&& o = k) (h2 : mp_va w o k < w k) : mp_va w o (k + 1) = w k := (if_pos h).trans (if_pos h2)
theorem mp_va_ge {w : Nat → Int} {o k : Nat} (h : k &&& o = k) (h2 : ¬ mp_va w o k < w k) : mp_va w o (k + 1) = mp_va w o k := (if_pos h).trans (if_neg h2)

theorem mx_worst8 {n p o M : Nat} {T : Nat → Nat} {W : Nat → Int} {mx bd ch : Int32} {ta wa : Nat → Int32} {ph : Nat → Nat} (hX : mp_X n T W ta wa) (hp : p < n) (ho : o < 32) (hM : M < 32)
    (hph : ∀ c, c < 32 → ((nI c &&& (bd ^^^ (-1))) ||| ch) = nI (ph c) ∧ ph c < 32)
    {post : Int32 → Prop} (h : post (mp_z (mp_wo (fun c => mp_m n T W p (ph c)) o M (2 ^ n)))) : ∀ d k, k + d = 2 ^ n →
    wX_worstFor_8 post (nI p) (nI o) (nI M) bd ch (nI n) mx ta wa (d + 1) (mp_z (mp_wo (fun c => mp_m n T W p (ph c)) o M k)) (nI k) := by
  have h5 := hX.2.1
  have h2 := mp_p2 hX.1 h5
  have hok : mp_ok (fun c => mp_m n T W p (ph c)) := fun c _ => mp_m_bd hX hp (ph c)
  intro d
  induction d with
  | zero =>
    intro k hk
    obtain rfl : k = 2 ^ n := by omega
    exact pk_le (2 ^ n) (2 ^ n) (fun _ => h) (fun h => absurd h (by omega)) (mp_tsh n (by omega))
  | succ d ih =>
    intro k hk
    have ih' := ih (k + 1) (by omega)
    have hk5 : k < 32 := by omega
    have b1 := mp_wo_bd hok o hM k (by omega)
    refine pk_le (2 ^ n) k (fun h => absurd h (by omega)) (fun _ => ?_) (mp_tsh n (by omega))
    refine mp_bif (mp_tand0 hk5 ho) (fun h0 => ?_) (fun h0 => ?_)
    · have e := hph (M ||| k) (mp_or32 hM hk5)
      have b2 := mp_m_bd hX hp (ph (M ||| k))
      rw [mp_tor M hM k hk5, e.1]
      refine mx_mean hX hp e.2 ?_
      refine mp_ble _ _ (fun hc => ?_) (fun hc => ?_) rfl rfl
      · rw [mp_wo_ge h0 (by omega)] at ih'
        exact nm_r (nI_1 k) ih'
      · rw [mp_wo_lt h0 hc] at ih'
        exact nm_r (nI_1 k) ih'
    · rw [mp_wo_no h0] at ih'
      exact nm_r (nI_1 k) ih'
theorem mx_worst {n p o M : Nat} {T : Nat → Nat} {W : Nat → Int} {mx bd ch : Int32} {ta wa : Nat → Int32} {ph : Nat → Nat} (hX : mp_X n T W ta wa) (hp : p < n) (ho : o < 32) (hM : M < 32)
    (hph : ∀ c, c < 32 → ((nI c &&& (bd ^^^ (-1))) ||| ch) = nI (ph c) ∧ ph c < 32)
    {post : Int32 → Prop} (h : post (mp_z (mp_wo (fun c => mp_m n T W p (ph c)) o M (2 ^ n)))) : wpX_worstFor post (nI n, mx, ta, wa) (nI p) (nI o) (nI M) bd ch :=
  ⟨2 ^ n + 1, mx_worst8 hX hp ho hM hph h (2 ^ n) 0 (by omega)⟩
theorem mx_value8 {n p o : Nat} {T : Nat → Nat} {W : Nat → Int} {mx bd ch : Int32} {ta wa : Nat → Int32} {ph : Nat → Nat} (hX : mp_X n T W ta wa) (hp : p < n) (ho : o < 32)
    (hph : ∀ c, c < 32 → ((nI c &&& (bd ^^^ (-1))) ||| ch) = nI (ph c) ∧ ph c < 32)
    {post : Int32 → Prop} (h : post (mp_z (mp_val n (fun c => mp_m n T W p (ph c)) o))) : ∀ d k, k + d = 2 ^ n →
    wX_valueBound_8 post (nI p) (nI o) bd ch (nI n) mx ta wa (d + 1) (mp_z (mp_va (fun M => mp_wo (fun c => mp_m n T W p (ph c)) o M (2 ^ n)) o k)) (nI k) := by
  have h5 := hX.2.1
  have h2 := mp_p2 hX.1 h5
  have hok : mp_ok (fun c => mp_m n T W p (ph c)) := fun c _ => mp_m_bd hX hp (ph c)
  have hok2 := mp_wo_ok hX.1 h5 hok o
  intro d
  induction d with
  | zero =>
    intro k hk
    obtain rfl : k = 2 ^ n := by omega
    exact pk_le (2 ^ n) (2 ^ n) (fun _ => h) (fun h => absurd h (by omega)) (mp_tsh n (by omega))
  | succ d ih =>
    intro k hk
    have ih' := ih (k + 1) (by omega)
    have hk5 : k < 32 := by omega
    have b1 := mp_va_bd hok2 o k (by omega)
    have b2 := hok2 k hk5
    refine pk_le (2 ^ n) k (fun h => absurd h (by omega)) (fun _ => ?_) (mp_tsh n (by omega))
    refine mp_bif (mp_tmax k hk5 o ho) (fun h0 => ?_) (fun h0 => ?_)
    · refine mx_worst hX hp ho hk5 hph ?_
      dsimp only at b2
      refine mp_ble _ _ (fun hc => ?_) (fun hc => ?_) rfl rfl
      · rw [mp_va_ge h0 (by omega)] at ih'
        exact nm_r (nI_1 k) ih'
      · rw [mp_va_lt h0 hc] at ih'
        exact nm_r (nI_1 k) ih'
    · rw [mp_va_no h0] at ih'
      exact nm_r (nI_1 k) ih'
theorem mx_value {n p o : Nat} {T : Nat → Nat} {W : Nat → Int} {mx bd ch : Int32} {ta wa : Nat → Int32} {ph : Nat → Nat} (hX : mp_X n T W ta wa) (hp : p < n) (ho : o < 32)
    (hph : ∀ c, c < 32 → ((nI c &&& (bd ^^^ (-1))) ||| ch) = nI (ph c) ∧ ph c < 32)
    {post : Int32 → Prop} (h : post (mp_z (mp_val n (fun c => mp_m n T W p (ph c)) o))) : wpX_valueBound post (nI n, mx, ta, wa) (nI p) (nI o) bd ch :=
  ⟨2 ^ n + 1, mx_value8 hX hp ho hph h (2 ^ n) 0 (by omega)⟩
theorem mx_valueOf {n p o : Nat} {T : Nat → Nat} {W : Nat → Int} {mx : Int32} {ta wa : Nat → Int32} (hX : mp_X n T W ta wa) (hp : p < n) (ho : o < 32)
    {post : Int32 → Prop} (h : post (mp_z (mp_val n (mp_m n T W p) o))) : wpX_valueOf post (nI n, mx, ta, wa) (nI p) (nI o) := by
  unfold wpX_valueOf
  dsimp only
  exact mx_value (ph := fun c => c) hX hp ho (fun c hc => ⟨mp_tnone c hc, hc⟩) h
theorem mp_r60 {V : Int} {k : Nat} (h1 : -180 ≤ V) (h2 : V ≤ 180) (hk : k ≤ 5) : ((mp_z V * nI k) - (mp_z V * nI k) / 60 * 60) = 0 ↔ (60 : Int) ∣ V * (k : Int) := by
  have e60 : (60 : Int32) = mp_z 60 := by decide
  have hb : -1000000 ≤ V * (k : Int) ∧ V * (k : Int) ≤ 1000000 := by
    have hk' : k = 0 ∨ k = 1 ∨ k = 2 ∨ k = 3 ∨ k = 4 ∨ k = 5 := by omega
    rcases hk' with rfl | rfl | rfl | rfl | rfl | rfl <;> omega
  rw [mp_zn, mp_zmul, e60]
  exact mp_zrem0 60 hb.1 hb.2 (by omega) (by omega)
theorem mx_low2 {n B : Nat} {V t : Int} {mx : Int32} {ta wa : Nat → Int32} (h5 : n ≤ 5) (hV1 : -180 ≤ V) (hV2 : V ≤ 180) (hf : mp_fr V t (B : Int)) (hl : mp_low t (B : Int)) (hB : B ≤ n)
    {post : Int32 → Prop} (h : post (nI B)) : ∀ d k, 1 ≤ k → k + d = B → wX_lowestDenominator_2 post (mp_z V) (nI n) mx ta wa (d + 1) (nI k) := by
  intro d
  induction d with
  | zero =>
    intro k h1 hk
    obtain rfl : k = B := by omega
    refine pk_le n k (fun _ => h) (fun _ => ⟨by decide, mp_bif (mp_r60 hV1 hV2 (by omega)) (fun _ => h) (fun hn => ?_)⟩)
    exact absurd ⟨t, hf.2.2.2.2⟩ hn
  | succ d ih =>
    intro k h1 hk
    refine pk_le n k (fun h => absurd h (by omega)) (fun _ => ⟨by decide, mp_bif (mp_r60 hV1 hV2 (by omega)) (fun hd => ?_) (fun _ => nm_r (nI_1 k) (ih (k + 1) (by omega) (by omega)))⟩)
    exact absurd hd (mp_den hf hl (by omega) (by omega))
theorem mx_low {n : Nat} {V t b : Int} {mx : Int32} {ta wa : Nat → Int32} (h5 : n ≤ 5) (hV1 : -180 ≤ V) (hV2 : V ≤ 180) (hf : mp_fr V t b) (hl : mp_low t b) (hB : b ≤ n)
    {post : Int32 → Prop} (h : post (mp_z b)) : wpX_lowestDenominator post (nI n, mx, ta, wa) (mp_z V) := by
  obtain ⟨B, rfl⟩ : ∃ B : Nat, b = (B : Int) := ⟨b.toNat, by have := hf.1; omega⟩
  have h1 := hf.1
  rw [← mp_zn] at h
  exact ⟨B - 1 + 1, mx_low2 h5 hV1 hV2 hf hl (by omega) h (B - 1) 1 (by omega) (by omega)⟩
theorem mx_num {V t b : Int} (hf : mp_fr V t b) : (mp_z V * mp_z b) / 60 = mp_z t := by
  have e60 : (60 : Int32) = mp_z 60 := by decide
  obtain ⟨_, _, h3, h4, e⟩ := hf
  rw [mp_zmul, e, e60, mp_zdiv (by omega) (by omega) (by omega) (by omega), Int.mul_tdiv_cancel_left _ (by omega)]
theorem mx_cnt4 {n c : Nat} {mx : Int32} {ta wa : Nat → Int32} (h5 : n ≤ 5) (hc : c < 32) {post : Int32 → Prop} (h : post (nI (mp_cnt c n))) : ∀ d k, k + d = n →
    wX_countPlaces_4 post (nI c) (nI n) mx ta wa (d + 1) (nI (mp_cnt c k)) (nI k) := by
  intro d
  induction d with
  | zero =>
    intro k hk
    obtain rfl : k = n := by omega
    exact pk_le k k (fun _ => h) (fun h => absurd h (by omega))
  | succ d ih =>
    intro k hk
    refine pk_le n k (fun h => absurd h (by omega)) (fun _ => ?_)
    rw [mp_tb c hc k (by omega)]
    exact nm_r (nI_add _ _) (nm_r (nI_1 k) (ih (k + 1) (by omega)))
theorem mx_cnt {n c : Nat} {mx : Int32} {ta wa : Nat → Int32} (h5 : n ≤ 5) (hc : c < 32) {post : Int32 → Prop} (h : post (nI (mp_cnt c n))) : wpX_countPlaces post (nI n, mx, ta, wa) (nI c) :=
  ⟨n + 1, mx_cnt4 h5 hc h n 0 (by omega)⟩
