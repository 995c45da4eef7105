/-! the relation; the checks of arguments on both sides -/
/-- both hold the same game: n places, MAX's places M, targets T and weights W up to 2 * n; the reference's six scratch fields are free -/
def i_Rel (_k : Nat) (u : SX) (v : SY) : Prop :=
  ∃ (n M : Nat) (T : Nat → Nat) (W : Nat → Int) (ta wa ow tb wc : Nat → Int32) (mt mb wt wb tp bt : Int32),
    u = (nI n, nI M, ta, wa) ∧ v = (nI n, mt, mb, wt, wb, tp, bt, ow, tb, wc) ∧ mp_X n T W ta wa ∧ mp_X n T W tb wc ∧ M < 2 ^ n ∧ ∀ q, q < n → ow q = nI (mp_bit M q)
theorem mp_rel {k n M : Nat} {T : Nat → Nat} {W : Nat → Int} {ta wa ow tb wc : Nat → Int32} {mt mb wt wb tp bt : Int32} (hX : mp_X n T W ta wa) (hY : mp_X n T W tb wc) (hM : M < 2 ^ n) (hO : ∀ q, q < n → ow q = nI (mp_bit M q)) :
    i_Rel k (nI n, nI M, ta, wa) (nI n, mt, mb, wt, wb, tp, bt, ow, tb, wc) :=
  ⟨n, M, T, W, ta, wa, ow, tb, wc, mt, mb, wt, wb, tp, bt, rfl, rfl, hX, hY, hM, hO⟩
theorem mp_M32 {n M : Nat} (h5 : n ≤ 5) (hM : M < 2 ^ n) : M < 32 := Nat.lt_of_lt_of_le hM (Nat.pow_le_pow_right (n := 2) (by omega) h5)
theorem mx_place {n p : Nat} {mx : Int32} {ta wa : Nat → Int32} (h5 : n ≤ 5) (hp : p < n) {post : Int32 → Prop} (h : post 1) : wpX_isPlace post (nI n, mx, ta, wa) (nI p) :=
  pk_lt p 0 (fun h => absurd h (by omega)) (fun _ => pk_le n p (fun h => absurd h (by omega)) (fun _ => h))
theorem mx_noplace {n : Nat} {mx x : Int32} {ta wa : Nat → Int32} (hx : x < 0 ∨ nI n ≤ x) {post : Int32 → Prop} (h : post 0) : wpX_isPlace post (nI n, mx, ta, wa) x :=
  br_c (fun _ => h) (fun h1 => br_c (fun _ => h) (fun h2 => hx.elim (fun z => absurd z h1) (fun z => absurd z h2)))
theorem my_place {n p : Nat} {mt mb wt wb tp bt : Int32} {ow ta wa : Nat → Int32} (h5 : n ≤ 5) (hp : p < n) {post : Int32 → Prop} (h : post 1) : wpY_isPlace post (nI n, mt, mb, wt, wb, tp, bt, ow, ta, wa) (nI p) :=
  pk_lt p 0 (fun h => absurd h (by omega)) (fun _ => pk_le n p (fun h => absurd h (by omega)) (fun _ => h))
theorem my_noplace {n : Nat} {x mt mb wt wb tp bt : Int32} {ow ta wa : Nat → Int32} (hx : x < 0 ∨ nI n ≤ x) {post : Int32 → Prop} (h : post 0) : wpY_isPlace post (nI n, mt, mb, wt, wb, tp, bt, ow, ta, wa) x :=
  br_c (fun _ => h) (fun h1 => br_c (fun _ => h) (fun h2 => hx.elim (fun z => absurd z h1) (fun z => absurd z h2)))
theorem mp_pl (x : Int32) {n : Nat} (h5 : n ≤ 5) : (x < 0 ∨ nI n ≤ x) ∨ ∃ p : Nat, p < n ∧ x = nI p := by
  rcases pk_ix x (n := n) (by omega) with h | h | h
  · exact Or.inl (Or.inl h)
  · exact Or.inl (Or.inr h)
  · exact Or.inr h
theorem mp_mv (x : Int32) : (¬ x = 0 ∧ ¬ x = 1) ∨ ∃ m : Nat, m < 2 ∧ x = nI m := by
  by_cases h : x = 0
  · exact Or.inr ⟨0, by omega, h⟩
  · by_cases h1 : x = 1
    · exact Or.inr ⟨1, by omega, h1⟩
    · exact Or.inl ⟨h, h1⟩
theorem mp_m01 {m : Nat} (h : m < 2) : m = 0 ∨ m = 1 := by omega
theorem mx_move {n p m : Nat} {mx : Int32} {ta wa : Nat → Int32} (h5 : n ≤ 5) (hp : p < n) (hm : m < 2) {post : Int32 → Prop} (h : post 1) : wpX_isMove post (nI n, mx, ta, wa) (nI p) (nI m) := by
  unfold wpX_isMove
  dsimp only
  refine mx_place h5 hp (br_f (by decide) ?_)
  rcases mp_m01 hm with rfl | rfl
  · exact br_t rfl h
  · exact br_f (by decide) (br_t rfl h)
theorem mx_nomove {n : Nat} {mx x y : Int32} {ta wa : Nat → Int32} (h5 : n ≤ 5) (hx : (x < 0 ∨ nI n ≤ x) ∨ (¬ y = 0 ∧ ¬ y = 1)) {post : Int32 → Prop} (h : post 0) : wpX_isMove post (nI n, mx, ta, wa) x y := by
  unfold wpX_isMove
  dsimp only
  rcases hx with hx | ⟨h1, h2⟩
  · exact mx_noplace hx (br_t rfl h)
  · rcases mp_pl x h5 with hn | ⟨p, hp, rfl⟩
    · exact mx_noplace hn (br_t rfl h)
    · exact mx_place h5 hp (br_f (by decide) (br_f h1 (br_f h2 h)))
theorem my_move {n p m : Nat} {mt mb wt wb tp bt : Int32} {ow ta wa : Nat → Int32} (h5 : n ≤ 5) (hp : p < n) (hm : m < 2) {post : Int32 → Prop} (h : post 1) : wpY_isMove post (nI n, mt, mb, wt, wb, tp, bt, ow, ta, wa) (nI p) (nI m) := by
  unfold wpY_isMove
  dsimp only
  refine my_place h5 hp (br_f (by decide) ?_)
  rcases mp_m01 hm with rfl | rfl
  · exact br_t rfl h
  · exact br_f (by decide) (br_t rfl h)
theorem my_nomove {n : Nat} {x y mt mb wt wb tp bt : Int32} {ow ta wa : Nat → Int32} (h5 : n ≤ 5) (hx : (x < 0 ∨ nI n ≤ x) ∨ (¬ y = 0 ∧ ¬ y = 1)) {post : Int32 → Prop} (h : post 0) : wpY_isMove post (nI n, mt, mb, wt, wb, tp, bt, ow, ta, wa) x y := by
  unfold wpY_isMove
  dsimp only
  rcases hx with hx | ⟨h1, h2⟩
  · exact my_noplace hx (br_t rfl h)
  · rcases mp_pl x h5 with hn | ⟨p, hp, rfl⟩
    · exact my_noplace hn (br_t rfl h)
    · exact my_place h5 hp (br_f (by decide) (br_f h1 (br_f h2 h)))
theorem mp_pm (x y : Int32) {n : Nat} (h5 : n ≤ 5) : ((x < 0 ∨ nI n ≤ x) ∨ (¬ y = 0 ∧ ¬ y = 1)) ∨ ∃ p m : Nat, p < n ∧ m < 2 ∧ x = nI p ∧ y = nI m := by
  rcases mp_pl x h5 with h | ⟨p, hp, rfl⟩
  · exact Or.inl (Or.inl h)
  · rcases mp_mv y with h | ⟨m, hm, rfl⟩
    · exact Or.inl (Or.inr h)
    · exact Or.inr ⟨p, m, hp, hm, rfl, rfl⟩
/-- a number is below -K, above K, or a small whole number -/
theorem mp_wi (x : Int32) {y : Int32} (K : Int) (hy : y = mp_z K) (h0 : 0 ≤ K) (h1 : K ≤ 1000) : (x < -y ∨ y < x) ∨ ∃ w : Int, -K ≤ w ∧ w ≤ K ∧ x = mp_z w := by
  subst hy
  by_cases a : x < -mp_z K
  · exact Or.inl (Or.inl a)
  · by_cases b : mp_z K < x
    · exact Or.inl (Or.inr b)
    · rw [Int32.lt_iff_toInt_lt, mp_zneg, mp_zt (by omega) (by omega)] at a
      rw [Int32.lt_iff_toInt_lt, mp_zt (by omega) (by omega)] at b
      exact Or.inr ⟨x.toInt, by omega, by omega, (Int32.ofInt_toInt x).symm⟩
theorem mx_within {w K : Int} {y : Int32} (hy : y = mp_z K) (h0 : 0 ≤ K) (h1 : K ≤ 1000) (h2 : -K ≤ w) (h3 : w ≤ K) {post : Int32 → Prop} (h : post 1) : wpX_isWithin post (mp_z w) y :=
  mp_blt w (-K) (fun h => absurd h (by omega)) (fun _ => mp_blt K w (fun h => absurd h (by omega)) (fun _ => h) hy rfl) rfl (by rw [hy, mp_zneg])
theorem mx_nowithin {x y : Int32} (hx : x < -y ∨ y < x) {post : Int32 → Prop} (h : post 0) : wpX_isWithin post x y :=
  br_c (fun _ => h) (fun h1 => br_c (fun _ => h) (fun h2 => hx.elim (fun z => absurd z h1) (fun z => absurd z h2)))
theorem mp_frc (x y : Int32) : (x < -100 ∨ 100 < x ∨ y < 1 ∨ 20 < y) ∨ ∃ a c : Int, -100 ≤ a ∧ a ≤ 100 ∧ 1 ≤ c ∧ c ≤ 20 ∧ x = mp_z a ∧ y = mp_z c := by
  rcases mp_wi x (y := 100) 100 (by decide) (by omega) (by omega) with (h | h) | ⟨a, h1, h2, rfl⟩
  · exact Or.inl (Or.inl h)
  · exact Or.inl (Or.inr (Or.inl h))
  · by_cases b1 : y < 1
    · exact Or.inl (Or.inr (Or.inr (Or.inl b1)))
    · by_cases b2 : 20 < y
      · exact Or.inl (Or.inr (Or.inr (Or.inr b2)))
      · rw [Int32.lt_iff_toInt_lt, show (1 : Int32).toInt = 1 by decide] at b1
        rw [Int32.lt_iff_toInt_lt, show (20 : Int32).toInt = 20 by decide] at b2
        exact Or.inr ⟨a, y.toInt, h1, h2, by omega, by omega, rfl, (Int32.ofInt_toInt y).symm⟩
theorem mx_frac {a c : Int} (h1 : -100 ≤ a) (h2 : a ≤ 100) (h3 : 1 ≤ c) (h4 : c ≤ 20) {post : Int32 → Prop} (h : post 1) : wpX_isFraction post (mp_z a) (mp_z c) :=
  mx_within (K := 100) (by decide) (by omega) (by omega) h1 h2 (br_f (by decide) (mp_blt c 1 (fun h => absurd h (by omega)) (fun _ => mp_blt 20 c (fun h => absurd h (by omega)) (fun _ => h) (by decide) rfl) rfl (by decide)))
theorem mx_nofrac {x y : Int32} (hx : x < -100 ∨ 100 < x ∨ y < 1 ∨ 20 < y) {post : Int32 → Prop} (h : post 0) : wpX_isFraction post x y :=
  br_c (fun _ => br_t rfl h) (fun n1 => br_c (fun _ => br_t rfl h) (fun n2 => br_f (by decide) (br_c (fun _ => h) (fun n3 => br_c (fun _ => h) (fun n4 =>
    hx.elim (fun z => absurd z n1) (fun z => z.elim (fun z => absurd z n2) (fun z => z.elim (fun z => absurd z n3) (fun z => absurd z n4))))))))
theorem my_bound {n : Nat} {a c : Int} {mt mb wt wb tp bt : Int32} {ow ta wa : Nat → Int32} (h1 : -100 ≤ a) (h2 : a ≤ 100) (h3 : 1 ≤ c) (h4 : c ≤ 20) {post : Int32 → Prop} (h : post 1) : wpY_isBound post (nI n, mt, mb, wt, wb, tp, bt, ow, ta, wa) (mp_z a) (mp_z c) :=
  mp_blt a (-100) (fun h => absurd h (by omega)) (fun _ => mp_blt 100 a (fun h => absurd h (by omega)) (fun _ =>
    mp_blt c 1 (fun h => absurd h (by omega)) (fun _ => mp_blt 20 c (fun h => absurd h (by omega)) (fun _ => h) (by decide) rfl) rfl (by decide)) (by decide) rfl) rfl (by decide)
theorem my_nobound {n : Nat} {x y mt mb wt wb tp bt : Int32} {ow ta wa : Nat → Int32} (hx : x < -100 ∨ 100 < x ∨ y < 1 ∨ 20 < y) {post : Int32 → Prop} (h : post 0) : wpY_isBound post (nI n, mt, mb, wt, wb, tp, bt, ow, ta, wa) x y :=
  br_c (fun _ => h) (fun n1 => br_c (fun _ => h) (fun n2 => br_c (fun _ => h) (fun n3 => br_c (fun _ => h) (fun n4 =>
    hx.elim (fun z => absurd z n1) (fun z => z.elim (fun z => absurd z n2) (fun z => z.elim (fun z => absurd z n3) (fun z => absurd z n4)))))))
theorem mp_ipm (p m : Nat) : (2 * nI p) + nI m = nI (2 * p + m) := by rw [mp_2, nI_add]
theorem mp_X_upd {n k q : Nat} {w : Int} {T : Nat → Nat} {W : Nat → Int} {ta wa : Nat → Int32} (hX : mp_X n T W ta wa) (hq : q < n) (h1 : -3 ≤ w) (h2 : w ≤ 3) :
    mp_X n (fun i => if i = k then q else T i) (fun i => if i = k then w else W i) (upd ta k (nI q)) (upd wa k (mp_z w)) := by
  refine ⟨hX.1, hX.2.1, fun i hi => ?_⟩
  have hx := hX.2.2 i hi
  by_cases e : i = k
  · subst e
    simp only [if_pos, pk_us]
    exact ⟨hq, h1, h2, trivial, trivial⟩
  · simp only [if_neg e, pk_un e]
    exact hx
