/-! keeps: a bound choice on one side, the other move overwritten on the other -/
theorem mp_upd_back (f : Nat → Int32) (k : Nat) (x : Int32) : upd (upd f k x) k (f k) = f := by
  funext j
  by_cases e : j = k
  · subst e; rw [pk_us]
  · rw [pk_un e, pk_un e]
theorem mp_kb {p m q b : Nat} (hm : m < 2) (hb : b ≤ 1) : (2 * q + b = 2 * p + 1 - m) ↔ (q = p ∧ b = 1 - m) := by omega
theorem mp_keep {n p m : Nat} {T : Nat → Nat} {W : Nat → Int} {ta wa : Nat → Int32} (hX : mp_X n T W ta wa) (hp : p < n) (hm : m < 2) : ∀ c, c < 32 →
    mp_m n T W p (mp_set c p m) = mp_m n (fun i => if i = 2 * p + 1 - m then T (2 * p + m) else T i) (fun i => if i = 2 * p + 1 - m then W (2 * p + m) else W i) p c := by
  have h5 := hX.2.1
  intro c hc
  refine (mp_mn_congr (mp_f_lt hX (mp_set c p m)) hp (fun q hq => ?_) (fun q hq => ?_)).symm
  · unfold mp_f
    dsimp only
    rw [mp_set_bit c hc p (by omega) m hm q (by omega)]
    have hb := mp_bit_le c q
    by_cases e : q = p
    · subst e
      rw [if_pos rfl]
      by_cases e2 : 2 * q + mp_bit c q = 2 * q + 1 - m
      · rw [if_pos e2]
      · rw [if_neg e2, show mp_bit c q = m by omega]
    · rw [if_neg e, if_neg (by omega)]
  · unfold mp_g
    dsimp only
    rw [mp_set_bit c hc p (by omega) m hm q (by omega)]
    have hb := mp_bit_le c q
    by_cases e : q = p
    · subst e
      rw [if_pos rfl]
      by_cases e2 : 2 * q + mp_bit c q = 2 * q + 1 - m
      · rw [if_pos e2]
      · rw [if_neg e2, show mp_bit c q = m by omega]
    · rw [if_neg e, if_neg (by omega)]
theorem mp_io {p m : Nat} (hm : m < 2) : ((2 * nI p) + 1) - nI m = nI (2 * p + 1 - m) := by
  rw [mp_2, nI_1, pk_sub (by omega)]
theorem i_vc_keeps {k : Nat} {u : SX} {v : SY} (I : i_Rel k u v) (hk : k + 5 ≤ 2561) (v1 : Int32) (v2 : Int32) : wpX_keeps (fun r => wpY_keeps (fun r' v' => r' = r ∧ i_Rel (k + 5) u v') v v1 v2) u v1 v2 := by
  have R : i_Rel (k + 5) u v := I
  obtain ⟨n, M, T, W, ta, wa, ow, tb, wc, mt, mb, wt, wb, tp, bt, rfl, rfl, hX, hY, hM, hO⟩ := I
  have h5 := hX.2.1
  have hM5 := mp_M32 h5 hM
  unfold wpX_keeps
  dsimp only
  rcases mp_pm v1 v2 h5 with h | ⟨p, m, hp, hm, rfl, rfl⟩
  · refine mx_nomove h5 h (br_t rfl ?_)
    unfold wpY_keeps
    dsimp only
    exact my_nomove h5 h (br_t rfl ⟨rfl, R⟩)
  · have hset : ∀ c, c < 32 → mp_set c p m < 32 := fun c hc => mp_set_lt 5 (by omega) c hc p (by omega) m hm
    refine mx_move h5 hp hm (br_f (by decide) ?_)
    refine mx_value (ph := fun c => mp_set c p m) hX hp hM5 (fun c hc => ⟨mp_tset c hc p (by omega) m hm, hset c hc⟩) ?_
    refine mx_valueOf hX hp hM5 ?_
    have hok : mp_ok (fun c => mp_m n T W p (mp_set c p m)) := fun c _ => mp_m_bd hX hp _
    have hv1 := mp_val_bd hX.1 h5 hok M
    have hv2 := mp_val_bd hX.1 h5 (mp_m_ok hX hp) M
    have io : 2 * p + 1 - m < 2 * n := by omega
    have im : 2 * p + m < 2 * n := by omega
    have hx := hY.2.2 _ im
    have hY' := mp_X_upd (k := 2 * p + 1 - m) hY hx.1 hx.2.1 hx.2.2.1
    rw [← hx.2.2.2.1, ← hx.2.2.2.2] at hY'
    have hy : ∀ r : Int32, (mp_val n (fun c => mp_m n T W p (mp_set c p m)) M = mp_val n (mp_m n T W p) M → r = 1) → (¬ mp_val n (fun c => mp_m n T W p (mp_set c p m)) M = mp_val n (mp_m n T W p) M → r = 0) →
        wpY_keeps (fun r' v' => r' = r ∧ i_Rel (k + 5) (nI n, nI M, ta, wa) v') (nI n, mt, mb, wt, wb, tp, bt, ow, tb, wc) (nI p) (nI m) := by
      intro r r1 r0
      unfold wpY_keeps
      dsimp only
      refine my_move h5 hp hm (br_f (by decide) (my_value hY hp hM hO (fun _ _ => rfl) (fun mt mb wt wb t b hb hf hl => ?_)))
      dsimp only
      rw [mp_io hm, mp_ipm]
      refine nm_e ⟨vp_in_nI (by omega) (by omega), nm_e ⟨vp_in_nI (by omega) (by omega), nm_e ⟨vp_in_nI (by omega) (by omega), vp_in_nI (by omega) (by omega), nm_e ⟨vp_in_nI (by omega) (by omega), vp_in_nI (by omega) (by omega), nm_e ?_⟩⟩⟩⟩
      rw [nI_clamp (by omega), nI_clamp (by omega)]
      refine my_value hY' hp hM hO (mp_keep hY hp hm) (fun mt mb wt wb t' b' hb' hf' hl' => ?_)
      dsimp only
      refine ⟨vp_in_nI (by omega) (by omega), nm_r (mp_upd_back _ _ _) ⟨vp_in_nI (by omega) (by omega), nm_r (mp_upd_back _ _ _) ?_⟩⟩
      have hu := mp_uniq hf' hl' hf hl
      have := hf.1
      have := hf.2.1
      have := hf'.1
      have := hf'.2.1
      have := hf.2.2.1
      have := hf.2.2.2.1
      have := hf'.2.2.1
      have := hf'.2.2.2.1
      refine mp_beq t' t (fun et => mp_beq b' b (fun eb => ⟨?_, mp_rel hX hY hM hO⟩) (fun nb => ⟨?_, mp_rel hX hY hM hO⟩) rfl rfl) (fun nt => ⟨?_, mp_rel hX hY hM hO⟩) rfl rfl
      · exact (r1 (hu.mp ⟨et, eb⟩)).symm
      · exact (r0 (fun z => nb (hu.mpr z).2)).symm
      · exact (r0 (fun z => nt (hu.mpr z).1)).symm
    exact mp_beq _ _ (fun e => hy 1 (fun _ => rfl) (fun z => absurd e z)) (fun e => hy 0 (fun z => absurd z e) (fun _ => rfl)) rfl rfl
