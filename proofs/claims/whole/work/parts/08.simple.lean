/-! places, owner, move, target, weight -/
theorem i_up {k : Nat} {u : SX} {v : SY} (h : i_Rel k u v) : i_Rel (k + 5) u v := h
theorem i_vc_places {k : Nat} {u : SX} {v : SY} (I : i_Rel k u v) (hk : k + 5 ≤ 2561) : wpX_places (fun r => wpY_places (fun r' => r' = r ∧ i_Rel (k + 5) u v) v) u := by
  have R : i_Rel (k + 5) u v := I
  obtain ⟨n, M, T, W, ta, wa, ow, tb, wc, mt, mb, wt, wb, tp, bt, rfl, rfl, hX, hY, hM, hO⟩ := I
  exact ⟨rfl, R⟩
theorem i_vc_owner {k : Nat} {u : SX} {v : SY} (I : i_Rel k u v) (hk : k + 5 ≤ 2561) (v1 : Int32) (v2 : Int32) : wpX_owner (fun r u' => wpY_owner (fun r' v' => r' = r ∧ i_Rel (k + 5) u' v') v v1 v2) u v1 v2 := by
  have R : i_Rel (k + 5) u v := I
  obtain ⟨n, M, T, W, ta, wa, ow, tb, wc, mt, mb, wt, wb, tp, bt, rfl, rfl, hX, hY, hM, hO⟩ := I
  have h5 := hX.2.1
  have hM5 := mp_M32 h5 hM
  unfold wpX_owner
  dsimp only
  rcases mp_pl v1 h5 with h | ⟨p, hp, rfl⟩
  · refine mx_noplace h (br_t rfl ?_)
    unfold wpY_owner
    dsimp only
    exact my_noplace h (br_t rfl ⟨rfl, R⟩)
  · refine mx_place h5 hp (br_f (by decide) ?_)
    rcases mp_mv v2 with ⟨h0, h1⟩ | ⟨m, hm, rfl⟩
    · refine br_f h0 (br_f h1 ?_)
      unfold wpY_owner
      dsimp only
      refine my_place h5 hp (br_f (by decide) (br_c (fun _ => ⟨rfl, R⟩) (fun hn => br_f (fun hle => ?_) ⟨rfl, R⟩)))
      obtain ⟨j, hj, rfl⟩ := nI_of2 (M := 1) (n := 1) (by decide) hn hle
      have hj' : j = 0 ∨ j = 1 := by omega
      rcases hj' with rfl | rfl
      · exact h0 rfl
      · exact h1 rfl
    · have key : wX_owner_20 (fun r u' => wpY_owner (fun r' v' => r' = r ∧ i_Rel (k + 5) u' v') (nI n, mt, mb, wt, wb, tp, bt, ow, tb, wc) (nI p) (nI m)) (nI p) (nI m) (nI n) (nI M) ta wa := by
        refine nm_r (mp_tb M hM5 p (by omega)) (nm_r (mp_tset M hM5 p (by omega) m hm) ?_)
        unfold wpY_owner
        dsimp only
        refine my_place h5 hp (br_f (by decide) (pk_lt m 0 (fun h => absurd h (by omega)) (fun _ => pk_le m 1 (fun _ => ?_) (fun h => absurd h (by omega)))))
        refine ⟨vp_in_nI (by omega) (by omega), nm_e ⟨vp_in_nI (by omega) (by omega), nm_e ⟨?_, ?_⟩⟩⟩
        · rw [nI_clamp (by omega)]; exact hO p hp
        · rw [nI_clamp (by omega)]
          refine mp_rel hX hY (mp_set_lt n (by omega) M hM p hp m hm) (fun q hq => ?_)
          rw [mp_set_bit M hM5 p (by omega) m hm q (by omega)]
          by_cases e : q = p
          · subst e; rw [pk_us, if_pos rfl]
          · rw [pk_un e, if_neg e]; exact hO q hq
      rcases mp_m01 hm with rfl | rfl
      · exact br_t rfl key
      · exact br_f (by decide) (br_t rfl key)
theorem i_vc_move {k : Nat} {u : SX} {v : SY} (I : i_Rel k u v) (hk : k + 5 ≤ 2561) (v1 : Int32) (v2 : Int32) (v3 : Int32) (v4 : Int32) : wpX_move (fun r u' => wpY_move (fun r' v' => r' = r ∧ i_Rel (k + 5) u' v') v v1 v2 v3 v4) u v1 v2 v3 v4 := by
  have R : i_Rel (k + 5) u v := I
  obtain ⟨n, M, T, W, ta, wa, ow, tb, wc, mt, mb, wt, wb, tp, bt, rfl, rfl, hX, hY, hM, hO⟩ := I
  have h5 := hX.2.1
  unfold wpX_move
  dsimp only
  rcases mp_pm v1 v2 h5 with h | ⟨p, m, hp, hm, rfl, rfl⟩
  · refine mx_nomove h5 h (br_t rfl ?_)
    unfold wpY_move
    dsimp only
    exact my_nomove h5 h (br_t rfl ⟨rfl, R⟩)
  · refine mx_move h5 hp hm (br_f (by decide) ?_)
    rcases mp_pl v3 h5 with h | ⟨q, hq, rfl⟩
    · refine mx_noplace h (br_t rfl ?_)
      unfold wpY_move
      dsimp only
      exact my_move h5 hp hm (br_f (by decide) (my_noplace h (br_t rfl ⟨rfl, R⟩)))
    · refine mx_place h5 hq (br_f (by decide) ?_)
      rcases mp_wi v4 (y := 3) 3 (by decide) (by omega) (by omega) with h | ⟨w, h1, h2, rfl⟩
      · refine mx_nowithin h (br_t rfl ?_)
        unfold wpY_move
        dsimp only
        refine my_move h5 hp hm (br_f (by decide) (my_place h5 hq (br_f (by decide) (br_c (fun _ => ⟨rfl, R⟩) (fun hn => br_f (fun hle => ?_) ⟨rfl, R⟩)))))
        exact h.elim (fun z => hn z) (fun z => Int32.not_le.mpr z hle)
      · refine mx_within (K := 3) (by decide) (by omega) (by omega) h1 h2 (br_f (by decide) ?_)
        rw [mp_ipm, nI_clamp (by omega)]
        refine ⟨vp_in_nI (by omega) (by omega), nm_e ⟨vp_in_nI (by omega) (by omega), nm_e ?_⟩⟩
        unfold wpY_move
        dsimp only
        refine my_move h5 hp hm (br_f (by decide) (my_place h5 hq (br_f (by decide) (mp_blt w (-3) (fun h => absurd h (by omega)) (fun _ => mp_ble w 3 (fun _ => ?_) (fun h => absurd h (by omega)) rfl (by decide)) rfl (by decide)))))
        rw [mp_ipm, nI_clamp (by omega)]
        exact ⟨vp_in_nI (by omega) (by omega), nm_e ⟨vp_in_nI (by omega) (by omega), nm_e ⟨rfl, mp_rel (mp_X_upd hX hq h1 h2) (mp_X_upd hY hq h1 h2) hM hO⟩⟩⟩
theorem i_vc_target {k : Nat} {u : SX} {v : SY} (I : i_Rel k u v) (hk : k + 5 ≤ 2561) (v1 : Int32) (v2 : Int32) : wpX_target (fun r => wpY_target (fun r' => r' = r ∧ i_Rel (k + 5) u v) v v1 v2) u v1 v2 := by
  have R : i_Rel (k + 5) u v := I
  obtain ⟨n, M, T, W, ta, wa, ow, tb, wc, mt, mb, wt, wb, tp, bt, rfl, rfl, hX, hY, hM, hO⟩ := I
  have h5 := hX.2.1
  unfold wpX_target
  dsimp only
  rcases mp_pm v1 v2 h5 with h | ⟨p, m, hp, hm, rfl, rfl⟩
  · refine mx_nomove h5 h (br_t rfl ?_)
    unfold wpY_target
    dsimp only
    exact my_nomove h5 h (br_t rfl ⟨rfl, R⟩)
  · refine mx_move h5 hp hm (br_f (by decide) ?_)
    rw [mp_ipm, nI_clamp (by omega)]
    refine ⟨vp_in_nI (by omega) (by omega), ?_⟩
    unfold wpY_target
    dsimp only
    refine my_move h5 hp hm (br_f (by decide) ?_)
    rw [mp_ipm, nI_clamp (by omega)]
    refine ⟨vp_in_nI (by omega) (by omega), ?_, R⟩
    rw [(hX.2.2 _ (by omega)).2.2.2.1, (hY.2.2 _ (by omega)).2.2.2.1]
theorem i_vc_weight {k : Nat} {u : SX} {v : SY} (I : i_Rel k u v) (hk : k + 5 ≤ 2561) (v1 : Int32) (v2 : Int32) : wpX_weight (fun r => wpY_weight (fun r' => r' = r ∧ i_Rel (k + 5) u v) v v1 v2) u v1 v2 := by
  have R : i_Rel (k + 5) u v := I
  obtain ⟨n, M, T, W, ta, wa, ow, tb, wc, mt, mb, wt, wb, tp, bt, rfl, rfl, hX, hY, hM, hO⟩ := I
  have h5 := hX.2.1
  unfold wpX_weight
  dsimp only
  rcases mp_pm v1 v2 h5 with h | ⟨p, m, hp, hm, rfl, rfl⟩
  · refine mx_nomove h5 h (br_t rfl ?_)
    unfold wpY_weight
    dsimp only
    exact my_nomove h5 h (br_t rfl ⟨rfl, R⟩)
  · refine mx_move h5 hp hm (br_f (by decide) ?_)
    rw [mp_ipm, nI_clamp (by omega)]
    refine ⟨vp_in_nI (by omega) (by omega), ?_⟩
    unfold wpY_weight
    dsimp only
    refine my_move h5 hp hm (br_f (by decide) ?_)
    rw [mp_ipm, nI_clamp (by omega)]
    refine ⟨vp_in_nI (by omega) (by omega), ?_, R⟩
    rw [(hX.2.2 _ (by omega)).2.2.2.2, (hY.2.2 _ (by omega)).2.2.2.2]
