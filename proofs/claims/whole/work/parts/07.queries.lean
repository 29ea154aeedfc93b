/-! the owed statements of the methods that only read -/
theorem i_vc_piece {k : Nat} {u : SX} {v : SY} (I : i_Rel k u v) (hk : k + 4 ≤ 2048) (v1 : Int32) : wpX_piece (fun r => wpY_piece (fun r' => r' = r ∧ i_Rel (k + 4) u v) v v1) u v1 := by
  obtain ⟨md, kp, kr, kq, pk, nm, st, sz, mk, hd, po, rg, pr, go, rfl, rfl, R⟩ := I
  unfold wpX_piece
  dsimp only
  rcases dt_gate R v1 with ⟨j, hj, rfl, a1, a2⟩ | ⟨gX, gY⟩
  · obtain ⟨p, hp, e1, e2, e3, e4⟩ := dt_hp R hj a1
    refine dx_held_t hj a2 (br_f dt_10 ⟨dt_in hj, ?_⟩)
    rw [dt_cl hj, e1]
    refine nm_e ⟨dt_in hp, dt_in hp, ?_⟩
    unfold wpY_piece
    dsimp only
    refine dy_miss_f hj a1 (br_t rfl ⟨dt_in hj, ?_⟩)
    rw [dt_cl hj, e2]
    exact ⟨dt_in hp, dt_in hj, dt_in hp, rfl, dt_J R⟩
  · refine gX _ (br_t rfl ?_)
    unfold wpY_piece
    dsimp only
    exact gY _ (br_f dt_10 ⟨rfl, dt_J R⟩)
theorem i_vc_rights {k : Nat} {u : SX} {v : SY} (I : i_Rel k u v) (hk : k + 4 ≤ 2048) (v1 : Int32) : wpX_rights (fun r => wpY_rights (fun r' => r' = r ∧ i_Rel (k + 4) u v) v v1) u v1 := by
  obtain ⟨md, kp, kr, kq, pk, nm, st, sz, mk, hd, po, rg, pr, go, rfl, rfl, R⟩ := I
  unfold wpX_rights
  dsimp only
  rcases dt_gate R v1 with ⟨j, hj, rfl, a1, a2⟩ | ⟨gX, gY⟩
  · obtain ⟨p, hp, e1, e2, e3, e4⟩ := dt_hp R hj a1
    refine dx_held_t hj a2 (br_f dt_10 ⟨dt_in hj, ?_⟩)
    rw [dt_cl hj]
    unfold wpY_rights
    dsimp only
    refine dy_miss_f hj a1 (br_t rfl ⟨dt_in hj, ?_⟩)
    rw [dt_cl hj, e3]
    exact ⟨rfl, dt_J R⟩
  · refine gX _ (br_t rfl ?_)
    unfold wpY_rights
    dsimp only
    exact gY _ (br_f dt_10 ⟨rfl, dt_J R⟩)
theorem i_vc_room {k : Nat} {u : SX} {v : SY} (I : i_Rel k u v) (hk : k + 4 ≤ 2048) (v1 : Int32) : wpX_room (fun r => wpY_room (fun r' => r' = r ∧ i_Rel (k + 4) u v) v v1) u v1 := by
  obtain ⟨md, kp, kr, kq, pk, nm, st, sz, mk, hd, po, rg, pr, go, rfl, rfl, R⟩ := I
  unfold wpX_room
  dsimp only
  rcases dt_gate R v1 with ⟨j, hj, rfl, a1, a2⟩ | ⟨gX, gY⟩
  · obtain ⟨p, hp, e1, e2, e3, e4⟩ := dt_hp R hj a1
    refine dx_held_t hj a2 (br_f dt_10 ⟨dt_in hj, ?_⟩)
    rw [dt_cl hj, e1]
    refine nm_e ⟨dt_in hp, dt_in hp, ?_⟩
    unfold wpY_room
    dsimp only
    refine dy_miss_f hj a1 (br_t rfl ⟨dt_in hj, ?_⟩)
    rw [dt_cl hj, e2]
    exact ⟨dt_in hp, dt_in hj, dt_in hp, rfl, dt_J R⟩
  · refine gX _ (br_t rfl ?_)
    unfold wpY_room
    dsimp only
    exact gY _ (br_f dt_10 ⟨rfl, dt_J R⟩)
theorem i_vc_descends {k : Nat} {u : SX} {v : SY} (I : i_Rel k u v) (hk : k + 4 ≤ 2048) (v1 : Int32) (v2 : Int32) : wpX_descends (fun r => wpY_descends (fun r' => r' = r ∧ i_Rel (k + 4) u v) v v1 v2) u v1 v2 := by
  obtain ⟨md, kp, kr, kq, pk, nm, st, sz, mk, hd, po, rg, pr, go, rfl, rfl, R⟩ := I
  unfold wpX_descends
  dsimp only
  rcases dt_gate R v1 with ⟨a, ha, rfl, a1, a2⟩ | ⟨gX, gY⟩
  · refine dx_held_t ha a2 (br_f dt_10 ?_)
    rcases dt_gate R v2 with ⟨b, hb, rfl, b1, b2⟩ | ⟨gX, gY⟩
    · refine dx_held_t hb b2 (br_f dt_10 (dx_comes (dt_hq R) hb ?_))
      cases c : dt_bl kq (nI a) 16 (kq b)
      · refine br_t rfl ?_
        unfold wpY_descends
        dsimp only
        refine dy_miss_f ha a1 (br_t rfl (dy_miss_f hb b1 (br_t rfl (dy_below R.2.2.1 (dt_he R) hb b2 ?_))))
        rw [c]
        exact br_t rfl ⟨rfl, dt_J R⟩
      · refine br_f dt_b1 ?_
        unfold wpY_descends
        dsimp only
        refine dy_miss_f ha a1 (br_t rfl (dy_miss_f hb b1 (br_t rfl (dy_below R.2.2.1 (dt_he R) hb b2 ?_))))
        rw [c]
        exact br_f dt_b1 ⟨rfl, dt_J R⟩
    · refine gX _ (br_t rfl ?_)
      unfold wpY_descends
      dsimp only
      exact dy_miss_f ha a1 (br_t rfl (gY _ (br_f dt_10 ⟨rfl, dt_J R⟩)))
  · refine gX _ (br_t rfl ?_)
    unfold wpY_descends
    dsimp only
    exact gY _ (br_f dt_10 ⟨rfl, dt_J R⟩)
theorem i_vc_descendants {k : Nat} {u : SX} {v : SY} (I : i_Rel k u v) (hk : k + 4 ≤ 2048) (v1 : Int32) : wpX_descendants (fun r => wpY_descendants (fun r' => r' = r ∧ i_Rel (k + 4) u v) v v1) u v1 := by
  obtain ⟨md, kp, kr, kq, pk, nm, st, sz, mk, hd, po, rg, pr, go, rfl, rfl, R⟩ := I
  unfold wpX_descendants
  dsimp only
  rcases dt_gate R v1 with ⟨a, ha, rfl, a1, a2⟩ | ⟨gX, gY⟩
  · refine dx_held_t ha a2 (br_f dt_10 (dx_dset (dt_hq R) (fun y hy => ⟨17, dx_dsc hy ?_ 16 0 rfl⟩)))
    unfold wpY_descendants
    dsimp only
    refine dy_miss_f ha a1 (br_t rfl ⟨17, dy_dsc (dt_hh2 R) R.2.2.1 (dt_he R) ?_ 16 0 rfl⟩)
    exact ⟨rfl, dt_J R⟩
  · refine gX _ (br_t rfl ?_)
    unfold wpY_descendants
    dsimp only
    exact gY _ (br_f dt_10 ⟨rfl, dt_J R⟩)
theorem i_vc_keys {k : Nat} {u : SX} {v : SY} (I : i_Rel k u v) (hk : k + 4 ≤ 2048) : wpX_keys (fun r => wpY_keys (fun r' => r' = r ∧ i_Rel (k + 4) u v) v) u := by
  obtain ⟨md, kp, kr, kq, pk, nm, st, sz, mk, hd, po, rg, pr, go, rfl, rfl, R⟩ := I
  refine ⟨17, dx_keys ?_ 16 0 rfl⟩
  refine ⟨17, dy_keys (dt_hh R) ?_ 16 0 rfl⟩
  exact ⟨congrArg nI (dt_cn_c 16 (dt_held R)).symm, dt_J R⟩
