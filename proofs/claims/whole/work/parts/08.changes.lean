/-! the owed statements of the constructors and of the methods that change the state -/
theorem dx_ini {post : SX → Prop} (h : wX_init_70 post 0 1 (nI 16) (dt_mk (fun _ => true) (-1) (fun _ => (0 : Int32)) 16) (fun _ => (0 : Int32)) (dt_mk (fun _ => true) (-1) (fun _ => (0 : Int32)) 16) (fun _ => (0 : Int32)) (fun _ => (0 : Int32)) (fun _ => (0 : Int32)) (fun _ => (0 : Int32)) (fun _ => (0 : Int32))) : ∀ d i, i + d = 16 → wX_init_70 post 0 (d + 1) (nI i) (dt_mk (fun _ => true) (-1) (fun _ => (0 : Int32)) i) (fun _ => (0 : Int32)) (dt_mk (fun _ => true) (-1) (fun _ => (0 : Int32)) i) (fun _ => (0 : Int32)) (fun _ => (0 : Int32)) (fun _ => (0 : Int32)) (fun _ => (0 : Int32)) (fun _ => (0 : Int32)) := by
  intro d
  induction d with
  | zero =>
    intro i hi
    have e : i = 16 := by omega
    subst e
    exact h
  | succ d ih =>
    intro i hi
    have h16 : i < 16 := by omega
    have g := ih (i + 1) (by omega)
    rw [← dt_mk_t (f := fun _ => true) (i := i) rfl] at g
    refine br_f (dt_g16 h16) ⟨dt_in h16, ?_⟩
    rw [dt_cl h16]
    exact nm_e ⟨dt_in h16, nm_e (nm_r (nI_1 i) g)⟩
theorem dt_m0 : ∀ s, s < 16 → (dt_mk (fun _ => true) (-1) (fun _ => (0 : Int32)) 16) s = -1 := fun _ hs => dt_mk_y hs rfl
theorem dt_R_i : dt_R (dt_mk (fun _ => true) (-1) (fun _ => (0 : Int32)) 16) (fun _ => (0 : Int32)) (dt_mk (fun _ => true) (-1) (fun _ => (0 : Int32)) 16) (fun _ => (0 : Int32)) (fun _ => (0 : Int32)) (fun _ => (0 : Int32)) (fun _ => (0 : Int32)) (fun _ => (0 : Int32)) := dt_R_0 dt_m0 dt_m0
theorem dt_lf_i : dt_lf (dt_T (dt_mk (fun _ => true) (-1) (fun _ => (0 : Int32)) 16)) 15 0 = 0 := by
  refine dt_lf_f (dt_ex_f (fun s hs => ?_))
  show decide ((dt_mk (fun _ => true) (-1) (fun _ => (0 : Int32)) 16) s = nI 0) = false
  rw [dt_m0 s hs]
  exact decide_eq_false (dt_1n (by decide))
theorem i_vc0 : wpX_init (fun u => wpY_init (fun v => i_Rel 0 u v)) := by
  have g := dx_ini (post := fun u => wpY_init (fun v => i_Rel 0 u v)) ?_ 16 0 rfl
  · rw [dt_mk_0] at g
    exact ⟨17, g⟩
  · refine br_t dt_e16 (dx_make dt_R_i.2.1 ?_)
    rw [dt_lf_i]
    refine dx_put (t := 0) (p := 0) (by decide) (by decide) ?_
    unfold wpY_init
    rw [dt_nb1]
    refine nm_e (nm_e (nm_e (nm_e ?_)))
    have z : upd (fun _ => (0 : Int32)) 0 0 = (fun _ => (0 : Int32)) := dt_upd_same rfl
    have R := dt_R_put (t := 0) (p := 0) (x := 7) (y := -1) dt_R_i (by decide) (by decide) (dt_m0 0 (by decide)) (Or.inl rfl)
    rw [z]
    have z2 : upd (fun _ => (0 : Int32)) 0 (nI 0) = (fun _ => (0 : Int32)) := dt_upd_same nI_0.symm
    rw [z2] at R
    exact dt_J R
theorem i_vc_copy {k : Nat} {u : SX} {v : SY} (I : i_Rel k u v) (hk : k + 4 ≤ 2048) (v1 : Int32) (v2 : Int32) (v3 : Int32) : wpX_copy (fun r u' => wpY_copy (fun r' v' => r' = r ∧ i_Rel (k + 4) u' v') v v1 v2 v3) u v1 v2 v3 := by
  obtain ⟨md, kp, kr, kq, pk, nm, st, sz, mk, hd, po, rg, pr, go, rfl, rfl, R⟩ := I
  unfold wpX_copy
  dsimp only
  rcases dt_gate R v1 with ⟨f, hf, rfl, f1, f2⟩ | ⟨gX, gY⟩
  · refine dx_held_t hf f2 (br_f dt_10 ?_)
    rcases dt_gate2 R v2 with ⟨t, ht, rfl, t1, t2⟩ | ⟨gX, gY⟩
    · obtain ⟨p, hp, e1, e2, e3, e4⟩ := dt_hp R hf f1
      refine dx_free_t ht t2 (br_f dt_10 ⟨dt_in hf, dt_in hf, ?_⟩)
      rw [dt_cl hf, e1]
      refine dx_put ht hp ⟨dt_in ht, ?_⟩
      dsimp only
      rw [dt_cl ht, pk_us]
      unfold wpY_copy
      dsimp only
      refine dy_miss_f hf f1 (br_t rfl (dy_tak_f ht t1 (br_t rfl ⟨dt_in hf, dt_in hf, ?_⟩)))
      rw [dt_cl hf, e2, e3]
      refine dy_hold ht ⟨dt_in ht, ?_⟩
      dsimp only
      rw [dt_cl ht, pk_us]
      exact ⟨rfl, dt_J (dt_R_put R ht hp t2 (Or.inr ⟨f, hf, rfl, f2⟩))⟩
    · refine gX _ (br_t rfl ?_)
      unfold wpY_copy
      dsimp only
      exact dy_miss_f hf f1 (br_t rfl (gY _ (br_f dt_10 ⟨rfl, dt_J R⟩)))
  · refine gX _ (br_t rfl ?_)
    unfold wpY_copy
    dsimp only
    exact gY _ (br_f dt_10 ⟨rfl, dt_J R⟩)
theorem i_vc_split {k : Nat} {u : SX} {v : SY} (I : i_Rel k u v) (hk : k + 4 ≤ 2048) (v1 : Int32) (v2 : Int32) (v3 : Int32) : wpX_split (fun r u' => wpY_split (fun r' v' => r' = r ∧ i_Rel (k + 4) u' v') v v1 v2 v3) u v1 v2 v3 := by
  obtain ⟨md, kp, kr, kq, pk, nm, st, sz, mk, hd, po, rg, pr, go, rfl, rfl, R⟩ := I
  unfold wpX_split
  dsimp only
  rcases dt_gate R v1 with ⟨f, hf, rfl, f1, f2⟩ | ⟨gX, gY⟩
  · refine dx_held_t hf f2 (br_f dt_10 ?_)
    rcases dt_gate2 R v2 with ⟨t, ht, rfl, t1, t2⟩ | ⟨gX, gY⟩
    · obtain ⟨p, hp, e1, e2, e3, e4⟩ := dt_hp R hf f1
      refine dx_free_t ht t2 (br_f dt_10 ⟨dt_in hf, ?_⟩)
      rw [dt_cl hf, e1]
      refine nm_e ?_
      by_cases c1 : v3 < 1
      · refine br_t c1 ?_
        unfold wpY_split
        dsimp only
        refine dy_miss_f hf f1 (br_t rfl (dy_tak_f ht t1 (br_t rfl ⟨dt_in hf, ?_⟩)))
        rw [dt_cl hf, e2]
        exact nm_e (br_t c1 ⟨rfl, dt_J R⟩)
      · refine br_f c1 ⟨dt_in hp, dt_in hp, ?_⟩
        rw [dt_cl hp]
        by_cases c2 : v3 ≤ sz p - mk p
        · obtain ⟨hq, hne⟩ := dt_place ht t2
          have hpq : p ≠ dt_lf (dt_T kp) 15 0 := fun z => hne f hf (by rw [e1, ← z])
          refine br_t c2 ⟨dt_in hp, dt_in hp, nm_e ⟨dt_in hp, dt_in hp, nm_e (dx_make R.2.1 ⟨dt_in hf, ?_⟩)⟩⟩
          dsimp only
          refine dx_put ht hq ?_
          unfold wpY_split
          dsimp only
          refine dy_miss_f hf f1 (br_t rfl (dy_tak_f ht t1 (br_t rfl ⟨dt_in hf, ?_⟩)))
          rw [dt_cl hf, e2]
          refine nm_e (br_f c1 ⟨dt_in hp, dt_in hp, ?_⟩)
          rw [dt_cl hp]
          refine br_t c2 ⟨16, dy_spl (dt_hh R) (fun q hq => dt_T_y R hq) 15 0 rfl ?_⟩
          unfold wY_split_77
          rw [dt_cl hp, dt_cl hq, dt_cl hf, e3]
          refine ⟨dt_in hp, dt_in hp, dt_in hq, nm_e ⟨dt_in hq, nm_e ⟨dt_in hq, nm_e ⟨dt_in hq, nm_e (nm_e ⟨dt_in hp, dt_in hp, nm_e ⟨dt_in hf, dy_hold ht ⟨dt_in hq, ?_⟩⟩⟩)⟩⟩⟩⟩
          dsimp only
          rw [pk_us, pk_un hpq, dt_upd_c hpq]
          exact ⟨rfl, dt_J (dt_R_put R ht hq t2 (Or.inr ⟨f, hf, rfl, f2⟩))⟩
        · refine br_f c2 ?_
          unfold wpY_split
          dsimp only
          refine dy_miss_f hf f1 (br_t rfl (dy_tak_f ht t1 (br_t rfl ⟨dt_in hf, ?_⟩)))
          rw [dt_cl hf, e2]
          refine nm_e (br_f c1 ⟨dt_in hp, dt_in hp, ?_⟩)
          rw [dt_cl hp]
          exact br_f c2 ⟨rfl, dt_J R⟩
    · refine gX _ (br_t rfl ?_)
      unfold wpY_split
      dsimp only
      exact dy_miss_f hf f1 (br_t rfl (gY _ (br_f dt_10 ⟨rfl, dt_J R⟩)))
  · refine gX _ (br_t rfl ?_)
    unfold wpY_split
    dsimp only
    exact gY _ (br_f dt_10 ⟨rfl, dt_J R⟩)
theorem i_vc_move {k : Nat} {u : SX} {v : SY} (I : i_Rel k u v) (hk : k + 4 ≤ 2048) (v1 : Int32) (v2 : Int32) : wpX_move (fun r u' => wpY_move (fun r' v' => r' = r ∧ i_Rel (k + 4) u' v') v v1 v2) u v1 v2 := by
  obtain ⟨md, kp, kr, kq, pk, nm, st, sz, mk, hd, po, rg, pr, go, rfl, rfl, R⟩ := I
  unfold wpX_move
  dsimp only
  rcases dt_gate R v1 with ⟨f, hf, rfl, f1, f2⟩ | ⟨gX, gY⟩
  · refine dx_held_t hf f2 (br_f dt_10 ?_)
    rcases dt_gate2 R v2 with ⟨t, ht, rfl, t1, t2⟩ | ⟨gX, gY⟩
    · obtain ⟨p, hp, e1, e2, e3, e4⟩ := dt_hp R hf f1
      have ft : f ≠ t := fun z => f2 (by rw [z]; exact t2)
      have R1 := dt_R_put (x := kr f) (y := kq f) R ht hp t2 (R.2.2.1 f hf)
      have n1 : upd kp t (nI p) t ≠ -1 := by rw [pk_us]; exact dt_n1 hp
      have R2 := dt_R_hand (f := f) (p := p) (a := nI t) (x := upd pk p (pk p + 1) p - 1) R1 hf hp ((pk_un ft).trans e1) (fun n z => by rw [z, nI_pred]) (Or.inr ⟨t, ht, rfl, ft.symm, n1⟩) (dt_A_mov R.2.2.2 R.2.2.1 hf ht t2)
      refine dx_free_t ht t2 (br_f dt_10 ⟨dt_in hf, dt_in hf, dt_in hf, ?_⟩)
      rw [dt_cl hf, e1]
      refine dx_put ht hp (dx_change (dx_drop hf hp ((pk_un ft).trans e1) ?_))
      unfold wpY_move
      dsimp only
      refine dy_miss_f hf f1 (br_t rfl (dy_tak_f ht t1 (br_t rfl ⟨dt_in hf, dt_in hf, dt_in hf, ?_⟩)))
      rw [dt_cl hf, e2, e3, e4]
      refine dy_hold ht ⟨dt_in hf, ?_⟩
      rw [dt_nb0]
      exact nm_e (dy_hand (dt_hh R2) ⟨rfl, dt_J R2⟩)
    · refine gX _ (br_t rfl ?_)
      unfold wpY_move
      dsimp only
      exact dy_miss_f hf f1 (br_t rfl (gY _ (br_f dt_10 ⟨rfl, dt_J R⟩)))
  · refine gX _ (br_t rfl ?_)
    unfold wpY_move
    dsimp only
    exact gY _ (br_f dt_10 ⟨rfl, dt_J R⟩)
theorem i_vc_delete {k : Nat} {u : SX} {v : SY} (I : i_Rel k u v) (hk : k + 4 ≤ 2048) (v1 : Int32) : wpX_delete (fun r u' => wpY_delete (fun r' v' => r' = r ∧ i_Rel (k + 4) u' v') v v1) u v1 := by
  obtain ⟨md, kp, kr, kq, pk, nm, st, sz, mk, hd, po, rg, pr, go, rfl, rfl, R⟩ := I
  unfold wpX_delete
  dsimp only
  rcases dt_gate R v1 with ⟨f, hf, rfl, f1, f2⟩ | ⟨gX, gY⟩
  · obtain ⟨p, hp, e1, e2, e3, e4⟩ := dt_hp R hf f1
    have ha : kq f = -1 ∨ ∃ j, j < 16 ∧ kq f = nI j ∧ j ≠ f ∧ kp j ≠ -1 := by
      rcases R.2.2.1 f hf with w | ⟨j, hj, w, jk⟩
      · exact Or.inl w
      · exact Or.inr ⟨j, hj, w, fun z => dt_noself R.2.2.2 hf (by rw [w, z]), jk⟩
    have R2 := dt_R_hand (f := f) (p := p) (a := kq f) (x := pk p - 1) R hf hp e1 (fun n z => by rw [z, nI_pred]) ha (dt_A_del R.2.2.2 hf)
    refine dx_held_t hf f2 (br_f dt_10 ⟨dt_in hf, ?_⟩)
    rw [dt_cl hf]
    refine dx_change (dx_drop hf hp e1 (dx_take R2.2.1 ?_))
    unfold wpY_delete
    dsimp only
    refine dy_miss_f hf f1 (br_t rfl ⟨dt_in hf, ?_⟩)
    rw [dt_cl hf, dt_nb0, e4]
    refine nm_e ⟨dt_in hf, dy_hand (dt_hh R2) (dy_settle (dt_hh R2) (fun q hq => dt_T_y R2 hq) ?_)⟩
    exact ⟨congrArg nI (dt_cn_c 16 (dt_hand_n R hf)).symm, dt_J R2⟩
  · refine gX _ (br_t rfl ?_)
    unfold wpY_delete
    dsimp only
    exact gY _ (br_f dt_10 ⟨rfl, dt_J R⟩)
theorem i_vc_revoke {k : Nat} {u : SX} {v : SY} (I : i_Rel k u v) (hk : k + 4 ≤ 2048) (v1 : Int32) : wpX_revoke (fun r u' => wpY_revoke (fun r' v' => r' = r ∧ i_Rel (k + 4) u' v') v v1) u v1 := by
  obtain ⟨md, kp, kr, kq, pk, nm, st, sz, mk, hd, po, rg, pr, go, rfl, rfl, R⟩ := I
  unfold wpX_revoke
  dsimp only
  rcases dt_gate R v1 with ⟨f, hf, rfl, f1, f2⟩ | ⟨gX, gY⟩
  · have hK : ∀ s, s < 16 → (fun s => dt_bl kq (nI f) 16 (kq s)) s = true → ∃ p, p < 16 ∧ kp s = nI p := by
      intro s hs h
      rcases R.1 s hs with ⟨a1, a2, a3⟩ | ⟨a1, a2, a3⟩
      · have h2 : dt_bl kq (nI f) 16 (kq s) = true := h
        rw [a3, dt_bl_n] at h2
        exact absurd h2 (by decide)
      · exact a2
    refine dx_held_t hf f2 (br_f dt_10 (dx_dset (dt_hq R) (fun y hy => dx_revW hy hK R.2.1 (fun pk' hC => ?_))))
    have R2 := dt_R_rev R (nI f) hC
    unfold wpY_revoke
    dsimp only
    refine dy_miss_f hf f1 (br_t rfl (dy_rev12W R (dy_rev57W (fun s hs => if_pos hs) (dt_hh R2) (fun q hq => dt_T_y R2 hq) ?_)))
    exact ⟨rfl, dt_J R2⟩
  · refine gX _ (br_t rfl ?_)
    unfold wpY_revoke
    dsimp only
    exact gY _ (br_f dt_10 ⟨rfl, dt_J R⟩)
