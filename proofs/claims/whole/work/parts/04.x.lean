/-! X: each private method and each loop, with a general post -/
theorem dt_g16 {i : Nat} (h : i < 16) : ¬ (16 : Int32) ≤ nI i := nI_ge (b := 16) h (by decide)
theorem dt_e16 : (16 : Int32) ≤ nI 16 := nI_le (a := 16) (b := 16) (Nat.le_refl 16) (by decide)
theorem dt_g15 {i : Nat} (h : i < 15) : ¬ (15 : Int32) ≤ nI i := nI_ge (b := 15) h (by decide)
theorem dt_e15 : (15 : Int32) ≤ nI 15 := nI_le (a := 15) (b := 15) (Nat.le_refl 15) (by decide)
theorem dt_n15 {i : Nat} (h : i < 16) : ¬ (15 : Int32) < nI i := nI_nlt (a := 15) (b := i) (by omega) (by decide)
theorem dt_in {i : Nat} (h : i < 16) : vp_in (nI i) 16 := vp_in_nI h (by decide)
theorem dt_cl {i : Nat} (h : i < 16) : (nI i).toNatClampNeg = i := nI_clamp (by omega)
theorem dt_ge0 {i : Nat} (h : i < 16) : ¬ nI i < 0 := nI_pos (by omega)
theorem dt_b1 : ¬ dt_b true = 0 := by decide
theorem dt_b01 : ¬ dt_b false = 1 := by decide
theorem dt_10 : ¬ (1 : Int32) = 0 := by decide
theorem dt_ix (x : Int32) : (x < 0 ∨ (16 : Int32) ≤ x) ∨ ∃ j, j < 16 ∧ x = nI j := by
  rcases pk_ix x (n := 16) (by decide) with h | h | h
  · exact Or.inl (Or.inl h)
  · exact Or.inl (Or.inr h)
  · exact Or.inr h
theorem dt_cn_b (f : Nat → Bool) (i : Nat) : nI (dt_cn f i) + dt_b (f i) = nI (dt_cn f (i + 1)) := by
  cases c : f i
  · rw [dt_cn_f c]
    show nI (dt_cn f i) + 0 = _
    rw [Int32.add_zero]
  · rw [dt_cn_t c]
    exact nI_1 _
section
variable {md : Int32} {kp kr kq pk nm st sz mk : Nat → Int32}
theorem dx_slot_t {j : Nat} (hj : j < 16) {post : Int32 → Prop} (h : post 1) : wpX_isSlot post (md, kp, kr, kq, pk, nm, st, sz, mk) (nI j) := br_f (dt_ge0 hj) (br_f (dt_g16 hj) h)
theorem dx_slot_f {x : Int32} (hx : x < 0 ∨ (16 : Int32) ≤ x) {post : Int32 → Prop} (h : post 0) : wpX_isSlot post (md, kp, kr, kq, pk, nm, st, sz, mk) x := by
  by_cases c : x < 0
  · exact br_t c h
  · rcases hx with d | d
    · exact absurd d c
    · exact br_f c (br_t d h)
theorem dx_held_t {j : Nat} (hj : j < 16) (e : kp j ≠ -1) {post : Int32 → Prop} (h : post 1) : wpX_isHeld post (md, kp, kr, kq, pk, nm, st, sz, mk) (nI j) := by
  unfold wpX_isHeld
  dsimp only
  refine dx_slot_t hj (br_f dt_10 ⟨dt_in hj, ?_⟩)
  rw [dt_cl hj]
  exact br_f e h
theorem dx_held_f {j : Nat} (hj : j < 16) (e : kp j = -1) {post : Int32 → Prop} (h : post 0) : wpX_isHeld post (md, kp, kr, kq, pk, nm, st, sz, mk) (nI j) := by
  unfold wpX_isHeld
  dsimp only
  refine dx_slot_t hj (br_f dt_10 ⟨dt_in hj, ?_⟩)
  rw [dt_cl hj]
  exact br_t e h
theorem dx_held_o {x : Int32} (hx : x < 0 ∨ (16 : Int32) ≤ x) {post : Int32 → Prop} (h : post 0) : wpX_isHeld post (md, kp, kr, kq, pk, nm, st, sz, mk) x := by
  unfold wpX_isHeld
  dsimp only
  exact dx_slot_f hx (br_t rfl h)
theorem dx_free_t {j : Nat} (hj : j < 16) (e : kp j = -1) {post : Int32 → Prop} (h : post 1) : wpX_isFree post (md, kp, kr, kq, pk, nm, st, sz, mk) (nI j) := by
  unfold wpX_isFree
  dsimp only
  refine dx_slot_t hj (br_f dt_10 ⟨dt_in hj, ?_⟩)
  rw [dt_cl hj]
  exact br_t e h
theorem dx_free_f {j : Nat} (hj : j < 16) (e : kp j ≠ -1) {post : Int32 → Prop} (h : post 0) : wpX_isFree post (md, kp, kr, kq, pk, nm, st, sz, mk) (nI j) := by
  unfold wpX_isFree
  dsimp only
  refine dx_slot_t hj (br_f dt_10 ⟨dt_in hj, ?_⟩)
  rw [dt_cl hj]
  exact br_f e h
theorem dx_free_o {x : Int32} (hx : x < 0 ∨ (16 : Int32) ≤ x) {post : Int32 → Prop} (h : post 0) : wpX_isFree post (md, kp, kr, kq, pk, nm, st, sz, mk) x := by
  unfold wpX_isFree
  dsimp only
  exact dx_slot_f hx (br_t rfl h)
theorem dx_put {t p : Nat} (ht : t < 16) (hp : p < 16) {x y : Int32} {post : SX → Prop} (h : post (md, upd kp t (nI p), upd kr t x, upd kq t y, upd pk p (pk p + 1), nm, st, sz, mk)) : wpX_putKey post (md, kp, kr, kq, pk, nm, st, sz, mk) (nI t) (nI p) x y := by
  unfold wpX_putKey
  dsimp only
  rw [dt_cl ht, dt_cl hp]
  exact ⟨dt_in ht, nm_e ⟨dt_in ht, nm_e ⟨dt_in ht, nm_e ⟨dt_in hp, dt_in hp, nm_e h⟩⟩⟩⟩
theorem dx_drop {t p : Nat} (ht : t < 16) (hp : p < 16) (e : kp t = nI p) {post : SX → Prop} (h : post (md, upd kp t (-1), kr, upd kq t (-1), upd pk p (pk p - 1), nm, st, sz, mk)) : wpX_dropKey post (md, kp, kr, kq, pk, nm, st, sz, mk) (nI t) := by
  unfold wpX_dropKey
  dsimp only
  rw [dt_cl ht, e, dt_cl hp]
  exact ⟨dt_in ht, dt_in hp, dt_in hp, nm_e ⟨dt_in ht, nm_e ⟨dt_in ht, nm_e h⟩⟩⟩
theorem dx_unused (hC : dt_C kp pk) {post : Int32 → Prop} : ∀ d i, i + d = 15 → post (nI (dt_lf (dt_T kp) d i)) → wX_unusedPlace_2 post md kp kr kq pk nm st sz mk (d + 1) (nI i) := by
  intro d
  induction d with
  | zero =>
    intro i hi h
    have e : i = 15 := by omega
    subst e
    exact br_t dt_e15 h
  | succ d ih =>
    intro i hi h
    have h16 : i < 16 := by omega
    refine br_f (dt_g15 (by omega)) ⟨dt_in h16, ?_⟩
    rw [dt_cl h16]
    cases c : dt_T kp i
    · rw [dt_lf_f c] at h
      exact br_t (dt_T_lf hC h16 c) h
    · rw [dt_lf_t c] at h
      exact br_f (dt_T_le hC h16 c) (nm_r (nI_1 i) (ih (i + 1) (by omega) h))
theorem dx_unusedPlace (hC : dt_C kp pk) {post : Int32 → Prop} (h : post (nI (dt_lf (dt_T kp) 15 0))) : wpX_unusedPlace post (md, kp, kr, kq, pk, nm, st, sz, mk) := ⟨16, dx_unused hC 15 0 rfl h⟩
theorem dt_lf16 (T : Nat → Bool) : dt_lf T 15 0 < 16 := by
  have h := (dt_lf_s T 15 0).1
  omega
theorem dx_make (hC : dt_C kp pk) {x y : Int32} {post : Int32 → SX → Prop} (h : post (nI (dt_lf (dt_T kp) 15 0)) (md + 1, kp, kr, kq, pk, upd nm (dt_lf (dt_T kp) 15 0) md, upd st (dt_lf (dt_T kp) 15 0) x, upd sz (dt_lf (dt_T kp) 15 0) y, upd mk (dt_lf (dt_T kp) 15 0) 0)) : wpX_makePiece post (md, kp, kr, kq, pk, nm, st, sz, mk) x y := by
  have hq := dt_lf16 (dt_T kp)
  unfold wpX_makePiece
  dsimp only
  refine dx_unusedPlace hC ?_
  rw [dt_cl hq]
  exact ⟨dt_in hq, nm_e ⟨dt_in hq, nm_e ⟨dt_in hq, nm_e ⟨dt_in hq, nm_e (nm_e h)⟩⟩⟩⟩
theorem dx_chg {a b : Int32} {post : Int32 → SX → Prop} : ∀ d i, i + d = 16 → post (nI (dt_cn (fun s => decide (kq s = b)) 16)) (md, kp, kr, dt_mk (fun s => decide (kq s = b)) a kq 16, pk, nm, st, sz, mk) → wX_changeParent_5 post b a md (d + 1) (nI (dt_cn (fun s => decide (kq s = b)) i)) (nI i) kp kr (dt_mk (fun s => decide (kq s = b)) a kq i) pk nm st sz mk := by
  intro d
  induction d with
  | zero =>
    intro i hi h
    have e : i = 16 := by omega
    subst e
    exact br_t dt_e16 h
  | succ d ih =>
    intro i hi h
    have h16 : i < 16 := by omega
    have g := ih (i + 1) (by omega) h
    refine br_f (dt_g16 h16) ⟨dt_in h16, ?_⟩
    rw [dt_cl h16, dt_mk_at]
    by_cases c : kq i = b
    · rw [dt_cn_t (f := (fun s => decide (kq s = b))) (n := i) (decide_eq_true c), ← nI_1] at g
      rw [← dt_mk_t (f := (fun s => decide (kq s = b))) (i := i) (decide_eq_true c), ← nI_1] at g
      exact br_t c ⟨dt_in h16, nm_e (nm_e (nm_e g))⟩
    · rw [dt_cn_f (f := (fun s => decide (kq s = b))) (n := i) (decide_eq_false c), ← dt_mk_f (f := (fun s => decide (kq s = b))) (i := i) (decide_eq_false c)] at g
      exact br_f c (nm_r (nI_1 i) g)
theorem dx_change {a b : Int32} {post : Int32 → SX → Prop} (h : post (nI (dt_cn (fun s => decide (kq s = b)) 16)) (md, kp, kr, dt_mk (fun s => decide (kq s = b)) a kq 16, pk, nm, st, sz, mk)) : wpX_changeParent post (md, kp, kr, kq, pk, nm, st, sz, mk) b a := by
  have g := dx_chg 16 0 rfl h
  rw [dt_mk_0] at g
  exact ⟨17, g⟩
theorem dx_lies {q p : Nat} (hq : q < 16) (hp : p < 16) {post : Int32 → Prop} (h : post (dt_b (dt_L nm st sz q p))) : wpX_liesIn post (md, kp, kr, kq, pk, nm, st, sz, mk) (nI q) (nI p) := by
  unfold wpX_liesIn
  dsimp only
  rw [dt_cl hq, dt_cl hp]
  refine ⟨dt_in hq, dt_in hq, nm_e ⟨dt_in hp, dt_in hp, nm_e ⟨dt_in hq, dt_in hp, ?_⟩⟩⟩
  unfold dt_L at h
  by_cases c1 : nm q ≤ nm p
  · rw [decide_eq_false (Int32.not_lt.mpr c1)] at h
    exact br_t c1 h
  · rw [decide_eq_true (Int32.not_le.mp c1)] at h
    refine br_f c1 ⟨dt_in hq, dt_in hp, ?_⟩
    by_cases c2 : st q < st p
    · rw [decide_eq_false (Int32.not_le.mpr c2)] at h
      exact br_t c2 h
    · rw [decide_eq_true (Int32.not_lt.mp c2)] at h
      refine br_f c2 ?_
      by_cases c3 : st p + sz p < st q + sz q
      · rw [decide_eq_false (Int32.not_le.mpr c3)] at h
        exact br_t c3 h
      · rw [decide_eq_true (Int32.not_lt.mp c3)] at h
        exact br_f c3 h
theorem dx_within (hC : dt_C kp pk) {p : Nat} (hp : p < 16) {post : Int32 → Prop} (h : post (dt_b (dt_W kp nm st sz p))) : ∀ d i, i + d = 16 → (∀ s, s < i → (dt_T kp s && dt_L nm st sz s p) = false) → wX_hasPieceWithin_2 post (nI p) md kp kr kq pk nm st sz mk (d + 1) (nI i) := by
  intro d
  induction d with
  | zero =>
    intro i hi n
    have e : i = 16 := by omega
    subst e
    have z : dt_W kp nm st sz p = false := dt_ex_f n
    rw [z] at h
    exact br_t dt_e16 h
  | succ d ih =>
    intro i hi n
    have h16 : i < 16 := by omega
    refine br_f (dt_g16 h16) ⟨dt_in h16, ?_⟩
    rw [dt_cl h16]
    cases c : dt_T kp i
    · have w : (dt_T kp i && dt_L nm st sz i p) = false := by rw [c]; rfl
      exact br_t (dt_T_lf hC h16 c) (nm_r (nI_1 i) (ih (i + 1) (by omega) (lt_s n w)))
    · refine br_f (dt_T_le hC h16 c) (dx_lies h16 hp ?_)
      cases c2 : dt_L nm st sz i p
      · have w : (dt_T kp i && dt_L nm st sz i p) = false := by rw [c2]; exact Bool.and_false _
        exact br_t rfl (nm_r (nI_1 i) (ih (i + 1) (by omega) (lt_s n w)))
      · have w : (dt_T kp i && dt_L nm st sz i p) = true := by rw [c, c2]; rfl
        have z : dt_W kp nm st sz p = true := dt_ex_t (f := fun q => dt_T kp q && dt_L nm st sz q p) h16 w
        rw [z] at h
        exact br_f dt_b1 h
theorem dx_hasWithin (hC : dt_C kp pk) {p : Nat} (hp : p < 16) {post : Int32 → Prop} (h : post (dt_b (dt_W kp nm st sz p))) : wpX_hasPieceWithin post (md, kp, kr, kq, pk, nm, st, sz, mk) (nI p) := ⟨17, dx_within hC hp h 16 0 rfl (fun s hs => absurd hs (Nat.not_lt_zero s))⟩
theorem dx_tbm (hC : dt_C kp pk) {post : SX → Prop} : ∀ d i, i + d = 16 → post (md, kp, kr, kq, pk, nm, st, sz, dt_M kp nm st sz mk) → wX_takeBackMarks_2 post md (d + 1) (nI i) kp kr kq pk nm st sz (dt_mk (fun p => !dt_W kp nm st sz p) 0 mk i) := by
  intro d
  induction d with
  | zero =>
    intro i hi h
    have e : i = 16 := by omega
    subst e
    exact br_t dt_e16 h
  | succ d ih =>
    intro i hi h
    have h16 : i < 16 := by omega
    have g := ih (i + 1) (by omega) h
    refine br_f (dt_g16 h16) (dx_hasWithin hC h16 ?_)
    cases c : dt_W kp nm st sz i
    · have w : (!dt_W kp nm st sz i) = true := by rw [c]; rfl
      refine br_t rfl ⟨dt_in h16, ?_⟩
      rw [dt_cl h16]
      exact nm_r (dt_mk_t (f := (fun p => !dt_W kp nm st sz p)) (i := i) w) (nm_r (nI_1 i) g)
    · have w : (!dt_W kp nm st sz i) = false := by rw [c]; rfl
      rw [← dt_mk_f (f := (fun p => !dt_W kp nm st sz p)) (i := i) w] at g
      exact br_f dt_b1 (nm_r (nI_1 i) g)
theorem dx_take (hC : dt_C kp pk) {post : SX → Prop} (h : post (md, kp, kr, kq, pk, nm, st, sz, dt_M kp nm st sz mk)) : wpX_takeBackMarks post (md, kp, kr, kq, pk, nm, st, sz, mk) := by
  have g := dx_tbm hC 16 0 rfl h
  rw [dt_mk_0] at g
  exact ⟨17, g⟩
theorem dx_walk {a : Int32} {post : Int32 → Prop} (hq : ∀ s, s < 16 → kq s = -1 ∨ ∃ j, j < 16 ∧ kq s = nI j) : ∀ d i x, i + d = 16 → (x = -1 ∨ ∃ j, j < 16 ∧ x = nI j) → post (dt_b (dt_bl kq a d x)) → wX_comesFrom_10 post a md kp kr kq pk nm st sz mk (d + 1) x (nI i) := by
  intro d
  induction d with
  | zero =>
    intro i x hi hx h
    have e : i = 16 := by omega
    subst e
    exact br_t dt_e16 h
  | succ d ih =>
    intro i x hi hx h
    have h16 : i < 16 := by omega
    refine br_f (dt_g16 h16) ?_
    rcases hx with e | ⟨j, hj, e⟩
    · rw [e, dt_bl_n] at h
      exact br_t e h
    · subst e
      rw [dt_bl_s kq a d hj] at h
      refine br_f (dt_n1 hj) ?_
      by_cases c : nI j = a
      · rw [if_pos c] at h
        exact br_t c h
      · rw [if_neg c] at h
        refine br_f c ⟨dt_in hj, ?_⟩
        rw [dt_cl hj]
        exact nm_e (nm_r (nI_1 i) (ih (i + 1) (kq j) (by omega) (hq j hj) h))
theorem dx_comes (hq : ∀ s, s < 16 → kq s = -1 ∨ ∃ j, j < 16 ∧ kq s = nI j) {a : Int32} {s : Nat} (hs : s < 16) {post : Int32 → Prop} (h : post (dt_b (dt_bl kq a 16 (kq s)))) : wpX_comesFrom post (md, kp, kr, kq, pk, nm, st, sz, mk) (nI s) a := by
  unfold wpX_comesFrom
  dsimp only
  rw [dt_cl hs]
  exact ⟨dt_in hs, nm_e ⟨17, dx_walk hq 16 0 (kq s) rfl (hq s hs) h⟩⟩
theorem dx_ds (hq : ∀ s, s < 16 → kq s = -1 ∨ ∃ j, j < 16 ∧ kq s = nI j) {a : Int32} {post : Int32 → Prop} (h : ∀ y, (∀ k, k < 32 → bt y k = (decide (k < 16) && (fun s => dt_bl kq a 16 (kq s)) k)) → post y) : ∀ d i x, i + d = 16 → (∀ k, k < 32 → bt x k = (decide (k < i) && (fun s => dt_bl kq a 16 (kq s)) k)) → wX_descendantSet_4 post a md kp kr kq pk nm st sz mk (d + 1) x (nI i) := by
  intro d
  induction d with
  | zero =>
    intro i x hi hx
    have e : i = 16 := by omega
    subst e
    exact br_t dt_e16 (h x hx)
  | succ d ih =>
    intro i x hi hx
    have h16 : i < 16 := by omega
    refine br_f (dt_g16 h16) (dx_comes hq h16 ?_)
    cases c : dt_bl kq a 16 (kq i)
    · exact br_t rfl (nm_r (nI_1 i) (ih (i + 1) x (by omega) (dt_nos (fun s => dt_bl kq a 16 (kq s)) hx c)))
    · exact br_f dt_b1 (nm_e (nm_r (nI_1 i) (ih (i + 1) _ (by omega) (dt_set (fun s => dt_bl kq a 16 (kq s)) h16 hx c))))
theorem dx_dset (hq : ∀ s, s < 16 → kq s = -1 ∨ ∃ j, j < 16 ∧ kq s = nI j) {a : Int32} {post : Int32 → Prop} (h : ∀ y, (∀ k, k < 32 → bt y k = (decide (k < 16) && (fun s => dt_bl kq a 16 (kq s)) k)) → post y) : wpX_descendantSet post (md, kp, kr, kq, pk, nm, st, sz, mk) a := by
  refine ⟨17, dx_ds hq h 16 0 0 rfl (fun k _ => ?_)⟩
  rw [b_0, decide_eq_false (Nat.not_lt_zero k)]
  rfl
theorem dx_dsc {F : Nat → Bool} {y : Int32} (hy : ∀ k, k < 32 → bt y k = (decide (k < 16) && F k)) {post : Int32 → Prop} (h : post (nI (dt_cn F 16))) : ∀ d i, i + d = 16 → wX_descendants_21 post y md kp kr kq pk nm st sz mk (d + 1) (nI (dt_cn F i)) (nI i) := by
  intro d
  induction d with
  | zero =>
    intro i hi
    have e : i = 16 := by omega
    subst e
    exact br_t dt_e16 h
  | succ d ih =>
    intro i hi
    have h16 : i < 16 := by omega
    refine br_f (dt_g16 h16) ?_
    rw [dt_get F h16 hy]
    exact nm_r (dt_cn_b F i) (nm_r (nI_1 i) (ih (i + 1) (by omega)))
theorem dx_keys {post : Int32 → Prop} (h : post (nI (dt_cn (fun s => decide (kp s ≠ -1)) 16))) : ∀ d i, i + d = 16 → wX_keys_4 post md kp kr kq pk nm st sz mk (d + 1) (nI (dt_cn (fun s => decide (kp s ≠ -1)) i)) (nI i) := by
  intro d
  induction d with
  | zero =>
    intro i hi
    have e : i = 16 := by omega
    subst e
    exact br_t dt_e16 h
  | succ d ih =>
    intro i hi
    have h16 : i < 16 := by omega
    have g := ih (i + 1) (by omega)
    refine br_f (dt_g16 h16) ⟨dt_in h16, ?_⟩
    rw [dt_cl h16]
    by_cases c : kp i = -1
    · rw [dt_cn_f (f := fun s => decide (kp s ≠ -1)) (n := i) (decide_eq_false (fun z => z c))] at g
      exact br_t c (nm_r (nI_1 i) g)
    · rw [dt_cn_t (f := fun s => decide (kp s ≠ -1)) (n := i) (decide_eq_true c)] at g
      exact br_f c (nm_r (nI_1 _) (nm_r (nI_1 i) g))
theorem dx_rev {F : Nat → Bool} {y : Int32} (hy : ∀ k, k < 32 → bt y k = (decide (k < 16) && F k)) (hK : ∀ s, s < 16 → F s = true → ∃ p, p < 16 ∧ kp s = nI p) {post : Int32 → SX → Prop} (h : ∀ pk', dt_C (dt_mk F (-1) kp 16) pk' → post (nI (dt_cn F 16)) (md, dt_mk F (-1) kp 16, kr, dt_mk F (-1) kq 16, pk', nm, st, sz, dt_M (dt_mk F (-1) kp 16) nm st sz mk)) : ∀ d i pk', i + d = 16 → dt_C (dt_mk F (-1) kp i) pk' → wX_revoke_21 post y (d + 1) (nI (dt_cn F i)) (nI i) md (dt_mk F (-1) kp i) kr (dt_mk F (-1) kq i) pk' nm st sz mk := by
  intro d
  induction d with
  | zero =>
    intro i pk' hi hC
    have e : i = 16 := by omega
    subst e
    exact br_t dt_e16 (dx_take hC (h pk' hC))
  | succ d ih =>
    intro i pk' hi hC
    have h16 : i < 16 := by omega
    refine br_f (dt_g16 h16) ?_
    rw [dt_get F h16 hy]
    cases c : F i
    · have hC2 := hC
      rw [dt_mk_f c] at hC2
      have g := ih (i + 1) pk' (by omega) hC2
      rw [dt_cn_f c, ← dt_mk_f c, ← dt_mk_f c] at g
      exact br_f dt_b01 (nm_r (nI_1 i) g)
    · obtain ⟨p, hp, e⟩ := hK i h16 c
      have e2 : dt_mk F (-1) kp i i = nI p := (dt_mk_at F (-1) kp i).trans e
      have hC2 := dt_C_drop (x := pk' p - 1) hC h16 hp e2 (fun n z => by rw [z, nI_pred])
      rw [dt_mk_t c] at hC2
      have g := ih (i + 1) _ (by omega) hC2
      rw [dt_cn_t c, ← dt_mk_t c, ← dt_mk_t c] at g
      exact br_t rfl (dx_drop h16 hp e2 (nm_r (nI_1 _) (nm_r (nI_1 i) g)))
end
