/-! Y: each private method and each loop, with a general post -/
theorem dt_nb0 : vp_nar .boolean 0 = 0 := by rfl
theorem dt_nb1 : vp_nar .boolean 1 = 1 := by rfl
theorem dt_1516 {x : Int32} (h : (16 : Int32) ≤ x) : (15 : Int32) < x := Int32.lt_of_lt_of_le (by decide) h
theorem dt_01 {x : Int32} (h : x = 1) : ¬ x = 0 := by rw [h]; decide
def dt_fl (F : Nat → Bool) (g : Nat → Int32) (i : Nat) : Nat → Int32 := fun s => if s < i then dt_b (F s) else g s
theorem dt_fl_0 (F : Nat → Bool) (g : Nat → Int32) : dt_fl F g 0 = g := by
  funext s
  exact if_neg (Nat.not_lt_zero s)
theorem dt_fl_u (F : Nat → Bool) (g : Nat → Int32) (i : Nat) : upd (dt_fl F g i) i (dt_b (F i)) = dt_fl F g (i + 1) := by
  funext s
  show (if s = i then dt_b (F i) else if s < i then dt_b (F s) else g s) = if s < i + 1 then dt_b (F s) else g s
  by_cases c : s = i
  · have y : s < i + 1 := by omega
    rw [if_pos c, if_pos y, c]
  · rw [if_neg c]
    by_cases d : s < i
    · have y : s < i + 1 := by omega
      rw [if_pos d, if_pos y]
    · have y : ¬ s < i + 1 := by omega
      rw [if_neg d, if_neg y]
section
variable {md : Int32} {hd po rg pr st sz mk nm go : Nat → Int32}
theorem dy_miss_f {j : Nat} (hj : j < 16) (e : hd j = 1) {post : Int32 → Prop} (h : post 0) : wpY_missing post (md, hd, po, rg, pr, st, sz, mk, nm, go) (nI j) := by
  refine br_f (dt_ge0 hj) (br_f (dt_n15 hj) ⟨dt_in hj, ?_⟩)
  rw [dt_cl hj]
  exact br_f (dt_01 e) h
theorem dy_miss_t {j : Nat} (hj : j < 16) (e : hd j = 0) {post : Int32 → Prop} (h : post 1) : wpY_missing post (md, hd, po, rg, pr, st, sz, mk, nm, go) (nI j) := by
  refine br_f (dt_ge0 hj) (br_f (dt_n15 hj) ⟨dt_in hj, ?_⟩)
  rw [dt_cl hj]
  exact br_t e h
theorem dy_miss_o {x : Int32} (hx : x < 0 ∨ (16 : Int32) ≤ x) {post : Int32 → Prop} (h : post 1) : wpY_missing post (md, hd, po, rg, pr, st, sz, mk, nm, go) x := by
  by_cases c : x < 0
  · exact br_t c h
  · rcases hx with d | d
    · exact absurd d c
    · exact br_f c (br_t (dt_1516 d) h)
theorem dy_tak_f {j : Nat} (hj : j < 16) (e : hd j = 0) {post : Int32 → Prop} (h : post 0) : wpY_taken post (md, hd, po, rg, pr, st, sz, mk, nm, go) (nI j) := by
  refine br_f (dt_ge0 hj) (br_f (dt_n15 hj) ⟨dt_in hj, ?_⟩)
  rw [dt_cl hj]
  exact br_t e h
theorem dy_tak_t {j : Nat} (hj : j < 16) (e : hd j = 1) {post : Int32 → Prop} (h : post 1) : wpY_taken post (md, hd, po, rg, pr, st, sz, mk, nm, go) (nI j) := by
  refine br_f (dt_ge0 hj) (br_f (dt_n15 hj) ⟨dt_in hj, ?_⟩)
  rw [dt_cl hj]
  exact br_f (dt_01 e) h
theorem dy_tak_o {x : Int32} (hx : x < 0 ∨ (16 : Int32) ≤ x) {post : Int32 → Prop} (h : post 1) : wpY_taken post (md, hd, po, rg, pr, st, sz, mk, nm, go) x := by
  by_cases c : x < 0
  · exact br_t c h
  · rcases hx with d | d
    · exact absurd d c
    · exact br_f c (br_t (dt_1516 d) h)
theorem dy_there {x : Int32} (hh : ∀ s, s < 16 → hd s = 0 ∨ hd s = 1) {post : Int32 → Prop} (h : post (dt_b (dt_ex (fun s => decide (hd s = 1 ∧ po s = x))))) : ∀ d i, i + d = 16 → (∀ s, s < i → (fun s => decide (hd s = 1 ∧ po s = x)) s = false) → wY_there_2 post x md hd po rg pr st sz mk nm go (d + 1) (nI i) := by
  intro d
  induction d with
  | zero =>
    intro i hi n
    have e : i = 16 := by omega
    subst e
    rw [dt_ex_f n] at h
    exact br_t dt_e16 h
  | succ d ih =>
    intro i hi n
    have h16 : i < 16 := by omega
    refine br_f (dt_g16 h16) ⟨dt_in h16, ?_⟩
    rw [dt_cl h16]
    rcases hh i h16 with e | e
    · have w : (fun s => decide (hd s = 1 ∧ po s = x)) i = false := by
        show decide (hd i = 1 ∧ po i = x) = false
        rw [e]
        exact decide_eq_false (fun z => absurd z.1 (by decide))
      exact br_t e (nm_r (nI_1 i) (ih (i + 1) (by omega) (lt_s n w)))
    · refine br_f (dt_01 e) ⟨dt_in h16, ?_⟩
      by_cases c : po i = x
      · have z : dt_ex (fun s => decide (hd s = 1 ∧ po s = x)) = true := dt_ex_t (f := (fun s => decide (hd s = 1 ∧ po s = x))) h16 (decide_eq_true ⟨e, c⟩)
        rw [z] at h
        exact br_t c h
      · have w : (fun s => decide (hd s = 1 ∧ po s = x)) i = false := decide_eq_false (fun z => c z.2)
        exact br_f c (nm_r (nI_1 i) (ih (i + 1) (by omega) (lt_s n w)))
theorem dy_thereW {x : Int32} (hh : ∀ s, s < 16 → hd s = 0 ∨ hd s = 1) {post : Int32 → Prop} (h : post (dt_b (dt_ex (fun s => decide (hd s = 1 ∧ po s = x))))) : wpY_there post (md, hd, po, rg, pr, st, sz, mk, nm, go) x := ⟨17, dy_there hh h 16 0 rfl (fun s hs => absurd hs (Nat.not_lt_zero s))⟩
theorem dy_lies {q p : Nat} (hq : q < 16) (hp : p < 16) {post : Int32 → Prop} (h : post (dt_b (dt_L nm st sz q p))) : wpY_lies post (md, hd, po, rg, pr, st, sz, mk, nm, go) (nI q) (nI p) := by
  unfold wpY_lies
  dsimp only
  rw [dt_cl hq, dt_cl hp]
  refine ⟨dt_in hq, dt_in hp, ?_⟩
  unfold dt_L at h
  by_cases c1 : nm q ≤ nm p
  · rw [decide_eq_false (Int32.not_lt.mpr c1)] at h
    exact br_t c1 h
  · rw [decide_eq_true (Int32.not_le.mp c1)] at h
    refine br_f c1 ⟨dt_in hq, dt_in hp, ?_⟩
    by_cases c2 : st q < st p
    · rw [decide_eq_false (Int32.not_le.mpr c2)] at h
      exact br_t c2 h
    · rw [decide_eq_true (Int32.not_lt.mp c2)] at h
      refine br_f c2 ⟨dt_in hq, dt_in hq, dt_in hp, dt_in hp, ?_⟩
      by_cases c3 : st p + sz p < st q + sz q
      · rw [decide_eq_false (Int32.not_le.mpr c3)] at h
        exact br_t c3 h
      · rw [decide_eq_true (Int32.not_lt.mp c3)] at h
        exact br_f c3 h
theorem dy_in {kp : Nat → Int32} {p : Nat} (hp : p < 16) (hh : ∀ s, s < 16 → hd s = 0 ∨ hd s = 1) (hT : ∀ q, q < 16 → dt_ex (fun s => decide (hd s = 1 ∧ po s = nI q)) = dt_T kp q) {post : SY → Prop} {J2 : Int32 → (Nat → Int32) → (Nat → Int32) → (Nat → Int32) → (Nat → Int32) → (Nat → Int32) → (Nat → Int32) → (Nat → Int32) → (Nat → Int32) → (Nat → Int32) → Prop} (h0 : dt_W kp nm st sz p = false → J2 (nI (p + 1)) hd po rg pr st sz (upd mk p 0) nm go) (h1 : dt_W kp nm st sz p = true → J2 (nI (p + 1)) hd po rg pr st sz mk nm go) : ∀ d i, i + d = 16 → wY_settle_12 post J2 (nI p) md hd po rg pr st sz mk nm go (d + 1) (dt_b (decide (0 < dt_cn (fun q => dt_T kp q && dt_L nm st sz q p) i))) (nI i) := by
  intro d
  induction d with
  | zero =>
    intro i hi
    have e : i = 16 := by omega
    subst e
    refine br_t dt_e16 ?_
    have w : decide (0 < dt_cn (fun q => dt_T kp q && dt_L nm st sz q p) 16) = dt_W kp nm st sz p := rfl
    rw [w]
    cases c : dt_W kp nm st sz p
    · refine br_t rfl ⟨dt_in hp, ?_⟩
      rw [dt_cl hp]
      exact nm_e (nm_r (nI_1 p) (h0 c))
    · exact br_f dt_b1 (nm_r (nI_1 p) (h1 c))
  | succ d ih =>
    intro i hi
    have h16 : i < 16 := by omega
    have g := ih (i + 1) (by omega)
    refine br_f (dt_g16 h16) (dy_lies h16 hp ?_)
    cases c : dt_L nm st sz i p
    · have w : (fun q => dt_T kp q && dt_L nm st sz q p) i = false := by
        show (dt_T kp i && dt_L nm st sz i p) = false
        rw [c]; exact Bool.and_false _
      rw [dt_cn_f (f := (fun q => dt_T kp q && dt_L nm st sz q p)) (n := i) w] at g
      exact br_t rfl (nm_r (nI_1 i) g)
    · refine br_f dt_b1 (dy_thereW hh ?_)
      rw [hT i h16]
      cases c2 : dt_T kp i
      · have w : (fun q => dt_T kp q && dt_L nm st sz q p) i = false := by
          show (dt_T kp i && dt_L nm st sz i p) = false
          rw [c2]; rfl
        rw [dt_cn_f (f := (fun q => dt_T kp q && dt_L nm st sz q p)) (n := i) w] at g
        exact br_t rfl (nm_r (nI_1 i) g)
      · have w : (fun q => dt_T kp q && dt_L nm st sz q p) i = true := by
          show (dt_T kp i && dt_L nm st sz i p) = true
          rw [c, c2]; rfl
        rw [dt_cn_t (f := (fun q => dt_T kp q && dt_L nm st sz q p)) (n := i) w, decide_eq_true (Nat.succ_pos _)] at g
        exact br_f dt_b1 (nm_r (nI_1 i) g)
theorem dy_set {kp : Nat → Int32} (hh : ∀ s, s < 16 → hd s = 0 ∨ hd s = 1) (hT : ∀ q, q < 16 → dt_ex (fun s => decide (hd s = 1 ∧ po s = nI q)) = dt_T kp q) {post : SY → Prop} : ∀ d i, i + d = 16 → post (md, hd, po, rg, pr, st, sz, dt_M kp nm st sz mk, nm, go) → wY_settle_2 post md (d + 1) (nI i) hd po rg pr st sz (dt_mk (fun p => !dt_W kp nm st sz p) 0 mk i) nm go := by
  intro d
  induction d with
  | zero =>
    intro i hi h
    have e : i = 16 := by omega
    subst e
    exact br_t dt_e16 h
  | succ d ih =>
    intro i hi h
    have h16 : i < 16 := by omega
    have g := ih (i + 1) (by omega) h
    refine br_f (dt_g16 h16) ⟨17, dy_in (kp := kp) h16 hh hT (fun c => ?_) (fun c => ?_) 16 0 rfl⟩
    · have w : (!dt_W kp nm st sz i) = true := by rw [c]; rfl
      rw [dt_mk_t (f := (fun p => !dt_W kp nm st sz p)) (i := i) w]
      exact g
    · have w : (!dt_W kp nm st sz i) = false := by rw [c]; rfl
      rw [dt_mk_f (f := (fun p => !dt_W kp nm st sz p)) (i := i) w]
      exact g
theorem dy_settle {kp : Nat → Int32} (hh : ∀ s, s < 16 → hd s = 0 ∨ hd s = 1) (hT : ∀ q, q < 16 → dt_ex (fun s => decide (hd s = 1 ∧ po s = nI q)) = dt_T kp q) {post : SY → Prop} (h : post (md, hd, po, rg, pr, st, sz, dt_M kp nm st sz mk, nm, go)) : wpY_settle post (md, hd, po, rg, pr, st, sz, mk, nm, go) := by
  have g := dy_set (md := md) (rg := rg) (pr := pr) (go := go) hh hT 16 0 rfl h
  rw [dt_mk_0] at g
  exact ⟨17, g⟩
theorem dy_hold {t : Nat} (ht : t < 16) {p x y : Int32} {post : SY → Prop} (h : post (md, upd hd t 1, upd po t p, upd rg t x, upd pr t y, st, sz, mk, nm, go)) : wpY_hold post (md, hd, po, rg, pr, st, sz, mk, nm, go) (nI t) p x y := by
  unfold wpY_hold
  dsimp only
  rw [dt_cl ht, dt_nb1]
  exact ⟨dt_in ht, nm_e ⟨dt_in ht, nm_e ⟨dt_in ht, nm_e ⟨dt_in ht, nm_e h⟩⟩⟩⟩
theorem dy_hnd (hh : ∀ s, s < 16 → hd s = 0 ∨ hd s = 1) {a b : Int32} {post : Int32 → SY → Prop} : ∀ d i, i + d = 16 → post (nI (dt_cn (fun s => decide (hd s = 1 ∧ pr s = b)) 16)) (md, hd, po, rg, dt_mk (fun s => decide (hd s = 1 ∧ pr s = b)) a pr 16, st, sz, mk, nm, go) → wY_hand_5 post b a md (d + 1) (nI (dt_cn (fun s => decide (hd s = 1 ∧ pr s = b)) i)) (nI i) hd po rg (dt_mk (fun s => decide (hd s = 1 ∧ pr s = b)) a pr i) st sz mk nm go := by
  intro d
  induction d with
  | zero =>
    intro i hi h
    have e : i = 16 := by omega
    subst e
    exact br_t dt_e16 h
  | succ d ih =>
    intro i hi h
    have h16 : i < 16 := by omega
    have g := ih (i + 1) (by omega) h
    refine br_f (dt_g16 h16) ⟨dt_in h16, ?_⟩
    rw [dt_cl h16, dt_mk_at]
    rcases hh i h16 with e | e
    · have w : (fun s => decide (hd s = 1 ∧ pr s = b)) i = false := by
        show decide (hd i = 1 ∧ pr i = b) = false
        rw [e]
        exact decide_eq_false (fun z => absurd z.1 (by decide))
      rw [dt_cn_f (f := (fun s => decide (hd s = 1 ∧ pr s = b))) (n := i) w, ← dt_mk_f (f := (fun s => decide (hd s = 1 ∧ pr s = b))) (i := i) w] at g
      exact br_t e (nm_r (nI_1 i) g)
    · refine br_f (dt_01 e) ⟨dt_in h16, ?_⟩
      by_cases c : pr i = b
      · have w : (fun s => decide (hd s = 1 ∧ pr s = b)) i = true := decide_eq_true ⟨e, c⟩
        rw [dt_cn_t (f := (fun s => decide (hd s = 1 ∧ pr s = b))) (n := i) w, ← dt_mk_t (f := (fun s => decide (hd s = 1 ∧ pr s = b))) (i := i) w] at g
        exact br_t c ⟨dt_in h16, nm_e (nm_r (nI_1 _) (nm_r (nI_1 i) g))⟩
      · have w : (fun s => decide (hd s = 1 ∧ pr s = b)) i = false := decide_eq_false (fun z => c z.2)
        rw [dt_cn_f (f := (fun s => decide (hd s = 1 ∧ pr s = b))) (n := i) w, ← dt_mk_f (f := (fun s => decide (hd s = 1 ∧ pr s = b))) (i := i) w] at g
        exact br_f c (nm_r (nI_1 i) g)
theorem dy_hand (hh : ∀ s, s < 16 → hd s = 0 ∨ hd s = 1) {a b : Int32} {post : Int32 → SY → Prop} (h : post (nI (dt_cn (fun s => decide (hd s = 1 ∧ pr s = b)) 16)) (md, hd, po, rg, dt_mk (fun s => decide (hd s = 1 ∧ pr s = b)) a pr 16, st, sz, mk, nm, go)) : wpY_hand post (md, hd, po, rg, pr, st, sz, mk, nm, go) b a := by
  have g := dy_hnd hh 16 0 rfl h
  rw [dt_mk_0] at g
  exact ⟨17, g⟩
theorem dy_walk {kp kq : Nat → Int32} {a : Int32} {post : Int32 → Prop} (hQ : dt_Q kp kq) (he : ∀ s, s < 16 → kp s ≠ -1 → pr s = kq s) : ∀ d i x, i + d = 16 → (x = -1 ∨ ∃ j, j < 16 ∧ x = nI j ∧ kp j ≠ -1) → post (dt_b (dt_bl kq a d x)) → wY_below_10 post a md hd po rg pr st sz mk nm go (d + 1) x (nI i) := by
  intro d
  induction d with
  | zero =>
    intro i x hi hx h
    have e : i = 16 := by omega
    subst e
    exact br_t dt_e16 h
  | succ d ih =>
    intro i x hi hx h
    have h16 : i < 16 := by omega
    refine br_f (dt_g16 h16) ?_
    rcases hx with e | ⟨j, hj, e, jk⟩
    · subst e
      rw [dt_bl_n] at h
      exact br_t (by decide) h
    · subst e
      rw [dt_bl_s kq a d hj] at h
      refine br_f (dt_ge0 hj) ?_
      by_cases c : nI j = a
      · rw [if_pos c] at h
        exact br_t c h
      · rw [if_neg c] at h
        refine br_f c ⟨dt_in hj, ?_⟩
        rw [dt_cl hj, he j hj jk]
        exact nm_e (nm_r (nI_1 i) (ih (i + 1) (kq j) (by omega) (hQ j hj) h))
theorem dy_below {kp kq : Nat → Int32} (hQ : dt_Q kp kq) (he : ∀ s, s < 16 → kp s ≠ -1 → pr s = kq s) {a : Int32} {s : Nat} (hs : s < 16) (hk : kp s ≠ -1) {post : Int32 → Prop} (h : post (dt_b (dt_bl kq a 16 (kq s)))) : wpY_below post (md, hd, po, rg, pr, st, sz, mk, nm, go) a (nI s) := by
  unfold wpY_below
  dsimp only
  rw [dt_cl hs, he s hs hk]
  exact ⟨dt_in hs, nm_e ⟨17, dy_walk hQ he 16 0 (kq s) rfl (hQ s hs) h⟩⟩
theorem dy_dsc {kp kq : Nat → Int32} (hh : ∀ s, s < 16 → (hd s = 0 ∧ kq s = -1) ∨ (hd s = 1 ∧ kp s ≠ -1)) (hQ : dt_Q kp kq) (he : ∀ s, s < 16 → kp s ≠ -1 → pr s = kq s) {a : Int32} {post : Int32 → Prop} (h : post (nI (dt_cn (fun s => dt_bl kq a 16 (kq s)) 16))) : ∀ d i, i + d = 16 → wY_descendants_14 post a md hd po rg pr st sz mk nm go (d + 1) (nI (dt_cn (fun s => dt_bl kq a 16 (kq s)) i)) (nI i) := by
  intro d
  induction d with
  | zero =>
    intro i hi
    have e : i = 16 := by omega
    subst e
    exact br_t dt_e16 h
  | succ d ih =>
    intro i hi
    have h16 : i < 16 := by omega
    have g := ih (i + 1) (by omega)
    refine br_f (dt_g16 h16) ⟨dt_in h16, ?_⟩
    rw [dt_cl h16]
    rcases hh i h16 with ⟨e, e2⟩ | ⟨e, e2⟩
    · have w : (fun s => dt_bl kq a 16 (kq s)) i = false := by
        show dt_bl kq a 16 (kq i) = false
        rw [e2]; exact dt_bl_n _ _ _
      rw [dt_cn_f (f := (fun s => dt_bl kq a 16 (kq s))) (n := i) w] at g
      exact br_t e (nm_r (nI_1 i) g)
    · refine br_f (dt_01 e) (dy_below hQ he h16 e2 ?_)
      cases c : dt_bl kq a 16 (kq i)
      · rw [dt_cn_f (f := (fun s => dt_bl kq a 16 (kq s))) (n := i) c] at g
        exact br_t rfl (nm_r (nI_1 i) g)
      · rw [dt_cn_t (f := (fun s => dt_bl kq a 16 (kq s))) (n := i) c] at g
        exact br_f dt_b1 (nm_r (nI_1 _) (nm_r (nI_1 i) g))
theorem dy_keys (hh : ∀ s, s < 16 → hd s = 0 ∨ hd s = 1) {post : Int32 → Prop} (h : post (nI (dt_cn (fun s => decide (hd s = 1)) 16))) : ∀ d i, i + d = 16 → wY_keys_4 post md hd po rg pr st sz mk nm go (d + 1) (nI (dt_cn (fun s => decide (hd s = 1)) i)) (nI i) := by
  intro d
  induction d with
  | zero =>
    intro i hi
    have e : i = 16 := by omega
    subst e
    exact br_t dt_e16 h
  | succ d ih =>
    intro i hi
    have h16 : i < 16 := by omega
    have g := ih (i + 1) (by omega)
    refine br_f (dt_g16 h16) ⟨dt_in h16, ?_⟩
    rw [dt_cl h16]
    rcases hh i h16 with e | e
    · have w : (fun s => decide (hd s = 1)) i = false := by
        show decide (hd i = 1) = false
        rw [e]; decide
      rw [dt_cn_f (f := (fun s => decide (hd s = 1))) (n := i) w] at g
      exact br_t e (nm_r (nI_1 i) g)
    · rw [dt_cn_t (f := (fun s => decide (hd s = 1))) (n := i) (decide_eq_true e)] at g
      exact br_f (dt_01 e) (nm_r (nI_1 _) (nm_r (nI_1 i) g))
theorem dy_rev57 {F : Nat → Bool} {kp' gg : Nat → Int32} (hg : ∀ s, s < 16 → gg s = dt_b (F s)) (hh : ∀ s, s < 16 → dt_mk F 0 hd 16 s = 0 ∨ dt_mk F 0 hd 16 s = 1) (hT : ∀ q, q < 16 → dt_ex (fun s => decide (dt_mk F 0 hd 16 s = 1 ∧ po s = nI q)) = dt_T kp' q) {post : Int32 → SY → Prop} (h : post (nI (dt_cn F 16)) (md, dt_mk F 0 hd 16, po, rg, pr, st, sz, dt_M kp' nm st sz mk, nm, gg)) : ∀ d i, i + d = 16 → wY_revoke_57 post md (d + 1) (nI (dt_cn F i)) (nI i) (dt_mk F 0 hd i) po rg pr st sz mk nm gg := by
  intro d
  induction d with
  | zero =>
    intro i hi
    have e : i = 16 := by omega
    subst e
    exact br_t dt_e16 (dy_settle hh hT h)
  | succ d ih =>
    intro i hi
    have h16 : i < 16 := by omega
    have g := ih (i + 1) (by omega)
    refine br_f (dt_g16 h16) ⟨dt_in h16, ?_⟩
    rw [dt_cl h16, hg i h16, dt_nb0]
    cases c : F i
    · rw [dt_cn_f c, ← dt_mk_f c] at g
      exact br_t rfl (nm_r (nI_1 i) g)
    · rw [dt_cn_t c, ← dt_mk_t c] at g
      exact br_f dt_b1 ⟨dt_in h16, nm_e (nm_r (nI_1 _) (nm_r (nI_1 i) g))⟩
theorem dy_rev12 {kp kq : Nat → Int32} (hh : ∀ s, s < 16 → (hd s = 0 ∧ kq s = -1) ∨ (hd s = 1 ∧ kp s ≠ -1)) (hQ : dt_Q kp kq) (he : ∀ s, s < 16 → kp s ≠ -1 → pr s = kq s) {a : Int32} {post : Int32 → SY → Prop} (h : wY_revoke_57 post md 17 0 0 hd po rg pr st sz mk nm (dt_fl (fun s => dt_bl kq a 16 (kq s)) go 16)) : ∀ d i, i + d = 16 → wY_revoke_12 post a md (d + 1) (nI i) hd po rg pr st sz mk nm (dt_fl (fun s => dt_bl kq a 16 (kq s)) go i) := by
  intro d
  induction d with
  | zero =>
    intro i hi
    have e : i = 16 := by omega
    subst e
    exact br_t dt_e16 ⟨17, h⟩
  | succ d ih =>
    intro i hi
    have h16 : i < 16 := by omega
    have g := ih (i + 1) (by omega)
    rw [← dt_fl_u] at g
    refine br_f (dt_g16 h16) ⟨dt_in h16, ?_⟩
    rw [dt_cl h16, dt_nb0, dt_nb1]
    rcases hh i h16 with ⟨e, e2⟩ | ⟨e, e2⟩
    · have w : dt_bl kq a 16 (kq i) = false := by
        rw [e2]; exact dt_bl_n _ _ _
      rw [w] at g
      exact br_t e ⟨dt_in h16, nm_e (nm_r (nI_1 i) g)⟩
    · refine br_f (dt_01 e) (dy_below hQ he h16 e2 ?_)
      cases c : dt_bl kq a 16 (kq i)
      · rw [c] at g
        exact br_t rfl ⟨dt_in h16, nm_e (nm_r (nI_1 i) g)⟩
      · rw [c] at g
        exact br_f dt_b1 ⟨dt_in h16, nm_e (nm_r (nI_1 i) g)⟩
end
