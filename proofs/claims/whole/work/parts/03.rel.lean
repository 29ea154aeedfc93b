/-! the relation on the arrays of the keys, and what each change of the keys does to it -/
def dt_K (kp kr kq hd po rg pr : Nat → Int32) (s : Nat) : Prop := (kp s = -1 ∧ hd s = 0 ∧ kq s = -1) ∨ (hd s = 1 ∧ (∃ p, p < 16 ∧ kp s = nI p) ∧ po s = kp s ∧ rg s = kr s ∧ pr s = kq s)
def dt_C (kp pk : Nat → Int32) : Prop := ∀ p, p < 16 → pk p = nI (dt_cn (fun s => decide (kp s = nI p)) 16)
def dt_Q (kp kq : Nat → Int32) : Prop := ∀ s, s < 16 → kq s = -1 ∨ ∃ j, j < 16 ∧ kq s = nI j ∧ kp j ≠ -1
def dt_A (kq : Nat → Int32) : Prop := ∃ r : Nat → Nat, ∀ s j, s < 16 → j < 16 → kq s = nI j → r j < r s
def dt_R (kp kr kq pk hd po rg pr : Nat → Int32) : Prop := (∀ s, s < 16 → dt_K kp kr kq hd po rg pr s) ∧ dt_C kp pk ∧ dt_Q kp kq ∧ dt_A kq
theorem dt_inj {a b : Nat} (ha : a < 16) (hb : b < 16) (h : nI a = nI b) : a = b := (nI_eq (by omega) (by omega)).mp h
theorem dt_n1 {p : Nat} (h : p < 16) : nI p ≠ -1 := dt_ne (by omega)
theorem dt_1n {p : Nat} (h : p < 16) : (-1 : Int32) ≠ nI p := fun z => dt_n1 h z.symm
theorem dt_C_put {kp pk : Nat → Int32} {t p : Nat} (h : dt_C kp pk) (ht : t < 16) (hp : p < 16) (e : kp t = -1) : dt_C (upd kp t (nI p)) (upd pk p (pk p + 1)) := by
  intro q hq
  by_cases c : q = p
  · rw [c, pk_us, h p hp, nI_1]
    refine congrArg nI ?_
    refine (dt_cn_1 (f := fun s => decide (kp s = nI p)) (g := fun s => decide (upd kp t (nI p) s = nI p)) (j := t) ?_ (decide_eq_true pk_us) 16 ht (fun s _ hs => ?_)).symm
    · show decide (kp t = nI p) = false
      rw [e]; exact decide_eq_false (dt_1n hp)
    · show decide (kp s = nI p) = decide (upd kp t (nI p) s = nI p)
      rw [pk_un hs]
  · rw [pk_un c, h q hq]
    refine congrArg nI (dt_cn_c 16 (fun s _ => ?_))
    show decide (kp s = nI q) = decide (upd kp t (nI p) s = nI q)
    by_cases d : s = t
    · have h1 : ¬ (nI p = nI q) := fun z => c (dt_inj hq hp z.symm)
      rw [d, pk_us, e, decide_eq_false (dt_1n hq), decide_eq_false h1]
    · rw [pk_un d]
theorem dt_C_drop {kp pk : Nat → Int32} {t p : Nat} {x : Int32} (h : dt_C kp pk) (ht : t < 16) (hp : p < 16) (e : kp t = nI p) (hx : ∀ n, pk p = nI (n + 1) → x = nI n) : dt_C (upd kp t (-1)) (upd pk p x) := by
  intro q hq
  by_cases c : q = p
  · rw [c, pk_us]
    refine hx _ ?_
    rw [h p hp]
    refine congrArg nI ?_
    refine dt_cn_1 (g := fun s => decide (kp s = nI p)) (f := fun s => decide (upd kp t (-1) s = nI p)) (j := t) ?_ (decide_eq_true e) 16 ht (fun s _ hs => ?_)
    · show decide (upd kp t (-1) t = nI p) = false
      rw [pk_us]; exact decide_eq_false (dt_1n hp)
    · show decide (upd kp t (-1) s = nI p) = decide (kp s = nI p)
      rw [pk_un hs]
  · rw [pk_un c, h q hq]
    refine congrArg nI (dt_cn_c 16 (fun s _ => ?_))
    show decide (kp s = nI q) = decide (upd kp t (-1) s = nI q)
    by_cases d : s = t
    · have h1 : ¬ (nI p = nI q) := fun z => c (dt_inj hq hp z.symm)
      rw [d, pk_us, e, decide_eq_false (dt_1n hq), decide_eq_false h1]
    · rw [pk_un d]
theorem dt_R_put {kp kr kq pk hd po rg pr : Nat → Int32} {t p : Nat} {x y : Int32} (h : dt_R kp kr kq pk hd po rg pr) (ht : t < 16) (hp : p < 16) (e : kp t = -1) (hy : y = -1 ∨ ∃ j, j < 16 ∧ y = nI j ∧ kp j ≠ -1) : dt_R (upd kp t (nI p)) (upd kr t x) (upd kq t y) (upd pk p (pk p + 1)) (upd hd t 1) (upd po t (nI p)) (upd rg t x) (upd pr t y) := by
  obtain ⟨hK, hC, hQ, r, hA⟩ := h
  have hne : ∀ j, kp j ≠ -1 → j ≠ t := fun j hj z => hj (by rw [z]; exact e)
  have hk : ∀ j, kp j ≠ -1 → upd kp t (nI p) j ≠ -1 := fun j hj => by rw [pk_un (hne j hj)]; exact hj
  refine ⟨fun s hs => ?_, dt_C_put hC ht hp e, fun s hs => ?_, ?_⟩
  · by_cases c : s = t
    · rw [c]
      exact Or.inr ⟨pk_us, ⟨p, hp, pk_us⟩, pk_us.trans pk_us.symm, pk_us.trans pk_us.symm, pk_us.trans pk_us.symm⟩
    · rcases hK s hs with ⟨a1, a2, a3⟩ | ⟨a1, ⟨m, hm, a2⟩, a3, a4, a5⟩
      · exact Or.inl ⟨(pk_un c).trans a1, (pk_un c).trans a2, (pk_un c).trans a3⟩
      · exact Or.inr ⟨(pk_un c).trans a1, ⟨m, hm, (pk_un c).trans a2⟩, (pk_un c).trans (a3.trans (pk_un c).symm), (pk_un c).trans (a4.trans (pk_un c).symm), (pk_un c).trans (a5.trans (pk_un c).symm)⟩
  · by_cases c : s = t
    · rw [c, pk_us]
      rcases hy with z | ⟨j, hj, z, zk⟩
      · exact Or.inl z
      · exact Or.inr ⟨j, hj, z, hk j zk⟩
    · rw [pk_un c]
      rcases hQ s hs with z | ⟨j, hj, z, zk⟩
      · exact Or.inl z
      · exact Or.inr ⟨j, hj, z, hk j zk⟩
  · obtain ⟨z, ez⟩ : ∃ z : Nat, ∀ j, j < 16 → y = nI j → r j < z := by
      rcases hy with c | ⟨m, hm, c, _⟩
      · exact ⟨0, fun j hj d => absurd (d.symm.trans c) (dt_n1 hj)⟩
      · exact ⟨r m + 1, fun j hj d => by
          rw [dt_inj hj hm (d.symm.trans c)]; exact Nat.lt_succ_self _⟩
    refine ⟨fun s => if s = t then z else r s, fun s j hs hj es => ?_⟩
    show (if j = t then z else r j) < (if s = t then z else r s)
    by_cases c : s = t
    · rw [c, pk_us] at es
      have d : j ≠ t := by
        rcases hy with w | ⟨m, hm, w, wk⟩
        · exact absurd (es.symm.trans w) (dt_n1 hj)
        · rw [dt_inj hj hm (es.symm.trans w)]; exact hne m wk
      rw [if_pos c, if_neg d]; exact ez j hj es
    · rw [pk_un c] at es
      have d : j ≠ t := by
        rcases hQ s hs with w | ⟨m, hm, w, wk⟩
        · exact absurd (es.symm.trans w) (dt_n1 hj)
        · rw [dt_inj hj hm (es.symm.trans w)]; exact hne m wk
      rw [if_neg c, if_neg d]; exact hA s j hs hj es
/-- the keys under f get the parent a, f's own key is gone -/
theorem dt_R_hand {kp kr kq pk hd po rg pr : Nat → Int32} {f p : Nat} {a x : Int32} (h : dt_R kp kr kq pk hd po rg pr) (hf : f < 16) (hp : p < 16) (e : kp f = nI p) (hx : ∀ n, pk p = nI (n + 1) → x = nI n) (ha : a = -1 ∨ ∃ j, j < 16 ∧ a = nI j ∧ j ≠ f ∧ kp j ≠ -1) (hA : dt_A (upd (dt_mk (fun s => decide (kq s = nI f)) a kq 16) f (-1))) : dt_R (upd kp f (-1)) kr (upd (dt_mk (fun s => decide (kq s = nI f)) a kq 16) f (-1)) (upd pk p x) (upd hd f 0) po rg (dt_mk (fun s => decide (upd hd f 0 s = 1 ∧ pr s = nI f)) a pr 16) := by
  obtain ⟨hK, hC, hQ, _⟩ := h
  refine ⟨fun s hs => ?_, dt_C_drop hC hf hp e hx, fun s hs => ?_, hA⟩
  · by_cases c : s = f
    · rw [c]; exact Or.inl ⟨pk_us, pk_us, pk_us⟩
    · rcases hK s hs with ⟨a1, a2, a3⟩ | ⟨a1, ⟨m, hm, a2⟩, a3, a4, a5⟩
      · have d : ¬ kq s = nI f := fun z => dt_n1 hf (z.symm.trans a3)
        exact Or.inl ⟨(pk_un c).trans a1, (pk_un c).trans a2, (pk_un c).trans ((dt_mk_n (decide_eq_false d)).trans a3)⟩
      · refine Or.inr ⟨(pk_un c).trans a1, ⟨m, hm, (pk_un c).trans a2⟩, a3.trans (pk_un c).symm, a4, ?_⟩
        rw [pk_un c]
        by_cases d : kq s = nI f
        · exact (dt_mk_y hs (decide_eq_true ⟨(pk_un c).trans a1, a5.trans d⟩)).trans (dt_mk_y hs (decide_eq_true d)).symm
        · exact (dt_mk_n (decide_eq_false (fun z => d (a5.symm.trans z.2)))).trans (a5.trans (dt_mk_n (decide_eq_false d)).symm)
  · by_cases c : s = f
    · rw [c]; exact Or.inl pk_us
    · rw [pk_un c]
      by_cases d : kq s = nI f
      · have g : dt_mk (fun s => decide (kq s = nI f)) a kq 16 s = a := dt_mk_y hs (decide_eq_true d)
        rw [g]
        rcases ha with z | ⟨j, hj, z, jf, jk⟩
        · exact Or.inl z
        · exact Or.inr ⟨j, hj, z, by rw [pk_un jf]; exact jk⟩
      · have g : dt_mk (fun s => decide (kq s = nI f)) a kq 16 s = kq s := dt_mk_n (decide_eq_false d)
        rw [g]
        rcases hQ s hs with z | ⟨j, hj, z, jk⟩
        · exact Or.inl z
        · exact Or.inr ⟨j, hj, z, by
            rw [pk_un (fun w => d (by rw [z, w]))]; exact jk⟩
theorem dt_noself {kq : Nat → Int32} (h : dt_A kq) {f : Nat} (hf : f < 16) : ¬ kq f = nI f := by
  obtain ⟨r, hr⟩ := h
  exact fun z => Nat.lt_irrefl _ (hr f f hf hf z)
theorem dt_hand_n {kp kr kq pk hd po rg pr : Nat → Int32} {f : Nat} (h : dt_R kp kr kq pk hd po rg pr) (hf : f < 16) : ∀ s, s < 16 → decide (kq s = nI f) = decide (upd hd f 0 s = 1 ∧ pr s = nI f) := by
  intro s hs
  by_cases c : s = f
  · rw [c, decide_eq_false (dt_noself h.2.2.2 hf), pk_us]
    exact (decide_eq_false (fun z => absurd z.1 (by decide))).symm
  · rw [pk_un c]
    rcases h.1 s hs with ⟨a1, a2, a3⟩ | ⟨a1, ⟨m, hm, a2⟩, a3, a4, a5⟩
    · rw [a2, a3, decide_eq_false (dt_1n hf)]
      exact (decide_eq_false (fun z => absurd z.1 (by decide))).symm
    · rw [a1, a5]
      exact decide_eq_decide.mpr ⟨fun z => ⟨rfl, z⟩, fun z => z.2⟩
theorem dt_A_del {kq : Nat → Int32} {f : Nat} (h : dt_A kq) (hf : f < 16) : dt_A (upd (dt_mk (fun s => decide (kq s = nI f)) (kq f) kq 16) f (-1)) := by
  obtain ⟨r, hr⟩ := h
  refine ⟨r, fun s j hs hj e => ?_⟩
  by_cases c : s = f
  · rw [c, pk_us] at e
    exact absurd e (dt_1n hj)
  · rw [pk_un c] at e
    by_cases d : kq s = nI f
    · have g : dt_mk (fun s => decide (kq s = nI f)) (kq f) kq 16 s = kq f := dt_mk_y hs (decide_eq_true d)
      exact Nat.lt_trans (hr f j hf hj (g.symm.trans e)) (hr s f hs hf d)
    · have g : dt_mk (fun s => decide (kq s = nI f)) (kq f) kq 16 s = kq s := dt_mk_n (decide_eq_false d)
      exact hr s j hs hj (g.symm.trans e)
theorem dt_A_mov {kp kq : Nat → Int32} {f t : Nat} (h : dt_A kq) (hQ : dt_Q kp kq) (hf : f < 16) (ht : t < 16) (et : kp t = -1) : dt_A (upd (dt_mk (fun s => decide (upd kq t (kq f) s = nI f)) (nI t) (upd kq t (kq f)) 16) f (-1)) := by
  have hs0 := dt_noself h hf
  obtain ⟨r, hr⟩ := h
  have hnt : ∀ s j, s < 16 → j < 16 → kq s = nI j → j ≠ t := by
    intro s j hs hj e
    rcases hQ s hs with w | ⟨m, hm, w, wk⟩
    · exact absurd (e.symm.trans w) (dt_n1 hj)
    · rw [dt_inj hj hm (e.symm.trans w)]
      exact fun z => wk (by rw [z]; exact et)
  refine ⟨fun s => if s = t then r f else r s, fun s j hs hj e => ?_⟩
  show (if j = t then r f else r j) < (if s = t then r f else r s)
  by_cases c : s = f
  · rw [c, pk_us] at e
    exact absurd e (dt_1n hj)
  · rw [pk_un c] at e
    by_cases d : upd kq t (kq f) s = nI f
    · have g : dt_mk (fun s => decide (upd kq t (kq f) s = nI f)) (nI t) (upd kq t (kq f)) 16 s = nI t := dt_mk_y hs (decide_eq_true d)
      have jt : j = t := dt_inj hj ht (e.symm.trans g)
      by_cases st : s = t
      · rw [st, pk_us] at d
        exact absurd d hs0
      · rw [pk_un st] at d
        rw [if_pos jt, if_neg st]
        exact hr s f hs hf d
    · have g : dt_mk (fun s => decide (upd kq t (kq f) s = nI f)) (nI t) (upd kq t (kq f)) 16 s = upd kq t (kq f) s := dt_mk_n (decide_eq_false d)
      rw [g] at e
      by_cases st : s = t
      · rw [st, pk_us] at e
        rw [if_pos st, if_neg (hnt f j hf hj e)]
        exact hr f j hf hj e
      · rw [pk_un st] at e
        rw [if_neg st, if_neg (hnt s j hs hj e)]
        exact hr s j hs hj e
/-- all that came of a is gone -/
theorem dt_R_rev {kp kr kq pk hd po rg pr pk' : Nat → Int32} (h : dt_R kp kr kq pk hd po rg pr) (a : Int32) (hC : dt_C (dt_mk (fun s => dt_bl kq a 16 (kq s)) (-1) kp 16) pk') : dt_R (dt_mk (fun s => dt_bl kq a 16 (kq s)) (-1) kp 16) kr (dt_mk (fun s => dt_bl kq a 16 (kq s)) (-1) kq 16) pk' (dt_mk (fun s => dt_bl kq a 16 (kq s)) 0 hd 16) po rg pr := by
  obtain ⟨hK, _, hQ, r, hr⟩ := h
  have hq : ∀ s, s < 16 → kq s = -1 ∨ ∃ j, j < 16 ∧ kq s = nI j := fun s hs => by
    rcases hQ s hs with w | ⟨m, hm, w, _⟩
    · exact Or.inl w
    · exact Or.inr ⟨m, hm, w⟩
  refine ⟨fun s hs => ?_, hC, fun s hs => ?_, r, fun s j hs hj e => ?_⟩
  · cases c : dt_bl kq a 16 (kq s)
    · have y : ∀ (b : Int32) (g : Nat → Int32), dt_mk (fun s => dt_bl kq a 16 (kq s)) b g 16 s = g s := fun b g => dt_mk_n c
      unfold dt_K
      rw [y, y, y]
      exact hK s hs
    · exact Or.inl ⟨dt_mk_y hs c, dt_mk_y hs c, dt_mk_y hs c⟩
  · cases c : dt_bl kq a 16 (kq s)
    · have y : ∀ (b : Int32) (g : Nat → Int32), dt_mk (fun s => dt_bl kq a 16 (kq s)) b g 16 s = g s := fun b g => dt_mk_n c
      rw [y]
      rcases hQ s hs with w | ⟨j, hj, w, wk⟩
      · exact Or.inl w
      · refine Or.inr ⟨j, hj, w, ?_⟩
        cases d : dt_bl kq a 16 (kq j)
        · have y2 : dt_mk (fun s => dt_bl kq a 16 (kq s)) (-1) kp 16 j = kp j := dt_mk_n d
          rw [y2]; exact wk
        · rw [dt_bl_cl a hq hr hs hj w d] at c
          exact absurd c (by decide)
    · exact Or.inl (dt_mk_y hs c)
  · cases c : dt_bl kq a 16 (kq s)
    · have y : dt_mk (fun s => dt_bl kq a 16 (kq s)) (-1) kq 16 s = kq s := dt_mk_n c
      exact hr s j hs hj (y.symm.trans e)
    · have y : dt_mk (fun s => dt_bl kq a 16 (kq s)) (-1) kq 16 s = -1 := dt_mk_y hs c
      exact absurd (y.symm.trans e) (dt_1n hj)
/-- is a piece there -/
def dt_T (kp : Nat → Int32) (q : Nat) : Bool := dt_ex (fun s => decide (kp s = nI q))
theorem dt_T_t {kp pk : Nat → Int32} {q : Nat} (h : dt_C kp pk) (hq : q < 16) (t : dt_T kp q = true) : 0 < pk q := by
  have l := dt_cn_le (fun s => decide (kp s = nI q)) 16
  have g : 0 < dt_cn (fun s => decide (kp s = nI q)) 16 := of_decide_eq_true t
  rw [h q hq, ← nI_0]
  exact nI_lt g (by omega)
theorem dt_T_f {kp pk : Nat → Int32} {q : Nat} (h : dt_C kp pk) (hq : q < 16) (t : dt_T kp q = false) : ¬ 0 < pk q := by
  have l := dt_cn_le (fun s => decide (kp s = nI q)) 16
  have g : ¬ 0 < dt_cn (fun s => decide (kp s = nI q)) 16 := of_decide_eq_false t
  rw [h q hq, ← nI_0]
  exact nI_nlt (by omega) (by omega)
theorem dt_T_le {kp pk : Nat → Int32} {q : Nat} (h : dt_C kp pk) (hq : q < 16) (t : dt_T kp q = true) : ¬ pk q ≤ 0 := Int32.not_le.mpr (dt_T_t h hq t)
theorem dt_T_lf {kp pk : Nat → Int32} {q : Nat} (h : dt_C kp pk) (hq : q < 16) (t : dt_T kp q = false) : pk q ≤ 0 := Int32.not_lt.mp (dt_T_f h hq t)
theorem dt_T_y {kp kr kq pk hd po rg pr : Nat → Int32} (h : dt_R kp kr kq pk hd po rg pr) {q : Nat} (hq : q < 16) : dt_ex (fun s => decide (hd s = 1 ∧ po s = nI q)) = dt_T kp q := by
  refine dt_ex_c (fun s hs => ?_)
  show decide (hd s = 1 ∧ po s = nI q) = decide (kp s = nI q)
  rcases h.1 s hs with ⟨a1, a2, a3⟩ | ⟨a1, ⟨m, hm, a2⟩, a3, a4, a5⟩
  · rw [a1, a2, decide_eq_false (dt_1n hq)]
    exact decide_eq_false (fun z => absurd z.1 (by decide))
  · rw [a1, a3]
    exact decide_eq_decide.mpr ⟨fun z => z.2, fun z => ⟨rfl, z⟩⟩
def dt_lf (T : Nat → Bool) : Nat → Nat → Nat
  | 0, i => i
  | d + 1, i => if T i then dt_lf T d (i + 1) else i
theorem dt_lf_t {T : Nat → Bool} {d i : Nat} (h : T i = true) : dt_lf T (d + 1) i = dt_lf T d (i + 1) := if_pos h
theorem dt_lf_f {T : Nat → Bool} {d i : Nat} (h : T i = false) : dt_lf T (d + 1) i = i := if_neg (by rw [h]; decide)
theorem dt_lf_s (T : Nat → Bool) : ∀ d i, dt_lf T d i ≤ i + d ∧ (T (dt_lf T d i) = false ∨ (dt_lf T d i = i + d ∧ ∀ p, i ≤ p → p < i + d → T p = true)) := by
  intro d
  induction d with
  | zero => intro i; exact ⟨Nat.le_refl i, Or.inr ⟨rfl, fun p h1 h2 => absurd h1 (by omega)⟩⟩
  | succ d ih =>
    intro i
    cases c : T i
    · rw [dt_lf_f c]
      exact ⟨by omega, Or.inl c⟩
    · rw [dt_lf_t c]
      obtain ⟨a, b⟩ := ih (i + 1)
      refine ⟨by omega, ?_⟩
      rcases b with b | ⟨b1, b2⟩
      · exact Or.inl b
      · refine Or.inr ⟨by omega, fun p h1 h2 => ?_⟩
        by_cases e : p = i
        · rw [e]; exact c
        · exact b2 p (by omega) (by omega)
/-- the place that split takes: below 16, and no key leads to it -/
theorem dt_place {kp : Nat → Int32} {t : Nat} (ht : t < 16) (e : kp t = -1) : dt_lf (dt_T kp) 15 0 < 16 ∧ ∀ s, s < 16 → kp s ≠ nI (dt_lf (dt_T kp) 15 0) := by
  obtain ⟨a, b⟩ := dt_lf_s (dt_T kp) 15 0
  have hT : dt_T kp (dt_lf (dt_T kp) 15 0) = false := by
    rcases b with b | ⟨b1, b2⟩
    · exact b
    · cases c : dt_T kp (dt_lf (dt_T kp) 15 0)
      · rfl
      · refine (dt_room ht e (fun p hp => ?_)).elim
        have tp : dt_T kp p = true := by
          by_cases z : p = 15
          · rw [b1] at c
            rw [z]; exact c
          · exact b2 p (by omega) (by omega)
        obtain ⟨s, hs, es⟩ := dt_cn_e 16 (of_decide_eq_true tp)
        exact ⟨s, hs, of_decide_eq_true es⟩
  refine ⟨by omega, fun s hs z => ?_⟩
  have w : dt_T kp (dt_lf (dt_T kp) 15 0) = true := dt_ex_t (f := fun s => decide (kp s = nI (dt_lf (dt_T kp) 15 0))) hs (decide_eq_true z)
  rw [hT] at w
  exact absurd w (by decide)
/-- does the piece q lie in p; has p a piece within -/
def dt_L (nm st sz : Nat → Int32) (q p : Nat) : Bool := decide (nm p < nm q) && (decide (st p ≤ st q) && decide (st q + sz q ≤ st p + sz p))
def dt_W (kp nm st sz : Nat → Int32) (p : Nat) : Bool := dt_ex (fun q => dt_T kp q && dt_L nm st sz q p)
/-- the marks once those without a piece within went back -/
def dt_M (kp nm st sz mk : Nat → Int32) : Nat → Int32 := dt_mk (fun p => !dt_W kp nm st sz p) 0 mk 16
/-- how many held -/
theorem dt_held {kp kr kq pk hd po rg pr : Nat → Int32} (h : dt_R kp kr kq pk hd po rg pr) : ∀ s, s < 16 → decide (kp s ≠ -1) = decide (hd s = 1) := by
  intro s hs
  rcases h.1 s hs with ⟨a1, a2, a3⟩ | ⟨a1, ⟨m, hm, a2⟩, a3, a4, a5⟩
  · rw [a1, a2]; decide
  · rw [a1, a2]
    exact decide_eq_decide.mpr ⟨fun _ => rfl, fun _ => dt_n1 hm⟩
theorem dt_desc {kp kr kq pk hd po rg pr : Nat → Int32} (h : dt_R kp kr kq pk hd po rg pr) (a : Int32) : ∀ s, s < 16 → dt_bl kq a 16 (kq s) = (decide (hd s = 1) && dt_bl kq a 16 (kq s)) := by
  intro s hs
  rcases h.1 s hs with ⟨a1, a2, a3⟩ | ⟨a1, ⟨m, hm, a2⟩, a3, a4, a5⟩
  · rw [a3, dt_bl_n, Bool.and_false]
  · rw [a1]; rfl
/-- the state before the first key -/
theorem dt_R_0 {kp kq : Nat → Int32} (h1 : ∀ s, s < 16 → kp s = -1) (h2 : ∀ s, s < 16 → kq s = -1) : dt_R kp (fun _ => 0) kq (fun _ => 0) (fun _ => 0) (fun _ => 0) (fun _ => 0) (fun _ => 0) := by
  refine ⟨fun s hs => Or.inl ⟨h1 s hs, rfl, h2 s hs⟩, fun p hp => ?_, fun s hs => Or.inl (h2 s hs), ⟨fun _ => 0, fun s j hs hj e => absurd ((h2 s hs).symm.trans e) (dt_1n hj)⟩⟩
  have z : dt_cn (fun s => decide (kp s = nI p)) 16 = 0 := dt_cn_z 16 (fun s hs => by
    show decide (kp s = nI p) = false
    rw [h1 s hs]; exact decide_eq_false (dt_1n hp))
  show (0 : Int32) = nI _
  rw [z]; exact nI_0.symm
