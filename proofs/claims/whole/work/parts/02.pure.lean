/-! pure rows: counts, pigeonhole, ranks, the walk up the parents, arrays written under a mask -/
def dt_b (b : Bool) : Int32 := if b then 1 else 0
theorem dt_b_t : dt_b true = 1 := rfl
theorem dt_b_f : dt_b false = 0 := rfl
theorem dt_ne {p : Nat} (h : p < 2 ^ 31) : nI p ≠ -1 := by
  intro e
  have h1 := nI_pos h
  rw [e] at h1
  exact h1 (by decide)
def dt_cn (f : Nat → Bool) : Nat → Nat
  | 0 => 0
  | n + 1 => dt_cn f n + (if f n then 1 else 0)
theorem dt_cn_t {f : Nat → Bool} {n : Nat} (h : f n = true) : dt_cn f (n + 1) = dt_cn f n + 1 := by
  show dt_cn f n + (if f n then 1 else 0) = _
  rw [h]; rfl
theorem dt_cn_f {f : Nat → Bool} {n : Nat} (h : f n = false) : dt_cn f (n + 1) = dt_cn f n := by
  show dt_cn f n + (if f n then 1 else 0) = _
  rw [h]; rfl
theorem dt_cn_le (f : Nat → Bool) (n : Nat) : dt_cn f n ≤ n := by
  induction n with
  | zero => exact Nat.le_refl 0
  | succ n ih =>
    cases h : f n
    · rw [dt_cn_f h]; omega
    · rw [dt_cn_t h]; omega
theorem dt_cn_c {f g : Nat → Bool} (n : Nat) (h : ∀ s, s < n → f s = g s) : dt_cn f n = dt_cn g n := by
  induction n with
  | zero => rfl
  | succ n ih =>
    show dt_cn f n + (if f n then 1 else 0) = dt_cn g n + (if g n then 1 else 0)
    rw [h n (Nat.lt_succ_self n), ih (fun s hs => h s (Nat.lt_succ_of_lt hs))]
theorem dt_cn_1 {f g : Nat → Bool} {j : Nat} (hf : f j = false) (hg : g j = true) (n : Nat) (hj : j < n) (h : ∀ s, s < n → s ≠ j → f s = g s) : dt_cn g n = dt_cn f n + 1 := by
  induction n with
  | zero => exact absurd hj (Nat.not_lt_zero j)
  | succ n ih =>
    by_cases e : n = j
    · rw [e, dt_cn_t hg, dt_cn_f hf, dt_cn_c j (fun s hs => h s (by omega) (by omega))]
    · have i := ih (by omega) (fun s hs => h s (by omega))
      have c := h n (by omega) e
      show dt_cn g n + (if g n then 1 else 0) = dt_cn f n + (if f n then 1 else 0) + 1
      rw [c, i]; omega
theorem dt_cn_m {f g : Nat → Bool} (n : Nat) (h : ∀ s, s < n → f s = true → g s = true) : dt_cn f n ≤ dt_cn g n := by
  induction n with
  | zero => exact Nat.le_refl 0
  | succ n ih =>
    have i := ih (fun s hs => h s (by omega))
    cases c : f n
    · rw [dt_cn_f c]
      cases d : g n
      · rw [dt_cn_f d]; exact i
      · rw [dt_cn_t d]; omega
    · rw [dt_cn_t c, dt_cn_t (h n (by omega) c)]; omega
theorem dt_cn_s {f g : Nat → Bool} {j : Nat} (hf : f j = false) (hg : g j = true) (n : Nat) (hj : j < n) (h : ∀ s, s < n → f s = true → g s = true) : dt_cn f n < dt_cn g n := by
  induction n with
  | zero => exact absurd hj (Nat.not_lt_zero j)
  | succ n ih =>
    by_cases e : n = j
    · have m := dt_cn_m (f := f) (g := g) n (fun s hs => h s (by omega))
      rw [← e] at hf hg
      rw [dt_cn_t hg, dt_cn_f hf]; omega
    · have i := ih (by omega) (fun s hs => h s (by omega))
      cases c : f n
      · rw [dt_cn_f c]
        cases d : g n
        · rw [dt_cn_f d]; exact i
        · rw [dt_cn_t d]; omega
      · rw [dt_cn_t c, dt_cn_t (h n (by omega) c)]; omega
theorem dt_cn_p {f : Nat → Bool} {j : Nat} (hj : f j = true) (n : Nat) (h : j < n) : 0 < dt_cn f n := by
  induction n with
  | zero => exact absurd h (Nat.not_lt_zero j)
  | succ n ih =>
    by_cases e : n = j
    · rw [← e] at hj
      rw [dt_cn_t hj]; omega
    · have i := ih (by omega)
      show 0 < dt_cn f n + (if f n then 1 else 0)
      omega
theorem dt_cn_z {f : Nat → Bool} (n : Nat) (h : ∀ s, s < n → f s = false) : dt_cn f n = 0 := by
  induction n with
  | zero => rfl
  | succ n ih => rw [dt_cn_f (h n (by omega)), ih (fun s hs => h s (by omega))]
theorem dt_cn_e {f : Nat → Bool} (n : Nat) (h : 0 < dt_cn f n) : ∃ j, j < n ∧ f j = true := by
  induction n with
  | zero => exact absurd h (Nat.lt_irrefl 0)
  | succ n ih =>
    cases c : f n
    · rw [dt_cn_f c] at h
      obtain ⟨j, hj, e⟩ := ih h
      exact ⟨j, by omega, e⟩
    · exact ⟨n, by omega, c⟩
def dt_ex (f : Nat → Bool) : Bool := decide (0 < dt_cn f 16)
theorem dt_ex_t {f : Nat → Bool} {j : Nat} (hj : j < 16) (h : f j = true) : dt_ex f = true := decide_eq_true (dt_cn_p h 16 hj)
theorem dt_ex_f {f : Nat → Bool} (h : ∀ s, s < 16 → f s = false) : dt_ex f = false := decide_eq_false (by rw [dt_cn_z 16 h]; exact Nat.lt_irrefl 0)
theorem dt_ex_c {f g : Nat → Bool} (h : ∀ s, s < 16 → f s = g s) : dt_ex f = dt_ex g := by
  unfold dt_ex
  rw [dt_cn_c 16 h]
theorem dt_pig : ∀ (m n : Nat) (g : Nat → Nat), (∀ i, i < n → ∃ s, s < m ∧ g s = i) → n ≤ m := by
  intro m
  induction m with
  | zero =>
    intro n g h
    cases n with
    | zero => exact Nat.le_refl 0
    | succ n =>
      obtain ⟨s, hs, _⟩ := h 0 (Nat.succ_pos n)
      exact absurd hs (Nat.not_lt_zero s)
  | succ m ih =>
    intro n g h
    cases n with
    | zero => exact Nat.zero_le _
    | succ n =>
      refine Nat.succ_le_succ (ih n (fun s => if g s = n then g m else g s) ?_)
      intro i hi
      obtain ⟨s, hs, e⟩ := h i (Nat.lt_succ_of_lt hi)
      by_cases c : s = m
      · obtain ⟨t, ht, et⟩ := h n (Nat.lt_succ_self n)
        have ct : t ≠ m := by
          intro z
          rw [z] at et
          rw [c] at e
          omega
        refine ⟨t, by omega, ?_⟩
        show (if g t = n then g m else g t) = i
        rw [if_pos et, ← c]; exact e
      · refine ⟨s, by omega, ?_⟩
        show (if g s = n then g m else g s) = i
        rw [if_neg (by omega)]; exact e
/-- with a free slot, not every place has a key -/
theorem dt_room {kp : Nat → Int32} {t : Nat} (ht : t < 16) (e : kp t = -1) (h : ∀ p, p < 16 → ∃ s, s < 16 ∧ kp s = nI p) : False := by
  have w : ∀ i, i < 17 → ∃ s, s < 16 ∧ (fun s => if kp s = -1 then 16 else (kp s).toNatClampNeg) s = i := by
    intro i hi
    by_cases c : i = 16
    · refine ⟨t, ht, ?_⟩
      show (if kp t = -1 then 16 else (kp t).toNatClampNeg) = i
      rw [if_pos e, c]
    · obtain ⟨s, hs, es⟩ := h i (by omega)
      refine ⟨s, hs, ?_⟩
      have n1 : nI i ≠ -1 := dt_ne (by omega)
      show (if kp s = -1 then 16 else (kp s).toNatClampNeg) = i
      rw [es, if_neg n1, nI_clamp (by omega)]
  have z := dt_pig 16 17 _ w
  omega
/-- a rank may be pressed below 16 -/
theorem dt_rank {kq : Nat → Int32} {r : Nat → Nat} (h : ∀ s j, s < 16 → j < 16 → kq s = nI j → r j < r s) : ∃ q : Nat → Nat, (∀ s, s < 16 → q s < 16) ∧ (∀ s j, s < 16 → j < 16 → kq s = nI j → q j < q s) := by
  refine ⟨fun s => dt_cn (fun t => decide (r t < r s)) 16, fun s hs => ?_, fun s j hs hj e => ?_⟩
  · have a := dt_cn_s (f := fun t => decide (r t < r s)) (g := fun _ => true) (j := s) (decide_eq_false (Nat.lt_irrefl _)) rfl 16 hs (fun _ _ _ => rfl)
    have b := dt_cn_le (fun _ => true) 16
    exact Nat.lt_of_lt_of_le a b
  · have l := h s j hs hj e
    exact dt_cn_s (f := fun t => decide (r t < r j)) (g := fun t => decide (r t < r s)) (j := j) (decide_eq_false (Nat.lt_irrefl _)) (decide_eq_true l) 16 hj (fun t _ ht => decide_eq_true (Nat.lt_trans (of_decide_eq_true ht) l))
def dt_bl (kq : Nat → Int32) (a : Int32) : Nat → Int32 → Bool
  | 0, _ => false
  | n + 1, x => if x = -1 then false else if x = a then true else dt_bl kq a n (kq x.toNatClampNeg)
theorem dt_bl_n (kq : Nat → Int32) (a : Int32) (n : Nat) : dt_bl kq a n (-1) = false := by
  cases n with
  | zero => rfl
  | succ n => exact if_pos rfl
theorem dt_bl_s (kq : Nat → Int32) (a : Int32) (n : Nat) {j : Nat} (hj : j < 16) : dt_bl kq a (n + 1) (nI j) = if nI j = a then true else dt_bl kq a n (kq j) := by
  have n1 : nI j ≠ -1 := dt_ne (by omega)
  have n2 : (nI j).toNatClampNeg = j := nI_clamp (by omega)
  show (if nI j = -1 then false else if nI j = a then true else dt_bl kq a n (kq (nI j).toNatClampNeg)) = _
  rw [if_neg n1, n2]
theorem dt_bl_up {kq : Nat → Int32} {q : Nat → Nat} (a : Int32) (hq : ∀ s, s < 16 → kq s = -1 ∨ ∃ j, j < 16 ∧ kq s = nI j) (hr : ∀ s j, s < 16 → j < 16 → kq s = nI j → q j < q s) : ∀ n j, j < 16 → q j < n → dt_bl kq a (n + 1) (nI j) = dt_bl kq a n (nI j) := by
  intro n
  induction n with
  | zero => intro j _ h; exact absurd h (Nat.not_lt_zero _)
  | succ n ih =>
    intro j hj h
    rw [dt_bl_s kq a (n + 1) hj, dt_bl_s kq a n hj]
    by_cases c : nI j = a
    · rw [if_pos c, if_pos c]
    · rw [if_neg c, if_neg c]
      rcases hq j hj with e | ⟨m, hm, e⟩
      · rw [e, dt_bl_n, dt_bl_n]
      · rw [e]
        have := hr j m hj hm e
        exact ih m hm (by omega)
/-- what came of a key that came of a came of a -/
theorem dt_bl_cl {kq : Nat → Int32} (a : Int32) (hq : ∀ s, s < 16 → kq s = -1 ∨ ∃ j, j < 16 ∧ kq s = nI j) {r : Nat → Nat} (h : ∀ s j, s < 16 → j < 16 → kq s = nI j → r j < r s) {s j : Nat} (hs : s < 16) (hj : j < 16) (e : kq s = nI j) (hb : dt_bl kq a 16 (kq j) = true) : dt_bl kq a 16 (kq s) = true := by
  obtain ⟨q, ql, qr⟩ := dt_rank h
  rw [e, dt_bl_s kq a 15 hj]
  by_cases c : nI j = a
  · rw [if_pos c]
  · rw [if_neg c]
    rcases hq j hj with z | ⟨m, hm, z⟩
    · rw [z, dt_bl_n] at hb; exact absurd hb (by decide)
    · rw [z] at hb ⊢
      have h1 := qr j m hj hm z
      have h2 := ql j hj
      rw [← dt_bl_up a hq qr 15 m hm (by omega)]
      exact hb
def dt_mk (f : Nat → Bool) (a : Int32) (g : Nat → Int32) (i : Nat) : Nat → Int32 := fun s => if s < i ∧ f s = true then a else g s
theorem dt_mk_0 (f : Nat → Bool) (a : Int32) (g : Nat → Int32) : dt_mk f a g 0 = g := by
  funext s
  exact if_neg (fun h => absurd h.1 (Nat.not_lt_zero s))
theorem dt_mk_at (f : Nat → Bool) (a : Int32) (g : Nat → Int32) (i : Nat) : dt_mk f a g i i = g i := if_neg (fun h => absurd h.1 (Nat.lt_irrefl i))
theorem dt_mk_y {f : Nat → Bool} {a : Int32} {g : Nat → Int32} {i s : Nat} (hs : s < i) (h : f s = true) : dt_mk f a g i s = a := if_pos ⟨hs, h⟩
theorem dt_mk_n {f : Nat → Bool} {a : Int32} {g : Nat → Int32} {i s : Nat} (h : f s = false) : dt_mk f a g i s = g s := if_neg (fun z => by rw [h] at z; exact absurd z.2 (by decide))
theorem dt_mk_t {f : Nat → Bool} {a : Int32} {g : Nat → Int32} {i : Nat} (h : f i = true) : upd (dt_mk f a g i) i a = dt_mk f a g (i + 1) := by
  funext s
  show (if s = i then a else if s < i ∧ f s = true then a else g s) = if s < i + 1 ∧ f s = true then a else g s
  by_cases c : s = i
  · have y : s < i + 1 ∧ f s = true := ⟨by omega, by rw [c]; exact h⟩
    rw [if_pos c, if_pos y]
  · rw [if_neg c]
    by_cases d : s < i ∧ f s = true
    · have y : s < i + 1 ∧ f s = true := ⟨by have := d.1; omega, d.2⟩
      rw [if_pos d, if_pos y]
    · have y : ¬ (s < i + 1 ∧ f s = true) := fun z => d ⟨by have := z.1; omega, z.2⟩
      rw [if_neg d, if_neg y]
theorem dt_mk_f {f : Nat → Bool} {a : Int32} {g : Nat → Int32} {i : Nat} (h : f i = false) : dt_mk f a g i = dt_mk f a g (i + 1) := by
  funext s
  show (if s < i ∧ f s = true then a else g s) = if s < i + 1 ∧ f s = true then a else g s
  by_cases d : s < i ∧ f s = true
  · have y : s < i + 1 ∧ f s = true := ⟨by have := d.1; omega, d.2⟩
    rw [if_pos d, if_pos y]
  · have y : ¬ (s < i + 1 ∧ f s = true) := by
      intro z
      obtain ⟨z1, z2⟩ := z
      by_cases c : s = i
      · rw [c, h] at z2
        exact absurd z2 (by decide)
      · exact d ⟨by omega, z2⟩
    rw [if_neg d, if_neg y]
theorem dt_mk_c {f g : Nat → Bool} {a : Int32} {x : Nat → Int32} {i : Nat} (h : ∀ s, s < i → f s = g s) : dt_mk f a x i = dt_mk g a x i := by
  funext s
  show (if s < i ∧ f s = true then a else x s) = if s < i ∧ g s = true then a else x s
  by_cases d : s < i
  · rw [h s d]
  · have y1 : ¬ (s < i ∧ f s = true) := fun z => d z.1
    have y2 : ¬ (s < i ∧ g s = true) := fun z => d z.1
    rw [if_neg y1, if_neg y2]
theorem dt_upd_c {f : Nat → Int32} {i j : Nat} {x y : Int32} (h : i ≠ j) : upd (upd f i x) j y = upd (upd f j y) i x := by
  funext s
  show (if s = j then y else if s = i then x else f s) = if s = i then x else if s = j then y else f s
  by_cases a : s = i
  · rw [if_pos a, if_pos a, if_neg (by omega)]
  · rw [if_neg a, if_neg a]
theorem dt_upd_same {f : Nat → Int32} {i : Nat} {x : Int32} (h : f i = x) : upd f i x = f := by
  funext s
  show (if s = i then x else f s) = f s
  by_cases a : s = i
  · rw [if_pos a, a, h]
  · rw [if_neg a]
/-! the set as bits -/
theorem dt_bt1 : ∀ k, k < 32 → bt 1 k = decide (k = 0) := by decide +kernel
theorem dt_set (f : Nat → Bool) {x : Int32} {i : Nat} (hi : i < 16) (hx : ∀ k, k < 32 → bt x k = (decide (k < i) && f k)) (hf : f i = true) : ∀ k, k < 32 → bt (x ||| ((1 : Int32) <<< (nI i &&& 31))) k = (decide (k < i + 1) && f k) := by
  intro k hk
  rw [b_or, b_shl i (by omega) 1 hk, hx k hk, dt_bt1 (k - i) (by omega)]
  by_cases a : k < i
  · rw [decide_eq_true a, decide_eq_true (show k < i + 1 by omega), decide_eq_false (show ¬ i ≤ k by omega)]; simp
  · by_cases b : k = i
    · rw [b, hf, decide_eq_true (Nat.le_refl i), decide_eq_true (show i < i + 1 by omega), decide_eq_true (show i - i = 0 by omega)]; simp
    · rw [decide_eq_false a, decide_eq_false (show ¬ k < i + 1 by omega), decide_eq_false (show ¬ k - i = 0 by omega)]; simp
theorem dt_nos (f : Nat → Bool) {x : Int32} {i : Nat} (hx : ∀ k, k < 32 → bt x k = (decide (k < i) && f k)) (hf : f i = false) : ∀ k, k < 32 → bt x k = (decide (k < i + 1) && f k) := by
  intro k hk
  rw [hx k hk]
  by_cases b : k = i
  · rw [b, hf]; simp
  · by_cases a : k < i
    · rw [decide_eq_true a, decide_eq_true (show k < i + 1 by omega)]
    · rw [decide_eq_false a, decide_eq_false (show ¬ k < i + 1 by omega)]
theorem dt_get (f : Nat → Bool) {x : Int32} {i : Nat} (hi : i < 16) (hx : ∀ k, k < 32 → bt x k = (decide (k < 16) && f k)) : (x >>> (nI i &&& 31)) &&& 1 = dt_b (f i) := by
  apply b_ext
  intro k hk
  rw [b_and, b_sshr i (by omega) x hk, dt_bt1 k hk]
  by_cases a : k = 0
  · subst a
    rw [if_pos (by omega), hx (i + 0) (by omega), Nat.add_zero, decide_eq_true hi]
    cases f i <;> first | rfl | decide +kernel
  · rw [decide_eq_false a, Bool.and_false]
    cases f i
    · exact (b_0 k).symm
    · show false = bt 1 k
      rw [dt_bt1 k hk, decide_eq_false a]
