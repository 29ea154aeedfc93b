section
theorem pk_us {f : Nat → Int32} {k : Nat} {x : Int32} : upd f k x k = x := if_pos rfl
theorem pk_un {f : Nat → Int32} {k j : Nat} {x : Int32} (h : j ≠ k) : upd f k x j = f j := if_neg h
theorem pk_sub {a b : Nat} (h : b ≤ a) : nI a - nI b = nI (a - b) := by
  obtain ⟨c, rfl⟩ : ∃ c, a = c + b := ⟨a - b, by omega⟩
  rw [← nI_add, Int32.add_sub_cancel, Nat.add_sub_cancel]
theorem pk_m1 (n : Nat) : nI (n + 1) + (-1) = nI n := by
  rw [← nI_1, Int32.add_assoc, show (1 : Int32) + (-1) = 0 from rfl, Int32.add_zero]
theorem pk_ix (x : Int32) {n : Nat} (hn : n < 2 ^ 31) : x < 0 ∨ nI n ≤ x ∨ ∃ j : Nat, j < n ∧ x = nI j := by
  by_cases h : x < 0
  · exact Or.inl h
  · obtain ⟨j, hj, rfl⟩ := nI_of h
    by_cases h2 : j < n
    · exact Or.inr (Or.inr ⟨j, h2, rfl⟩)
    · exact Or.inr (Or.inl (nI_le (by omega) hj))
theorem pk_le {x y : Int32} {A B : Prop} (a b : Nat) (f : a ≤ b → A) (g : b < a → B) (hx : x = nI a := by rfl) (hy : y = nI b := by rfl) (ha : a < 2 ^ 31 := by omega) (hb : b < 2 ^ 31 := by omega) : (x ≤ y → A) ∧ (¬ x ≤ y → B) := by
  subst hx hy
  rw [nI_leI ha hb]
  exact ⟨f, fun z => g (by omega)⟩
theorem pk_lt {x y : Int32} {A B : Prop} (a b : Nat) (f : a < b → A) (g : b ≤ a → B) (hx : x = nI a := by rfl) (hy : y = nI b := by rfl) (ha : a < 2 ^ 31 := by omega) (hb : b < 2 ^ 31 := by omega) : (x < y → A) ∧ (¬ x < y → B) := by
  subst hx hy
  rw [nI_ltI ha hb]
  exact ⟨f, fun z => g (by omega)⟩
theorem pk_eq {x y : Int32} {A B : Prop} (a b : Nat) (f : a = b → A) (g : a ≠ b → B) (hx : x = nI a := by rfl) (hy : y = nI b := by rfl) (ha : a < 2 ^ 31 := by omega) (hb : b < 2 ^ 31 := by omega) : (x = y → A) ∧ (¬ x = y → B) := by
  subst hx hy
  rw [nI_eq ha hb]
  exact ⟨f, g⟩
theorem pk_in {x : Int32} (n N : Nat) (h : n < N) (hx : x = nI n := by rfl) (hN : N < 2 ^ 31 := by omega) : vp_in x N := by
  subst hx
  exact vp_in_nI h hN
theorem pk_cl {x : Int32} (n : Nat) (hx : x = nI n := by rfl) (h : n < 2 ^ 31 := by omega) : x.toNatClampNeg = n := by
  subst hx
  exact nI_clamp h
def bt (x : Int32) (i : Nat) : Bool := x.toBitVec.getLsbD i
theorem b_ext {x y : Int32} (h : ∀ i, i < 32 → bt x i = bt y i) : x = y := Int32.toBitVec_inj.mp (BitVec.eq_of_getLsbD_eq (fun i hi => h i hi))
theorem b_or (x y : Int32) (i : Nat) : bt (x ||| y) i = (bt x i || bt y i) := by unfold bt; rw [Int32.toBitVec_or, BitVec.getLsbD_or]
theorem b_and (x y : Int32) (i : Nat) : bt (x &&& y) i = (bt x i && bt y i) := by unfold bt; rw [Int32.toBitVec_and, BitVec.getLsbD_and]
theorem b_xor (x y : Int32) (i : Nat) : bt (x ^^^ y) i = (bt x i ^^ bt y i) := by unfold bt; rw [Int32.toBitVec_xor, BitVec.getLsbD_xor]
theorem b_big {x : Int32} {i : Nat} (h : 32 ≤ i) : bt x i = false := BitVec.getLsbD_of_ge _ _ h
theorem b_255 (i : Nat) : bt 255 i = decide (i < 8) := by
  rcases Nat.lt_or_ge i 32 with h | h
  · exact (by decide +kernel : ∀ i, i < 32 → bt 255 i = decide (i < 8)) i h
  · rw [b_big h, decide_eq_false (by omega)]
theorem b_65535 (i : Nat) : bt 65535 i = decide (i < 16) := by
  rcases Nat.lt_or_ge i 32 with h | h
  · exact (by decide +kernel : ∀ i, i < 32 → bt 65535 i = decide (i < 16)) i h
  · rw [b_big h, decide_eq_false (by omega)]
theorem b_m1 : ∀ i, i < 32 → bt (-1) i = true := by decide +kernel
theorem b_0 (i : Nat) : bt 0 i = false := BitVec.getLsbD_zero
theorem s_l : ∀ n, n < 32 → ((nI n &&& 31).toBitVec.smod 32).toNat = n := by decide +kernel
theorem s_u : ∀ n, n < 32 → (((nI n).toUInt32 &&& Int32.toUInt32 31).toBitVec % 32).toNat = n := by decide +kernel
theorem b_shl (n : Nat) (hn : n < 32) (x : Int32) {i : Nat} (hi : i < 32) : bt (x <<< (nI n &&& 31)) i = (decide (n ≤ i) && bt x (i - n)) := by
  unfold bt
  rw [Int32.toBitVec_shiftLeft]
  show (x.toBitVec <<< ((nI n &&& 31).toBitVec.smod 32).toNat).getLsbD i = _
  rw [s_l n hn, BitVec.getLsbD_shiftLeft]
  rcases Nat.lt_or_ge i n with h | h
  · simp [h, Nat.not_le.mpr h]
  · simp [hi, h, Nat.not_lt.mpr h]
theorem b_ushr (n : Nat) (hn : n < 32) (x : Int32) (i : Nat) : bt ((x.toUInt32 >>> ((nI n).toUInt32 &&& Int32.toUInt32 31)).toInt32) i = bt x (n + i) := by
  show (x.toUInt32 >>> ((nI n).toUInt32 &&& Int32.toUInt32 31)).toBitVec.getLsbD i = x.toUInt32.toBitVec.getLsbD (n + i)
  rw [UInt32.toBitVec_shiftRight]
  show (x.toUInt32.toBitVec >>> (((nI n).toUInt32 &&& Int32.toUInt32 31).toBitVec % 32).toNat).getLsbD i = _
  rw [s_u n hn, BitVec.getLsbD_ushiftRight]
theorem b_sshr (n : Nat) (hn : n < 32) (x : Int32) {i : Nat} (hi : i < 32) : bt (x >>> (nI n &&& 31)) i = if n + i < 32 then bt x (n + i) else bt x 31 := by
  unfold bt
  rw [Int32.toBitVec_shiftRight]
  show (x.toBitVec.sshiftRight ((nI n &&& 31).toBitVec.smod 32).toNat).getLsbD i = _
  rw [s_l n hn, BitVec.getLsbD_sshiftRight, BitVec.msb_eq_getLsbD_last]
  simp [hi]
theorem b_shl8 (x : Int32) {i : Nat} (hi : i < 32) : bt (x <<< ((8 : Int32) &&& 31)) i = (decide (8 ≤ i) && bt x (i - 8)) := b_shl 8 (by omega) x hi
theorem b_shl16 (x : Int32) {i : Nat} (hi : i < 32) : bt (x <<< ((16 : Int32) &&& 31)) i = (decide (16 ≤ i) && bt x (i - 16)) := b_shl 16 (by omega) x hi
theorem b_shl24 (x : Int32) {i : Nat} (hi : i < 32) : bt (x <<< ((24 : Int32) &&& 31)) i = (decide (24 ≤ i) && bt x (i - 24)) := b_shl 24 (by omega) x hi
theorem b_sshr8 (x : Int32) {i : Nat} (hi : i < 32) : bt (x >>> ((8 : Int32) &&& 31)) i = if 8 + i < 32 then bt x (8 + i) else bt x 31 := b_sshr 8 (by omega) x hi
end
section
/-! pure rows: counts, pigeonhole, ranks, the walk up the parents, arrays written under a mask -/
def dt_b (b : Bool) : Int32 := if b then 1 else 0
theorem dt_b_t : dt_b true = 1 := rfl
theorem dt_b_f : dt_b false = 0 := rfl
theorem dt_ne {p : Nat} (h : p < 2 ^ 31) : nI p ≠ -1 := by
  intro e
  have h1 := nI_pos h
  rw [e] at h1
  exact h1 (by decide)
def dt_cn (f : Nat → Bool) : Nat → Nat
  | 0 => 0
  | n + 1 => dt_cn f n + (if f n then 1 else 0)
theorem dt_cn_t {f : Nat → Bool} {n : Nat} (h : f n = true) : dt_cn f (n + 1) = dt_cn f n + 1 := by
  show dt_cn f n + (if f n then 1 else 0) = _
  rw [h]; rfl
theorem dt_cn_f {f : Nat → Bool} {n : Nat} (h : f n = false) : dt_cn f (n + 1) = dt_cn f n := by
  show dt_cn f n + (if f n then 1 else 0) = _
  rw [h]; rfl
theorem dt_cn_le (f : Nat → Bool) (n : Nat) : dt_cn f n ≤ n := by
  induction n with
  | zero => exact Nat.le_refl 0
  | succ n ih =>
    cases h : f n
    · rw [dt_cn_f h]; omega
    · rw [dt_cn_t h]; omega
theorem dt_cn_c {f g : Nat → Bool} (n : Nat) (h : ∀ s, s < n → f s = g s) : dt_cn f n = dt_cn g n := by
  induction n with
  | zero => rfl
  | succ n ih =>
    show dt_cn f n + (if f n then 1 else 0) = dt_cn g n + (if g n then 1 else 0)
    rw [h n (Nat.lt_succ_self n), ih (fun s hs => h s (Nat.lt_succ_of_lt hs))]
theorem dt_cn_1 {f g : Nat → Bool} {j : Nat} (hf : f j = false) (hg : g j = true) (n : Nat) (hj : j < n) (h : ∀ s, s < n → s ≠ j → f s = g s) : dt_cn g n = dt_cn f n + 1 := by
  induction n with
  | zero => exact absurd hj (Nat.not_lt_zero j)
  | succ n ih =>
    by_cases e : n = j
    · rw [e, dt_cn_t hg, dt_cn_f hf, dt_cn_c j (fun s hs => h s (by omega) (by omega))]
    · have i := ih (by omega) (fun s hs => h s (by omega))
      have c := h n (by omega) e
      show dt_cn g n + (if g n then 1 else 0) = dt_cn f n + (if f n then 1 else 0) + 1
      rw [c, i]; omega
theorem dt_cn_m {f g : Nat → Bool} (n : Nat) (h : ∀ s, s < n → f s = true → g s = true) : dt_cn f n ≤ dt_cn g n := by
  induction n with
  | zero => exact Nat.le_refl 0
  | succ n ih =>
    have i := ih (fun s hs => h s (by omega))
    cases c : f n
    · rw [dt_cn_f c]
      cases d : g n
      · rw [dt_cn_f d]; exact i
      · rw [dt_cn_t d]; omega
    · rw [dt_cn_t c, dt_cn_t (h n (by omega) c)]; omega
theorem dt_cn_s {f g : Nat → Bool} {j : Nat} (hf : f j = false) (hg : g j = true) (n : Nat) (hj : j < n) (h : ∀ s, s < n → f s = true → g s = true) : dt_cn f n < dt_cn g n := by
  induction n with
  | zero => exact absurd hj (Nat.not_lt_zero j)
  | succ n ih =>
    by_cases e : n = j
    · have m := dt_cn_m (f := f) (g := g) n (fun s hs => h s (by omega))
      rw [← e] at hf hg
      rw [dt_cn_t hg, dt_cn_f hf]; omega
    · have i := ih (by omega) (fun s hs => h s (by omega))
      cases c : f n
      · rw [dt_cn_f c]
        cases d : g n
        · rw [dt_cn_f d]; exact i
        · rw [dt_cn_t d]; omega
      · rw [dt_cn_t c, dt_cn_t (h n (by omega) c)]; omega
theorem dt_cn_p {f : Nat → Bool} {j : Nat} (hj : f j = true) (n : Nat) (h : j < n) : 0 < dt_cn f n := by
  induction n with
  | zero => exact absurd h (Nat.not_lt_zero j)
  | succ n ih =>
    by_cases e : n = j
    · rw [← e] at hj
      rw [dt_cn_t hj]; omega
    · have i := ih (by omega)
      show 0 < dt_cn f n + (if f n then 1 else 0)
      omega
theorem dt_cn_z {f : Nat → Bool} (n : Nat) (h : ∀ s, s < n → f s = false) : dt_cn f n = 0 := by
  induction n with
  | zero => rfl
  | succ n ih => rw [dt_cn_f (h n (by omega)), ih (fun s hs => h s (by omega))]
theorem dt_cn_e {f : Nat → Bool} (n : Nat) (h : 0 < dt_cn f n) : ∃ j, j < n ∧ f j = true := by
  induction n with
  | zero => exact absurd h (Nat.lt_irrefl 0)
  | succ n ih =>
    cases c : f n
    · rw [dt_cn_f c] at h
      obtain ⟨j, hj, e⟩ := ih h
      exact ⟨j, by omega, e⟩
    · exact ⟨n, by omega, c⟩
def dt_ex (f : Nat → Bool) : Bool := decide (0 < dt_cn f 16)
theorem dt_ex_t {f : Nat → Bool} {j : Nat} (hj : j < 16) (h : f j = true) : dt_ex f = true := decide_eq_true (dt_cn_p h 16 hj)
theorem dt_ex_f {f : Nat → Bool} (h : ∀ s, s < 16 → f s = false) : dt_ex f = false := decide_eq_false (by rw [dt_cn_z 16 h]; exact Nat.lt_irrefl 0)
theorem dt_ex_c {f g : Nat → Bool} (h : ∀ s, s < 16 → f s = g s) : dt_ex f = dt_ex g := by
  unfold dt_ex
  rw [dt_cn_c 16 h]
theorem dt_pig : ∀ (m n : Nat) (g : Nat → Nat), (∀ i, i < n → ∃ s, s < m ∧ g s = i) → n ≤ m := by
  intro m
  induction m with
  | zero =>
    intro n g h
    cases n with
    | zero => exact Nat.le_refl 0
    | succ n =>
      obtain ⟨s, hs, _⟩ := h 0 (Nat.succ_pos n)
      exact absurd hs (Nat.not_lt_zero s)
  | succ m ih =>
    intro n g h
    cases n with
    | zero => exact Nat.zero_le _
    | succ n =>
      refine Nat.succ_le_succ (ih n (fun s => if g s = n then g m else g s) ?_)
      intro i hi
      obtain ⟨s, hs, e⟩ := h i (Nat.lt_succ_of_lt hi)
      by_cases c : s = m
      · obtain ⟨t, ht, et⟩ := h n (Nat.lt_succ_self n)
        have ct : t ≠ m := by
          intro z
          rw [z] at et
          rw [c] at e
          omega
        refine ⟨t, by omega, ?_⟩
        show (if g t = n then g m else g t) = i
        rw [if_pos et, ← c]; exact e
      · refine ⟨s, by omega, ?_⟩
        show (if g s = n then g m else g s) = i
        rw [if_neg (by omega)]; exact e
/-- with a free slot, not every place has a key -/
theorem dt_room {kp : Nat → Int32} {t : Nat} (ht : t < 16) (e : kp t = -1) (h : ∀ p, p < 16 → ∃ s, s < 16 ∧ kp s = nI p) : False := by
  have w : ∀ i, i < 17 → ∃ s, s < 16 ∧ (fun s => if kp s = -1 then 16 else (kp s).toNatClampNeg) s = i := by
    intro i hi
    by_cases c : i = 16
    · refine ⟨t, ht, ?_⟩
      show (if kp t = -1 then 16 else (kp t).toNatClampNeg) = i
      rw [if_pos e, c]
    · obtain ⟨s, hs, es⟩ := h i (by omega)
      refine ⟨s, hs, ?_⟩
      have n1 : nI i ≠ -1 := dt_ne (by omega)
      show (if kp s = -1 then 16 else (kp s).toNatClampNeg) = i
      rw [es, if_neg n1, nI_clamp (by omega)]
  have z := dt_pig 16 17 _ w
  omega
/-- a rank may be pressed below 16 -/
theorem dt_rank {kq : Nat → Int32} {r : Nat → Nat} (h : ∀ s j, s < 16 → j < 16 → kq s = nI j → r j < r s) : ∃ q : Nat → Nat, (∀ s, s < 16 → q s < 16) ∧ (∀ s j, s < 16 → j < 16 → kq s = nI j → q j < q s) := by
  refine ⟨fun s => dt_cn (fun t => decide (r t < r s)) 16, fun s hs => ?_, fun s j hs hj e => ?_⟩
  · have a := dt_cn_s (f := fun t => decide (r t < r s)) (g := fun _ => true) (j := s) (decide_eq_false (Nat.lt_irrefl _)) rfl 16 hs (fun _ _ _ => rfl)
    have b := dt_cn_le (fun _ => true) 16
    exact Nat.lt_of_lt_of_le a b
  · have l := h s j hs hj e
    exact dt_cn_s (f := fun t => decide (r t < r j)) (g := fun t => decide (r t < r s)) (j := j) (decide_eq_false (Nat.lt_irrefl _)) (decide_eq_true l) 16 hj (fun t _ ht => decide_eq_true (Nat.lt_trans (of_decide_eq_true ht) l))
def dt_bl (kq : Nat → Int32) (a : Int32) : Nat → Int32 → Bool
  | 0, _ => false
  | n + 1, x => if x = -1 then false else if x = a then true else dt_bl kq a n (kq x.toNatClampNeg)
theorem dt_bl_n (kq : Nat → Int32) (a : Int32) (n : Nat) : dt_bl kq a n (-1) = false := by
  cases n with
  | zero => rfl
  | succ n => exact if_pos rfl
theorem dt_bl_s (kq : Nat → Int32) (a : Int32) (n : Nat) {j : Nat} (hj : j < 16) : dt_bl kq a (n + 1) (nI j) = if nI j = a then true else dt_bl kq a n (kq j) := by
  have n1 : nI j ≠ -1 := dt_ne (by omega)
  have n2 : (nI j).toNatClampNeg = j := nI_clamp (by omega)
  show (if nI j = -1 then false else if nI j = a then true else dt_bl kq a n (kq (nI j).toNatClampNeg)) = _
  rw [if_neg n1, n2]
theorem dt_bl_up {kq : Nat → Int32} {q : Nat → Nat} (a : Int32) (hq : ∀ s, s < 16 → kq s = -1 ∨ ∃ j, j < 16 ∧ kq s = nI j) (hr : ∀ s j, s < 16 → j < 16 → kq s = nI j → q j < q s) : ∀ n j, j < 16 → q j < n → dt_bl kq a (n + 1) (nI j) = dt_bl kq a n (nI j) := by
  intro n
  induction n with
  | zero => intro j _ h; exact absurd h (Nat.not_lt_zero _)
  | succ n ih =>
    intro j hj h
    rw [dt_bl_s kq a (n + 1) hj, dt_bl_s kq a n hj]
    by_cases c : nI j = a
    · rw [if_pos c, if_pos c]
    · rw [if_neg c, if_neg c]
      rcases hq j hj with e | ⟨m, hm, e⟩
      · rw [e, dt_bl_n, dt_bl_n]
      · rw [e]
        have := hr j m hj hm e
        exact ih m hm (by omega)
/-- what came of a key that came of a came of a -/
theorem dt_bl_cl {kq : Nat → Int32} (a : Int32) (hq : ∀ s, s < 16 → kq s = -1 ∨ ∃ j, j < 16 ∧ kq s = nI j) {r : Nat → Nat} (h : ∀ s j, s < 16 → j < 16 → kq s = nI j → r j < r s) {s j : Nat} (hs : s < 16) (hj : j < 16) (e : kq s = nI j) (hb : dt_bl kq a 16 (kq j) = true) : dt_bl kq a 16 (kq s) = true := by
  obtain ⟨q, ql, qr⟩ := dt_rank h
  rw [e, dt_bl_s kq a 15 hj]
  by_cases c : nI j = a
  · rw [if_pos c]
  · rw [if_neg c]
    rcases hq j hj with z | ⟨m, hm, z⟩
    · rw [z, dt_bl_n] at hb; exact absurd hb (by decide)
    · rw [z] at hb ⊢
      have h1 := qr j m hj hm z
      have h2 := ql j hj
      rw [← dt_bl_up a hq qr 15 m hm (by omega)]
      exact hb
def dt_mk (f : Nat → Bool) (a : Int32) (g : Nat → Int32) (i : Nat) : Nat → Int32 := fun s => if s < i ∧ f s = true then a else g s
theorem dt_mk_0 (f : Nat → Bool) (a : Int32) (g : Nat → Int32) : dt_mk f a g 0 = g := by
  funext s
  exact if_neg (fun h => absurd h.1 (Nat.not_lt_zero s))
theorem dt_mk_at (f : Nat → Bool) (a : Int32) (g : Nat → Int32) (i : Nat) : dt_mk f a g i i = g i := if_neg (fun h => absurd h.1 (Nat.lt_irrefl i))
theorem dt_mk_y {f : Nat → Bool} {a : Int32} {g : Nat → Int32} {i s : Nat} (hs : s < i) (h : f s = true) : dt_mk f a g i s = a := if_pos ⟨hs, h⟩
theorem dt_mk_n {f : Nat → Bool} {a : Int32} {g : Nat → Int32} {i s : Nat} (h : f s = false) : dt_mk f a g i s = g s := if_neg (fun z => by rw [h] at z; exact absurd z.2 (by decide))
theorem dt_mk_t {f : Nat → Bool} {a : Int32} {g : Nat → Int32} {i : Nat} (h : f i = true) : upd (dt_mk f a g i) i a = dt_mk f a g (i + 1) := by
  funext s
  show (if s = i then a else if s < i ∧ f s = true then a else g s) = if s < i + 1 ∧ f s = true then a else g s
  by_cases c : s = i
  · have y : s < i + 1 ∧ f s = true := ⟨by omega, by rw [c]; exact h⟩
    rw [if_pos c, if_pos y]
  · rw [if_neg c]
    by_cases d : s < i ∧ f s = true
    · have y : s < i + 1 ∧ f s = true := ⟨by have := d.1; omega, d.2⟩
      rw [if_pos d, if_pos y]
    · have y : ¬ (s < i + 1 ∧ f s = true) := fun z => d ⟨by have := z.1; omega, z.2⟩
      rw [if_neg d, if_neg y]
theorem dt_mk_f {f : Nat → Bool} {a : Int32} {g : Nat → Int32} {i : Nat} (h : f i = false) : dt_mk f a g i = dt_mk f a g (i + 1) := by
  funext s
  show (if s < i ∧ f s = true then a else g s) = if s < i + 1 ∧ f s = true then a else g s
  by_cases d : s < i ∧ f s = true
  · have y : s < i + 1 ∧ f s = true := ⟨by have := d.1; omega, d.2⟩
    rw [if_pos d, if_pos y]
  · have y : ¬ (s < i + 1 ∧ f s = true) := by
      intro z
      obtain ⟨z1, z2⟩ := z
      by_cases c : s = i
      · rw [c, h] at z2
        exact absurd z2 (by decide)
      · exact d ⟨by omega, z2⟩
    rw [if_neg d, if_neg y]
theorem dt_mk_c {f g : Nat → Bool} {a : Int32} {x : Nat → Int32} {i : Nat} (h : ∀ s, s < i → f s = g s) : dt_mk f a x i = dt_mk g a x i := by
  funext s
  show (if s < i ∧ f s = true then a else x s) = if s < i ∧ g s = true then a else x s
  by_cases d : s < i
  · rw [h s d]
  · have y1 : ¬ (s < i ∧ f s = true) := fun z => d z.1
    have y2 : ¬ (s < i ∧ g s = true) := fun z => d z.1
    rw [if_neg y1, if_neg y2]
theorem dt_upd_c {f : Nat → Int32} {i j : Nat} {x y : Int32} (h : i ≠ j) : upd (upd f i x) j y = upd (upd f j y) i x := by
  funext s
  show (if s = j then y else if s = i then x else f s) = if s = i then x else if s = j then y else f s
  by_cases a : s = i
  · rw [if_pos a, if_pos a, if_neg (by omega)]
  · rw [if_neg a, if_neg a]
theorem dt_upd_same {f : Nat → Int32} {i : Nat} {x : Int32} (h : f i = x) : upd f i x = f := by
  funext s
  show (if s = i then x else f s) = f s
  by_cases a : s = i
  · rw [if_pos a, a, h]
  · rw [if_neg a]
/-! the set as bits -/
theorem dt_bt1 : ∀ k, k < 32 → bt 1 k = decide (k = 0) := by decide +kernel
theorem dt_set (f : Nat → Bool) {x : Int32} {i : Nat} (hi : i < 16) (hx : ∀ k, k < 32 → bt x k = (decide (k < i) && f k)) (hf : f i = true) : ∀ k, k < 32 → bt (x ||| ((1 : Int32) <<< (nI i &&& 31))) k = (decide (k < i + 1) && f k) := by
  intro k hk
  rw [b_or, b_shl i (by omega) 1 hk, hx k hk, dt_bt1 (k - i) (by omega)]
  by_cases a : k < i
  · rw [decide_eq_true a, decide_eq_true (show k < i + 1 by omega), decide_eq_false (show ¬ i ≤ k by omega)]; simp
  · by_cases b : k = i
    · rw [b, hf, decide_eq_true (Nat.le_refl i), decide_eq_true (show i < i + 1 by omega), decide_eq_true (show i - i = 0 by omega)]; simp
    · rw [decide_eq_false a, decide_eq_false (show ¬ k < i + 1 by omega), decide_eq_false (show ¬ k - i = 0 by omega)]; simp
theorem dt_nos (f : Nat → Bool) {x : Int32} {i : Nat} (hx : ∀ k, k < 32 → bt x k = (decide (k < i) && f k)) (hf : f i = false) : ∀ k, k < 32 → bt x k = (decide (k < i + 1) && f k) := by
  intro k hk
  rw [hx k hk]
  by_cases b : k = i
  · rw [b, hf]; simp
  · by_cases a : k < i
    · rw [decide_eq_true a, decide_eq_true (show k < i + 1 by omega)]
    · rw [decide_eq_false a, decide_eq_false (show ¬ k < i + 1 by omega)]
theorem dt_get (f : Nat → Bool) {x : Int32} {i : Nat} (hi : i < 16) (hx : ∀ k, k < 32 → bt x k = (decide (k < 16) && f k)) : (x >>> (nI i &&& 31)) &&& 1 = dt_b (f i) := by
  apply b_ext
  intro k hk
  rw [b_and, b_sshr i (by omega) x hk, dt_bt1 k hk]
  by_cases a : k = 0
  · subst a
    rw [if_pos (by omega), hx (i + 0) (by omega), Nat.add_zero, decide_eq_true hi]
    cases f i <;> first | rfl | decide +kernel
  · rw [decide_eq_false a, Bool.and_false]
    cases f i
    · exact (b_0 k).symm
    · show false = bt 1 k
      rw [dt_bt1 k hk, decide_eq_false a]
end
section
/-! the relation on the arrays of the keys, and what each change of the keys does to it -/
def dt_K (kp kr kq hd po rg pr : Nat → Int32) (s : Nat) : Prop := (kp s = -1 ∧ hd s = 0 ∧ kq s = -1) ∨ (hd s = 1 ∧ (∃ p, p < 16 ∧ kp s = nI p) ∧ po s = kp s ∧ rg s = kr s ∧ pr s = kq s)
def dt_C (kp pk : Nat → Int32) : Prop := ∀ p, p < 16 → pk p = nI (dt_cn (fun s => decide (kp s = nI p)) 16)
def dt_Q (kp kq : Nat → Int32) : Prop := ∀ s, s < 16 → kq s = -1 ∨ ∃ j, j < 16 ∧ kq s = nI j ∧ kp j ≠ -1
def dt_A (kq : Nat → Int32) : Prop := ∃ r : Nat → Nat, ∀ s j, s < 16 → j < 16 → kq s = nI j → r j < r s
def dt_R (kp kr kq pk hd po rg pr : Nat → Int32) : Prop := (∀ s, s < 16 → dt_K kp kr kq hd po rg pr s) ∧ dt_C kp pk ∧ dt_Q kp kq ∧ dt_A kq
theorem dt_inj {a b : Nat} (ha : a < 16) (hb : b < 16) (h : nI a = nI b) : a = b := (nI_eq (by omega) (by omega)).mp h
theorem dt_n1 {p : Nat} (h : p < 16) : nI p ≠ -1 := dt_ne (by omega)
theorem dt_1n {p : Nat} (h : p < 16) : (-1 : Int32) ≠ nI p := fun z => dt_n1 h z.symm
theorem dt_C_put {kp pk : Nat → Int32} {t p : Nat} (h : dt_C kp pk) (ht : t < 16) (hp : p < 16) (e : kp t = -1) : dt_C (upd kp t (nI p)) (upd pk p (pk p + 1)) := by
  intro q hq
  by_cases c : q = p
  · rw [c, pk_us, h p hp, nI_1]
    refine congrArg nI ?_
    refine (dt_cn_1 (f := fun s => decide (kp s = nI p)) (g := fun s => decide (upd kp t (nI p) s = nI p)) (j := t) ?_ (decide_eq_true pk_us) 16 ht (fun s _ hs => ?_)).symm
    · show decide (kp t = nI p) = false
      rw [e]; exact decide_eq_false (dt_1n hp)
    · show decide (kp s = nI p) = decide (upd kp t (nI p) s = nI p)
      rw [pk_un hs]
  · rw [pk_un c, h q hq]
    refine congrArg nI (dt_cn_c 16 (fun s _ => ?_))
    show decide (kp s = nI q) = decide (upd kp t (nI p) s = nI q)
    by_cases d : s = t
    · have h1 : ¬ (nI p = nI q) := fun z => c (dt_inj hq hp z.symm)
      rw [d, pk_us, e, decide_eq_false (dt_1n hq), decide_eq_false h1]
    · rw [pk_un d]
theorem dt_C_drop {kp pk : Nat → Int32} {t p : Nat} {x : Int32} (h : dt_C kp pk) (ht : t < 16) (hp : p < 16) (e : kp t = nI p) (hx : ∀ n, pk p = nI (n + 1) → x = nI n) : dt_C (upd kp t (-1)) (upd pk p x) := by
  intro q hq
  by_cases c : q = p
  · rw [c, pk_us]
    refine hx _ ?_
    rw [h p hp]
    refine congrArg nI ?_
    refine dt_cn_1 (g := fun s => decide (kp s = nI p)) (f := fun s => decide (upd kp t (-1) s = nI p)) (j := t) ?_ (decide_eq_true e) 16 ht (fun s _ hs => ?_)
    · show decide (upd kp t (-1) t = nI p) = false
      rw [pk_us]; exact decide_eq_false (dt_1n hp)
    · show decide (upd kp t (-1) s = nI p) = decide (kp s = nI p)
      rw [pk_un hs]
  · rw [pk_un c, h q hq]
    refine congrArg nI (dt_cn_c 16 (fun s _ => ?_))
    show decide (kp s = nI q) = decide (upd kp t (-1) s = nI q)
    by_cases d : s = t
    · have h1 : ¬ (nI p = nI q) := fun z => c (dt_inj hq hp z.symm)
      rw [d, pk_us, e, decide_eq_false (dt_1n hq), decide_eq_false h1]
    · rw [pk_un d]
theorem dt_R_put {kp kr kq pk hd po rg pr : Nat → Int32} {t p : Nat} {x y : Int32} (h : dt_R kp kr kq pk hd po rg pr) (ht : t < 16) (hp : p < 16) (e : kp t = -1) (hy : y = -1 ∨ ∃ j, j < 16 ∧ y = nI j ∧ kp j ≠ -1) : dt_R (upd kp t (nI p)) (upd kr t x) (upd kq t y) (upd pk p (pk p + 1)) (upd hd t 1) (upd po t (nI p)) (upd rg t x) (upd pr t y) := by
  obtain ⟨hK, hC, hQ, r, hA⟩ := h
  have hne : ∀ j, kp j ≠ -1 → j ≠ t := fun j hj z => hj (by rw [z]; exact e)
  have hk : ∀ j, kp j ≠ -1 → upd kp t (nI p) j ≠ -1 := fun j hj => by rw [pk_un (hne j hj)]; exact hj
  refine ⟨fun s hs => ?_, dt_C_put hC ht hp e, fun s hs => ?_, ?_⟩
  · by_cases c : s = t
    · rw [c]
      exact Or.inr ⟨pk_us, ⟨p, hp, pk_us⟩, pk_us.trans pk_us.symm, pk_us.trans pk_us.symm, pk_us.trans pk_us.symm⟩
    · rcases hK s hs with ⟨a1, a2, a3⟩ | ⟨a1, ⟨m, hm, a2⟩, a3, a4, a5⟩
      · exact Or.inl ⟨(pk_un c).trans a1, (pk_un c).trans a2, (pk_un c).trans a3⟩
      · exact Or.inr ⟨(pk_un c).trans a1, ⟨m, hm, (pk_un c).trans a2⟩, (pk_un c).trans (a3.trans (pk_un c).symm), (pk_un c).trans (a4.trans (pk_un c).symm), (pk_un c).trans (a5.trans (pk_un c).symm)⟩
  · by_cases c : s = t
    · rw [c, pk_us]
      rcases hy with z | ⟨j, hj, z, zk⟩
      · exact Or.inl z
      · exact Or.inr ⟨j, hj, z, hk j zk⟩
    · rw [pk_un c]
      rcases hQ s hs with z | ⟨j, hj, z, zk⟩
      · exact Or.inl z
      · exact Or.inr ⟨j, hj, z, hk j zk⟩
  · obtain ⟨z, ez⟩ : ∃ z : Nat, ∀ j, j < 16 → y = nI j → r j < z := by
      rcases hy with c | ⟨m, hm, c, _⟩
      · exact ⟨0, fun j hj d => absurd (d.symm.trans c) (dt_n1 hj)⟩
      · exact ⟨r m + 1, fun j hj d => by
          rw [dt_inj hj hm (d.symm.trans c)]; exact Nat.lt_succ_self _⟩
    refine ⟨fun s => if s = t then z else r s, fun s j hs hj es => ?_⟩
    show (if j = t then z else r j) < (if s = t then z else r s)
    by_cases c : s = t
    · rw [c, pk_us] at es
      have d : j ≠ t := by
        rcases hy with w | ⟨m, hm, w, wk⟩
        · exact absurd (es.symm.trans w) (dt_n1 hj)
        · rw [dt_inj hj hm (es.symm.trans w)]; exact hne m wk
      rw [if_pos c, if_neg d]; exact ez j hj es
    · rw [pk_un c] at es
      have d : j ≠ t := by
        rcases hQ s hs with w | ⟨m, hm, w, wk⟩
        · exact absurd (es.symm.trans w) (dt_n1 hj)
        · rw [dt_inj hj hm (es.symm.trans w)]; exact hne m wk
      rw [if_neg c, if_neg d]; exact hA s j hs hj es
/-- the keys under f get the parent a, f's own key is gone -/
theorem dt_R_hand {kp kr kq pk hd po rg pr : Nat → Int32} {f p : Nat} {a x : Int32} (h : dt_R kp kr kq pk hd po rg pr) (hf : f < 16) (hp : p < 16) (e : kp f = nI p) (hx : ∀ n, pk p = nI (n + 1) → x = nI n) (ha : a = -1 ∨ ∃ j, j < 16 ∧ a = nI j ∧ j ≠ f ∧ kp j ≠ -1) (hA : dt_A (upd (dt_mk (fun s => decide (kq s = nI f)) a kq 16) f (-1))) : dt_R (upd kp f (-1)) kr (upd (dt_mk (fun s => decide (kq s = nI f)) a kq 16) f (-1)) (upd pk p x) (upd hd f 0) po rg (dt_mk (fun s => decide (upd hd f 0 s = 1 ∧ pr s = nI f)) a pr 16) := by
  obtain ⟨hK, hC, hQ, _⟩ := h
  refine ⟨fun s hs => ?_, dt_C_drop hC hf hp e hx, fun s hs => ?_, hA⟩
  · by_cases c : s = f
    · rw [c]; exact Or.inl ⟨pk_us, pk_us, pk_us⟩
    · rcases hK s hs with ⟨a1, a2, a3⟩ | ⟨a1, ⟨m, hm, a2⟩, a3, a4, a5⟩
      · have d : ¬ kq s = nI f := fun z => dt_n1 hf (z.symm.trans a3)
        exact Or.inl ⟨(pk_un c).trans a1, (pk_un c).trans a2, (pk_un c).trans ((dt_mk_n (decide_eq_false d)).trans a3)⟩
      · refine Or.inr ⟨(pk_un c).trans a1, ⟨m, hm, (pk_un c).trans a2⟩, a3.trans (pk_un c).symm, a4, ?_⟩
        rw [pk_un c]
        by_cases d : kq s = nI f
        · exact (dt_mk_y hs (decide_eq_true ⟨(pk_un c).trans a1, a5.trans d⟩)).trans (dt_mk_y hs (decide_eq_true d)).symm
        · exact (dt_mk_n (decide_eq_false (fun z => d (a5.symm.trans z.2)))).trans (a5.trans (dt_mk_n (decide_eq_false d)).symm)
  · by_cases c : s = f
    · rw [c]; exact Or.inl pk_us
    · rw [pk_un c]
      by_cases d : kq s = nI f
      · have g : dt_mk (fun s => decide (kq s = nI f)) a kq 16 s = a := dt_mk_y hs (decide_eq_true d)
        rw [g]
        rcases ha with z | ⟨j, hj, z, jf, jk⟩
        · exact Or.inl z
        · exact Or.inr ⟨j, hj, z, by rw [pk_un jf]; exact jk⟩
      · have g : dt_mk (fun s => decide (kq s = nI f)) a kq 16 s = kq s := dt_mk_n (decide_eq_false d)
        rw [g]
        rcases hQ s hs with z | ⟨j, hj, z, jk⟩
        · exact Or.inl z
        · exact Or.inr ⟨j, hj, z, by
            rw [pk_un (fun w => d (by rw [z, w]))]; exact jk⟩
theorem dt_noself {kq : Nat → Int32} (h : dt_A kq) {f : Nat} (hf : f < 16) : ¬ kq f = nI f := by
  obtain ⟨r, hr⟩ := h
  exact fun z => Nat.lt_irrefl _ (hr f f hf hf z)
theorem dt_hand_n {kp kr kq pk hd po rg pr : Nat → Int32} {f : Nat} (h : dt_R kp kr kq pk hd po rg pr) (hf : f < 16) : ∀ s, s < 16 → decide (kq s = nI f) = decide (upd hd f 0 s = 1 ∧ pr s = nI f) := by
  intro s hs
  by_cases c : s = f
  · rw [c, decide_eq_false (dt_noself h.2.2.2 hf), pk_us]
    exact (decide_eq_false (fun z => absurd z.1 (by decide))).symm
  · rw [pk_un c]
    rcases h.1 s hs with ⟨a1, a2, a3⟩ | ⟨a1, ⟨m, hm, a2⟩, a3, a4, a5⟩
    · rw [a2, a3, decide_eq_false (dt_1n hf)]
      exact (decide_eq_false (fun z => absurd z.1 (by decide))).symm
    · rw [a1, a5]
      exact decide_eq_decide.mpr ⟨fun z => ⟨rfl, z⟩, fun z => z.2⟩
theorem dt_A_del {kq : Nat → Int32} {f : Nat} (h : dt_A kq) (hf : f < 16) : dt_A (upd (dt_mk (fun s => decide (kq s = nI f)) (kq f) kq 16) f (-1)) := by
  obtain ⟨r, hr⟩ := h
  refine ⟨r, fun s j hs hj e => ?_⟩
  by_cases c : s = f
  · rw [c, pk_us] at e
    exact absurd e (dt_1n hj)
  · rw [pk_un c] at e
    by_cases d : kq s = nI f
    · have g : dt_mk (fun s => decide (kq s = nI f)) (kq f) kq 16 s = kq f := dt_mk_y hs (decide_eq_true d)
      exact Nat.lt_trans (hr f j hf hj (g.symm.trans e)) (hr s f hs hf d)
    · have g : dt_mk (fun s => decide (kq s = nI f)) (kq f) kq 16 s = kq s := dt_mk_n (decide_eq_false d)
      exact hr s j hs hj (g.symm.trans e)
theorem dt_A_mov {kp kq : Nat → Int32} {f t : Nat} (h : dt_A kq) (hQ : dt_Q kp kq) (hf : f < 16) (ht : t < 16) (et : kp t = -1) : dt_A (upd (dt_mk (fun s => decide (upd kq t (kq f) s = nI f)) (nI t) (upd kq t (kq f)) 16) f (-1)) := by
  have hs0 := dt_noself h hf
  obtain ⟨r, hr⟩ := h
  have hnt : ∀ s j, s < 16 → j < 16 → kq s = nI j → j ≠ t := by
    intro s j hs hj e
    rcases hQ s hs with w | ⟨m, hm, w, wk⟩
    · exact absurd (e.symm.trans w) (dt_n1 hj)
    · rw [dt_inj hj hm (e.symm.trans w)]
      exact fun z => wk (by rw [z]; exact et)
  refine ⟨fun s => if s = t then r f else r s, fun s j hs hj e => ?_⟩
  show (if j = t then r f else r j) < (if s = t then r f else r s)
  by_cases c : s = f
  · rw [c, pk_us] at e
    exact absurd e (dt_1n hj)
  · rw [pk_un c] at e
    by_cases d : upd kq t (kq f) s = nI f
    · have g : dt_mk (fun s => decide (upd kq t (kq f) s = nI f)) (nI t) (upd kq t (kq f)) 16 s = nI t := dt_mk_y hs (decide_eq_true d)
      have jt : j = t := dt_inj hj ht (e.symm.trans g)
      by_cases st : s = t
      · rw [st, pk_us] at d
        exact absurd d hs0
      · rw [pk_un st] at d
        rw [if_pos jt, if_neg st]
        exact hr s f hs hf d
    · have g : dt_mk (fun s => decide (upd kq t (kq f) s = nI f)) (nI t) (upd kq t (kq f)) 16 s = upd kq t (kq f) s := dt_mk_n (decide_eq_false d)
      rw [g] at e
      by_cases st : s = t
      · rw [st, pk_us] at e
        rw [if_pos st, if_neg (hnt f j hf hj e)]
        exact hr f j hf hj e
      · rw [pk_un st] at e
        rw [if_neg st, if_neg (hnt s j hs hj e)]
        exact hr s j hs hj e
/-- all that came of a is gone -/
theorem dt_R_rev {kp kr kq pk hd po rg pr pk' : Nat → Int32} (h : dt_R kp kr kq pk hd po rg pr) (a : Int32) (hC : dt_C (dt_mk (fun s => dt_bl kq a 16 (kq s)) (-1) kp 16) pk') : dt_R (dt_mk (fun s => dt_bl kq a 16 (kq s)) (-1) kp 16) kr (dt_mk (fun s => dt_bl kq a 16 (kq s)) (-1) kq 16) pk' (dt_mk (fun s => dt_bl kq a 16 (kq s)) 0 hd 16) po rg pr := by
  obtain ⟨hK, _, hQ, r, hr⟩ := h
  have hq : ∀ s, s < 16 → kq s = -1 ∨ ∃ j, j < 16 ∧ kq s = nI j := fun s hs => by
    rcases hQ s hs with w | ⟨m, hm, w, _⟩
    · exact Or.inl w
    · exact Or.inr ⟨m, hm, w⟩
  refine ⟨fun s hs => ?_, hC, fun s hs => ?_, r, fun s j hs hj e => ?_⟩
  · cases c : dt_bl kq a 16 (kq s)
    · have y : ∀ (b : Int32) (g : Nat → Int32), dt_mk (fun s => dt_bl kq a 16 (kq s)) b g 16 s = g s := fun b g => dt_mk_n c
      unfold dt_K
      rw [y, y, y]
      exact hK s hs
    · exact Or.inl ⟨dt_mk_y hs c, dt_mk_y hs c, dt_mk_y hs c⟩
  · cases c : dt_bl kq a 16 (kq s)
    · have y : ∀ (b : Int32) (g : Nat → Int32), dt_mk (fun s => dt_bl kq a 16 (kq s)) b g 16 s = g s := fun b g => dt_mk_n c
      rw [y]
      rcases hQ s hs with w | ⟨j, hj, w, wk⟩
      · exact Or.inl w
      · refine Or.inr ⟨j, hj, w, ?_⟩
        cases d : dt_bl kq a 16 (kq j)
        · have y2 : dt_mk (fun s => dt_bl kq a 16 (kq s)) (-1) kp 16 j = kp j := dt_mk_n d
          rw [y2]; exact wk
        · rw [dt_bl_cl a hq hr hs hj w d] at c
          exact absurd c (by decide)
    · exact Or.inl (dt_mk_y hs c)
  · cases c : dt_bl kq a 16 (kq s)
    · have y : dt_mk (fun s => dt_bl kq a 16 (kq s)) (-1) kq 16 s = kq s := dt_mk_n c
      exact hr s j hs hj (y.symm.trans e)
    · have y : dt_mk (fun s => dt_bl kq a 16 (kq s)) (-1) kq 16 s = -1 := dt_mk_y hs c
      exact absurd (y.symm.trans e) (dt_1n hj)
/-- is a piece there -/
def dt_T (kp : Nat → Int32) (q : Nat) : Bool := dt_ex (fun s => decide (kp s = nI q))
theorem dt_T_t {kp pk : Nat → Int32} {q : Nat} (h : dt_C kp pk) (hq : q < 16) (t : dt_T kp q = true) : 0 < pk q := by
  have l := dt_cn_le (fun s => decide (kp s = nI q)) 16
  have g : 0 < dt_cn (fun s => decide (kp s = nI q)) 16 := of_decide_eq_true t
  rw [h q hq, ← nI_0]
  exact nI_lt g (by omega)
theorem dt_T_f {kp pk : Nat → Int32} {q : Nat} (h : dt_C kp pk) (hq : q < 16) (t : dt_T kp q = false) : ¬ 0 < pk q := by
  have l := dt_cn_le (fun s => decide (kp s = nI q)) 16
  have g : ¬ 0 < dt_cn (fun s => decide (kp s = nI q)) 16 := of_decide_eq_false t
  rw [h q hq, ← nI_0]
  exact nI_nlt (by omega) (by omega)
theorem dt_T_le {kp pk : Nat → Int32} {q : Nat} (h : dt_C kp pk) (hq : q < 16) (t : dt_T kp q = true) : ¬ pk q ≤ 0 := Int32.not_le.mpr (dt_T_t h hq t)
theorem dt_T_lf {kp pk : Nat → Int32} {q : Nat} (h : dt_C kp pk) (hq : q < 16) (t : dt_T kp q = false) : pk q ≤ 0 := Int32.not_lt.mp (dt_T_f h hq t)
theorem dt_T_y {kp kr kq pk hd po rg pr : Nat → Int32} (h : dt_R kp kr kq pk hd po rg pr) {q : Nat} (hq : q < 16) : dt_ex (fun s => decide (hd s = 1 ∧ po s = nI q)) = dt_T kp q := by
  refine dt_ex_c (fun s hs => ?_)
  show decide (hd s = 1 ∧ po s = nI q) = decide (kp s = nI q)
  rcases h.1 s hs with ⟨a1, a2, a3⟩ | ⟨a1, ⟨m, hm, a2⟩, a3, a4, a5⟩
  · rw [a1, a2, decide_eq_false (dt_1n hq)]
    exact decide_eq_false (fun z => absurd z.1 (by decide))
  · rw [a1, a3]
    exact decide_eq_decide.mpr ⟨fun z => z.2, fun z => ⟨rfl, z⟩⟩
def dt_lf (T : Nat → Bool) : Nat → Nat → Nat
  | 0, i => i
  | d + 1, i => if T i then dt_lf T d (i + 1) else i
theorem dt_lf_t {T : Nat → Bool} {d i : Nat} (h : T i = true) : dt_lf T (d + 1) i = dt_lf T d (i + 1) := if_pos h
theorem dt_lf_f {T : Nat → Bool} {d i : Nat} (h : T i = false) : dt_lf T (d + 1) i = i := if_neg (by rw [h]; decide)
theorem dt_lf_s (T : Nat → Bool) : ∀ d i, dt_lf T d i ≤ i + d ∧ (T (dt_lf T d i) = false ∨ (dt_lf T d i = i + d ∧ ∀ p, i ≤ p → p < i + d → T p = true)) := by
  intro d
  induction d with
  | zero => intro i; exact ⟨Nat.le_refl i, Or.inr ⟨rfl, fun p h1 h2 => absurd h1 (by omega)⟩⟩
  | succ d ih =>
    intro i
    cases c : T i
    · rw [dt_lf_f c]
      exact ⟨by omega, Or.inl c⟩
    · rw [dt_lf_t c]
      obtain ⟨a, b⟩ := ih (i + 1)
      refine ⟨by omega, ?_⟩
      rcases b with b | ⟨b1, b2⟩
      · exact Or.inl b
      · refine Or.inr ⟨by omega, fun p h1 h2 => ?_⟩
        by_cases e : p = i
        · rw [e]; exact c
        · exact b2 p (by omega) (by omega)
/-- the place that split takes: below 16, and no key leads to it -/
theorem dt_place {kp : Nat → Int32} {t : Nat} (ht : t < 16) (e : kp t = -1) : dt_lf (dt_T kp) 15 0 < 16 ∧ ∀ s, s < 16 → kp s ≠ nI (dt_lf (dt_T kp) 15 0) := by
  obtain ⟨a, b⟩ := dt_lf_s (dt_T kp) 15 0
  have hT : dt_T kp (dt_lf (dt_T kp) 15 0) = false := by
    rcases b with b | ⟨b1, b2⟩
    · exact b
    · cases c : dt_T kp (dt_lf (dt_T kp) 15 0)
      · rfl
      · refine (dt_room ht e (fun p hp => ?_)).elim
        have tp : dt_T kp p = true := by
          by_cases z : p = 15
          · rw [b1] at c
            rw [z]; exact c
          · exact b2 p (by omega) (by omega)
        obtain ⟨s, hs, es⟩ := dt_cn_e 16 (of_decide_eq_true tp)
        exact ⟨s, hs, of_decide_eq_true es⟩
  refine ⟨by omega, fun s hs z => ?_⟩
  have w : dt_T kp (dt_lf (dt_T kp) 15 0) = true := dt_ex_t (f := fun s => decide (kp s = nI (dt_lf (dt_T kp) 15 0))) hs (decide_eq_true z)
  rw [hT] at w
  exact absurd w (by decide)
/-- does the piece q lie in p; has p a piece within -/
def dt_L (nm st sz : Nat → Int32) (q p : Nat) : Bool := decide (nm p < nm q) && (decide (st p ≤ st q) && decide (st q + sz q ≤ st p + sz p))
def dt_W (kp nm st sz : Nat → Int32) (p : Nat) : Bool := dt_ex (fun q => dt_T kp q && dt_L nm st sz q p)
/-- the marks once those without a piece within went back -/
def dt_M (kp nm st sz mk : Nat → Int32) : Nat → Int32 := dt_mk (fun p => !dt_W kp nm st sz p) 0 mk 16
/-- how many held -/
theorem dt_held {kp kr kq pk hd po rg pr : Nat → Int32} (h : dt_R kp kr kq pk hd po rg pr) : ∀ s, s < 16 → decide (kp s ≠ -1) = decide (hd s = 1) := by
  intro s hs
  rcases h.1 s hs with ⟨a1, a2, a3⟩ | ⟨a1, ⟨m, hm, a2⟩, a3, a4, a5⟩
  · rw [a1, a2]; decide
  · rw [a1, a2]
    exact decide_eq_decide.mpr ⟨fun _ => rfl, fun _ => dt_n1 hm⟩
theorem dt_desc {kp kr kq pk hd po rg pr : Nat → Int32} (h : dt_R kp kr kq pk hd po rg pr) (a : Int32) : ∀ s, s < 16 → dt_bl kq a 16 (kq s) = (decide (hd s = 1) && dt_bl kq a 16 (kq s)) := by
  intro s hs
  rcases h.1 s hs with ⟨a1, a2, a3⟩ | ⟨a1, ⟨m, hm, a2⟩, a3, a4, a5⟩
  · rw [a3, dt_bl_n, Bool.and_false]
  · rw [a1]; rfl
/-- the state before the first key -/
theorem dt_R_0 {kp kq : Nat → Int32} (h1 : ∀ s, s < 16 → kp s = -1) (h2 : ∀ s, s < 16 → kq s = -1) : dt_R kp (fun _ => 0) kq (fun _ => 0) (fun _ => 0) (fun _ => 0) (fun _ => 0) (fun _ => 0) := by
  refine ⟨fun s hs => Or.inl ⟨h1 s hs, rfl, h2 s hs⟩, fun p hp => ?_, fun s hs => Or.inl (h2 s hs), ⟨fun _ => 0, fun s j hs hj e => absurd ((h2 s hs).symm.trans e) (dt_1n hj)⟩⟩
  have z : dt_cn (fun s => decide (kp s = nI p)) 16 = 0 := dt_cn_z 16 (fun s hs => by
    show decide (kp s = nI p) = false
    rw [h1 s hs]; exact decide_eq_false (dt_1n hp))
  show (0 : Int32) = nI _
  rw [z]; exact nI_0.symm
end
section
/-! X: each private method and each loop, with a general post -/
theorem dt_g16 {i : Nat} (h : i < 16) : ¬ (16 : Int32) ≤ nI i := nI_ge (b := 16) h (by decide)
theorem dt_e16 : (16 : Int32) ≤ nI 16 := nI_le (a := 16) (b := 16) (Nat.le_refl 16) (by decide)
theorem dt_g15 {i : Nat} (h : i < 15) : ¬ (15 : Int32) ≤ nI i := nI_ge (b := 15) h (by decide)
theorem dt_e15 : (15 : Int32) ≤ nI 15 := nI_le (a := 15) (b := 15) (Nat.le_refl 15) (by decide)
theorem dt_n15 {i : Nat} (h : i < 16) : ¬ (15 : Int32) < nI i := nI_nlt (a := 15) (b := i) (by omega) (by decide)
theorem dt_in {i : Nat} (h : i < 16) : vp_in (nI i) 16 := vp_in_nI h (by decide)
theorem dt_cl {i : Nat} (h : i < 16) : (nI i).toNatClampNeg = i := nI_clamp (by omega)
theorem dt_ge0 {i : Nat} (h : i < 16) : ¬ nI i < 0 := nI_pos (by omega)
theorem dt_b1 : ¬ dt_b true = 0 := by decide
theorem dt_b01 : ¬ dt_b false = 1 := by decide
theorem dt_10 : ¬ (1 : Int32) = 0 := by decide
theorem dt_ix (x : Int32) : (x < 0 ∨ (16 : Int32) ≤ x) ∨ ∃ j, j < 16 ∧ x = nI j := by
  rcases pk_ix x (n := 16) (by decide) with h | h | h
  · exact Or.inl (Or.inl h)
  · exact Or.inl (Or.inr h)
  · exact Or.inr h
theorem dt_cn_b (f : Nat → Bool) (i : Nat) : nI (dt_cn f i) + dt_b (f i) = nI (dt_cn f (i + 1)) := by
  cases c : f i
  · rw [dt_cn_f c]
    show nI (dt_cn f i) + 0 = _
    rw [Int32.add_zero]
  · rw [dt_cn_t c]
    exact nI_1 _
section
variable {md : Int32} {kp kr kq pk nm st sz mk : Nat → Int32}
theorem dx_slot_t {j : Nat} (hj : j < 16) {post : Int32 → Prop} (h : post 1) : wpX_isSlot post (md, kp, kr, kq, pk, nm, st, sz, mk) (nI j) := br_f (dt_ge0 hj) (br_f (dt_g16 hj) h)
theorem dx_slot_f {x : Int32} (hx : x < 0 ∨ (16 : Int32) ≤ x) {post : Int32 → Prop} (h : post 0) : wpX_isSlot post (md, kp, kr, kq, pk, nm, st, sz, mk) x := by
  by_cases c : x < 0
  · exact br_t c h
  · rcases hx with d | d
    · exact absurd d c
    · exact br_f c (br_t d h)
theorem dx_held_t {j : Nat} (hj : j < 16) (e : kp j ≠ -1) {post : Int32 → Prop} (h : post 1) : wpX_isHeld post (md, kp, kr, kq, pk, nm, st, sz, mk) (nI j) := by
  unfold wpX_isHeld
  dsimp only
  refine dx_slot_t hj (br_f dt_10 ⟨dt_in hj, ?_⟩)
  rw [dt_cl hj]
  exact br_f e h
theorem dx_held_f {j : Nat} (hj : j < 16) (e : kp j = -1) {post : Int32 → Prop} (h : post 0) : wpX_isHeld post (md, kp, kr, kq, pk, nm, st, sz, mk) (nI j) := by
  unfold wpX_isHeld
  dsimp only
  refine dx_slot_t hj (br_f dt_10 ⟨dt_in hj, ?_⟩)
  rw [dt_cl hj]
  exact br_t e h
theorem dx_held_o {x : Int32} (hx : x < 0 ∨ (16 : Int32) ≤ x) {post : Int32 → Prop} (h : post 0) : wpX_isHeld post (md, kp, kr, kq, pk, nm, st, sz, mk) x := by
  unfold wpX_isHeld
  dsimp only
  exact dx_slot_f hx (br_t rfl h)
theorem dx_free_t {j : Nat} (hj : j < 16) (e : kp j = -1) {post : Int32 → Prop} (h : post 1) : wpX_isFree post (md, kp, kr, kq, pk, nm, st, sz, mk) (nI j) := by
  unfold wpX_isFree
  dsimp only
  refine dx_slot_t hj (br_f dt_10 ⟨dt_in hj, ?_⟩)
  rw [dt_cl hj]
  exact br_t e h
theorem dx_free_f {j : Nat} (hj : j < 16) (e : kp j ≠ -1) {post : Int32 → Prop} (h : post 0) : wpX_isFree post (md, kp, kr, kq, pk, nm, st, sz, mk) (nI j) := by
  unfold wpX_isFree
  dsimp only
  refine dx_slot_t hj (br_f dt_10 ⟨dt_in hj, ?_⟩)
  rw [dt_cl hj]
  exact br_f e h
theorem dx_free_o {x : Int32} (hx : x < 0 ∨ (16 : Int32) ≤ x) {post : Int32 → Prop} (h : post 0) : wpX_isFree post (md, kp, kr, kq, pk, nm, st, sz, mk) x := by
  unfold wpX_isFree
  dsimp only
  exact dx_slot_f hx (br_t rfl h)
theorem dx_put {t p : Nat} (ht : t < 16) (hp : p < 16) {x y : Int32} {post : SX → Prop} (h : post (md, upd kp t (nI p), upd kr t x, upd kq t y, upd pk p (pk p + 1), nm, st, sz, mk)) : wpX_putKey post (md, kp, kr, kq, pk, nm, st, sz, mk) (nI t) (nI p) x y := by
  unfold wpX_putKey
  dsimp only
  rw [dt_cl ht, dt_cl hp]
  exact ⟨dt_in ht, nm_e ⟨dt_in ht, nm_e ⟨dt_in ht, nm_e ⟨dt_in hp, dt_in hp, nm_e h⟩⟩⟩⟩
theorem dx_drop {t p : Nat} (ht : t < 16) (hp : p < 16) (e : kp t = nI p) {post : SX → Prop} (h : post (md, upd kp t (-1), kr, upd kq t (-1), upd pk p (pk p - 1), nm, st, sz, mk)) : wpX_dropKey post (md, kp, kr, kq, pk, nm, st, sz, mk) (nI t) := by
  unfold wpX_dropKey
  dsimp only
  rw [dt_cl ht, e, dt_cl hp]
  exact ⟨dt_in ht, dt_in hp, dt_in hp, nm_e ⟨dt_in ht, nm_e ⟨dt_in ht, nm_e h⟩⟩⟩
theorem dx_unused (hC : dt_C kp pk) {post : Int32 → Prop} : ∀ d i, i + d = 15 → post (nI (dt_lf (dt_T kp) d i)) → wX_unusedPlace_2 post md kp kr kq pk nm st sz mk (d + 1) (nI i) := by
  intro d
  induction d with
  | zero =>
    intro i hi h
    have e : i = 15 := by omega
    subst e
    exact br_t dt_e15 h
  | succ d ih =>
    intro i hi h
    have h16 : i < 16 := by omega
    refine br_f (dt_g15 (by omega)) ⟨dt_in h16, ?_⟩
    rw [dt_cl h16]
    cases c : dt_T kp i
    · rw [dt_lf_f c] at h
      exact br_t (dt_T_lf hC h16 c) h
    · rw [dt_lf_t c] at h
      exact br_f (dt_T_le hC h16 c) (nm_r (nI_1 i) (ih (i + 1) (by omega) h))
theorem dx_unusedPlace (hC : dt_C kp pk) {post : Int32 → Prop} (h : post (nI (dt_lf (dt_T kp) 15 0))) : wpX_unusedPlace post (md, kp, kr, kq, pk, nm, st, sz, mk) := ⟨16, dx_unused hC 15 0 rfl h⟩
theorem dt_lf16 (T : Nat → Bool) : dt_lf T 15 0 < 16 := by
  have h := (dt_lf_s T 15 0).1
  omega
theorem dx_make (hC : dt_C kp pk) {x y : Int32} {post : Int32 → SX → Prop} (h : post (nI (dt_lf (dt_T kp) 15 0)) (md + 1, kp, kr, kq, pk, upd nm (dt_lf (dt_T kp) 15 0) md, upd st (dt_lf (dt_T kp) 15 0) x, upd sz (dt_lf (dt_T kp) 15 0) y, upd mk (dt_lf (dt_T kp) 15 0) 0)) : wpX_makePiece post (md, kp, kr, kq, pk, nm, st, sz, mk) x y := by
  have hq := dt_lf16 (dt_T kp)
  unfold wpX_makePiece
  dsimp only
  refine dx_unusedPlace hC ?_
  rw [dt_cl hq]
  exact ⟨dt_in hq, nm_e ⟨dt_in hq, nm_e ⟨dt_in hq, nm_e ⟨dt_in hq, nm_e (nm_e h)⟩⟩⟩⟩
theorem dx_chg {a b : Int32} {post : Int32 → SX → Prop} : ∀ d i, i + d = 16 → post (nI (dt_cn (fun s => decide (kq s = b)) 16)) (md, kp, kr, dt_mk (fun s => decide (kq s = b)) a kq 16, pk, nm, st, sz, mk) → wX_changeParent_5 post b a md (d + 1) (nI (dt_cn (fun s => decide (kq s = b)) i)) (nI i) kp kr (dt_mk (fun s => decide (kq s = b)) a kq i) pk nm st sz mk := by
  intro d
  induction d with
  | zero =>
    intro i hi h
    have e : i = 16 := by omega
    subst e
    exact br_t dt_e16 h
  | succ d ih =>
    intro i hi h
    have h16 : i < 16 := by omega
    have g := ih (i + 1) (by omega) h
    refine br_f (dt_g16 h16) ⟨dt_in h16, ?_⟩
    rw [dt_cl h16, dt_mk_at]
    by_cases c : kq i = b
    · rw [dt_cn_t (f := (fun s => decide (kq s = b))) (n := i) (decide_eq_true c), ← nI_1] at g
      rw [← dt_mk_t (f := (fun s => decide (kq s = b))) (i := i) (decide_eq_true c), ← nI_1] at g
      exact br_t c ⟨dt_in h16, nm_e (nm_e (nm_e g))⟩
    · rw [dt_cn_f (f := (fun s => decide (kq s = b))) (n := i) (decide_eq_false c), ← dt_mk_f (f := (fun s => decide (kq s = b))) (i := i) (decide_eq_false c)] at g
      exact br_f c (nm_r (nI_1 i) g)
theorem dx_change {a b : Int32} {post : Int32 → SX → Prop} (h : post (nI (dt_cn (fun s => decide (kq s = b)) 16)) (md, kp, kr, dt_mk (fun s => decide (kq s = b)) a kq 16, pk, nm, st, sz, mk)) : wpX_changeParent post (md, kp, kr, kq, pk, nm, st, sz, mk) b a := by
  have g := dx_chg 16 0 rfl h
  rw [dt_mk_0] at g
  exact ⟨17, g⟩
theorem dx_lies {q p : Nat} (hq : q < 16) (hp : p < 16) {post : Int32 → Prop} (h : post (dt_b (dt_L nm st sz q p))) : wpX_liesIn post (md, kp, kr, kq, pk, nm, st, sz, mk) (nI q) (nI p) := by
  unfold wpX_liesIn
  dsimp only
  rw [dt_cl hq, dt_cl hp]
  refine ⟨dt_in hq, dt_in hq, nm_e ⟨dt_in hp, dt_in hp, nm_e ⟨dt_in hq, dt_in hp, ?_⟩⟩⟩
  unfold dt_L at h
  by_cases c1 : nm q ≤ nm p
  · rw [decide_eq_false (Int32.not_lt.mpr c1)] at h
    exact br_t c1 h
  · rw [decide_eq_true (Int32.not_le.mp c1)] at h
    refine br_f c1 ⟨dt_in hq, dt_in hp, ?_⟩
    by_cases c2 : st q < st p
    · rw [decide_eq_false (Int32.not_le.mpr c2)] at h
      exact br_t c2 h
    · rw [decide_eq_true (Int32.not_lt.mp c2)] at h
      refine br_f c2 ?_
      by_cases c3 : st p + sz p < st q + sz q
      · rw [decide_eq_false (Int32.not_le.mpr c3)] at h
        exact br_t c3 h
      · rw [decide_eq_true (Int32.not_lt.mp c3)] at h
        exact br_f c3 h
theorem dx_within (hC : dt_C kp pk) {p : Nat} (hp : p < 16) {post : Int32 → Prop} (h : post (dt_b (dt_W kp nm st sz p))) : ∀ d i, i + d = 16 → (∀ s, s < i → (dt_T kp s && dt_L nm st sz s p) = false) → wX_hasPieceWithin_2 post (nI p) md kp kr kq pk nm st sz mk (d + 1) (nI i) := by
  intro d
  induction d with
  | zero =>
    intro i hi n
    have e : i = 16 := by omega
    subst e
    have z : dt_W kp nm st sz p = false := dt_ex_f n
    rw [z] at h
    exact br_t dt_e16 h
  | succ d ih =>
    intro i hi n
    have h16 : i < 16 := by omega
    refine br_f (dt_g16 h16) ⟨dt_in h16, ?_⟩
    rw [dt_cl h16]
    cases c : dt_T kp i
    · have w : (dt_T kp i && dt_L nm st sz i p) = false := by rw [c]; rfl
      exact br_t (dt_T_lf hC h16 c) (nm_r (nI_1 i) (ih (i + 1) (by omega) (lt_s n w)))
    · refine br_f (dt_T_le hC h16 c) (dx_lies h16 hp ?_)
      cases c2 : dt_L nm st sz i p
      · have w : (dt_T kp i && dt_L nm st sz i p) = false := by rw [c2]; exact Bool.and_false _
        exact br_t rfl (nm_r (nI_1 i) (ih (i + 1) (by omega) (lt_s n w)))
      · have w : (dt_T kp i && dt_L nm st sz i p) = true := by rw [c, c2]; rfl
        have z : dt_W kp nm st sz p = true := dt_ex_t (f := fun q => dt_T kp q && dt_L nm st sz q p) h16 w
        rw [z] at h
        exact br_f dt_b1 h
theorem dx_hasWithin (hC : dt_C kp pk) {p : Nat} (hp : p < 16) {post : Int32 → Prop} (h : post (dt_b (dt_W kp nm st sz p))) : wpX_hasPieceWithin post (md, kp, kr, kq, pk, nm, st, sz, mk) (nI p) := ⟨17, dx_within hC hp h 16 0 rfl (fun s hs => absurd hs (Nat.not_lt_zero s))⟩
theorem dx_tbm (hC : dt_C kp pk) {post : SX → Prop} : ∀ d i, i + d = 16 → post (md, kp, kr, kq, pk, nm, st, sz, dt_M kp nm st sz mk) → wX_takeBackMarks_2 post md (d + 1) (nI i) kp kr kq pk nm st sz (dt_mk (fun p => !dt_W kp nm st sz p) 0 mk i) := by
  intro d
  induction d with
  | zero =>
    intro i hi h
    have e : i = 16 := by omega
    subst e
    exact br_t dt_e16 h
  | succ d ih =>
    intro i hi h
    have h16 : i < 16 := by omega
    have g := ih (i + 1) (by omega) h
    refine br_f (dt_g16 h16) (dx_hasWithin hC h16 ?_)
    cases c : dt_W kp nm st sz i
    · have w : (!dt_W kp nm st sz i) = true := by rw [c]; rfl
      refine br_t rfl ⟨dt_in h16, ?_⟩
      rw [dt_cl h16]
      exact nm_r (dt_mk_t (f := (fun p => !dt_W kp nm st sz p)) (i := i) w) (nm_r (nI_1 i) g)
    · have w : (!dt_W kp nm st sz i) = false := by rw [c]; rfl
      rw [← dt_mk_f (f := (fun p => !dt_W kp nm st sz p)) (i := i) w] at g
      exact br_f dt_b1 (nm_r (nI_1 i) g)
theorem dx_take (hC : dt_C kp pk) {post : SX → Prop} (h : post (md, kp, kr, kq, pk, nm, st, sz, dt_M kp nm st sz mk)) : wpX_takeBackMarks post (md, kp, kr, kq, pk, nm, st, sz, mk) := by
  have g := dx_tbm hC 16 0 rfl h
  rw [dt_mk_0] at g
  exact ⟨17, g⟩
theorem dx_walk {a : Int32} {post : Int32 → Prop} (hq : ∀ s, s < 16 → kq s = -1 ∨ ∃ j, j < 16 ∧ kq s = nI j) : ∀ d i x, i + d = 16 → (x = -1 ∨ ∃ j, j < 16 ∧ x = nI j) → post (dt_b (dt_bl kq a d x)) → wX_comesFrom_10 post a md kp kr kq pk nm st sz mk (d + 1) x (nI i) := by
  intro d
  induction d with
  | zero =>
    intro i x hi hx h
    have e : i = 16 := by omega
    subst e
    exact br_t dt_e16 h
  | succ d ih =>
    intro i x hi hx h
    have h16 : i < 16 := by omega
    refine br_f (dt_g16 h16) ?_
    rcases hx with e | ⟨j, hj, e⟩
    · rw [e, dt_bl_n] at h
      exact br_t e h
    · subst e
      rw [dt_bl_s kq a d hj] at h
      refine br_f (dt_n1 hj) ?_
      by_cases c : nI j = a
      · rw [if_pos c] at h
        exact br_t c h
      · rw [if_neg c] at h
        refine br_f c ⟨dt_in hj, ?_⟩
        rw [dt_cl hj]
        exact nm_e (nm_r (nI_1 i) (ih (i + 1) (kq j) (by omega) (hq j hj) h))
theorem dx_comes (hq : ∀ s, s < 16 → kq s = -1 ∨ ∃ j, j < 16 ∧ kq s = nI j) {a : Int32} {s : Nat} (hs : s < 16) {post : Int32 → Prop} (h : post (dt_b (dt_bl kq a 16 (kq s)))) : wpX_comesFrom post (md, kp, kr, kq, pk, nm, st, sz, mk) (nI s) a := by
  unfold wpX_comesFrom
  dsimp only
  rw [dt_cl hs]
  exact ⟨dt_in hs, nm_e ⟨17, dx_walk hq 16 0 (kq s) rfl (hq s hs) h⟩⟩
theorem dx_ds (hq : ∀ s, s < 16 → kq s = -1 ∨ ∃ j, j < 16 ∧ kq s = nI j) {a : Int32} {post : Int32 → Prop} (h : ∀ y, (∀ k, k < 32 → bt y k = (decide (k < 16) && (fun s => dt_bl kq a 16 (kq s)) k)) → post y) : ∀ d i x, i + d = 16 → (∀ k, k < 32 → bt x k = (decide (k < i) && (fun s => dt_bl kq a 16 (kq s)) k)) → wX_descendantSet_4 post a md kp kr kq pk nm st sz mk (d + 1) x (nI i) := by
  intro d
  induction d with
  | zero =>
    intro i x hi hx
    have e : i = 16 := by omega
    subst e
    exact br_t dt_e16 (h x hx)
  | succ d ih =>
    intro i x hi hx
    have h16 : i < 16 := by omega
    refine br_f (dt_g16 h16) (dx_comes hq h16 ?_)
    cases c : dt_bl kq a 16 (kq i)
    · exact br_t rfl (nm_r (nI_1 i) (ih (i + 1) x (by omega) (dt_nos (fun s => dt_bl kq a 16 (kq s)) hx c)))
    · exact br_f dt_b1 (nm_e (nm_r (nI_1 i) (ih (i + 1) _ (by omega) (dt_set (fun s => dt_bl kq a 16 (kq s)) h16 hx c))))
theorem dx_dset (hq : ∀ s, s < 16 → kq s = -1 ∨ ∃ j, j < 16 ∧ kq s = nI j) {a : Int32} {post : Int32 → Prop} (h : ∀ y, (∀ k, k < 32 → bt y k = (decide (k < 16) && (fun s => dt_bl kq a 16 (kq s)) k)) → post y) : wpX_descendantSet post (md, kp, kr, kq, pk, nm, st, sz, mk) a := by
  refine ⟨17, dx_ds hq h 16 0 0 rfl (fun k _ => ?_)⟩
  rw [b_0, decide_eq_false (Nat.not_lt_zero k)]
  rfl
theorem dx_dsc {F : Nat → Bool} {y : Int32} (hy : ∀ k, k < 32 → bt y k = (decide (k < 16) && F k)) {post : Int32 → Prop} (h : post (nI (dt_cn F 16))) : ∀ d i, i + d = 16 → wX_descendants_21 post y md kp kr kq pk nm st sz mk (d + 1) (nI (dt_cn F i)) (nI i) := by
  intro d
  induction d with
  | zero =>
    intro i hi
    have e : i = 16 := by omega
    subst e
    exact br_t dt_e16 h
  | succ d ih =>
    intro i hi
    have h16 : i < 16 := by omega
    refine br_f (dt_g16 h16) ?_
    rw [dt_get F h16 hy]
    exact nm_r (dt_cn_b F i) (nm_r (nI_1 i) (ih (i + 1) (by omega)))
theorem dx_keys {post : Int32 → Prop} (h : post (nI (dt_cn (fun s => decide (kp s ≠ -1)) 16))) : ∀ d i, i + d = 16 → wX_keys_4 post md kp kr kq pk nm st sz mk (d + 1) (nI (dt_cn (fun s => decide (kp s ≠ -1)) i)) (nI i) := by
  intro d
  induction d with
  | zero =>
    intro i hi
    have e : i = 16 := by omega
    subst e
    exact br_t dt_e16 h
  | succ d ih =>
    intro i hi
    have h16 : i < 16 := by omega
    have g := ih (i + 1) (by omega)
    refine br_f (dt_g16 h16) ⟨dt_in h16, ?_⟩
    rw [dt_cl h16]
    by_cases c : kp i = -1
    · rw [dt_cn_f (f := fun s => decide (kp s ≠ -1)) (n := i) (decide_eq_false (fun z => z c))] at g
      exact br_t c (nm_r (nI_1 i) g)
    · rw [dt_cn_t (f := fun s => decide (kp s ≠ -1)) (n := i) (decide_eq_true c)] at g
      exact br_f c (nm_r (nI_1 _) (nm_r (nI_1 i) g))
theorem dx_rev {F : Nat → Bool} {y : Int32} (hy : ∀ k, k < 32 → bt y k = (decide (k < 16) && F k)) (hK : ∀ s, s < 16 → F s = true → ∃ p, p < 16 ∧ kp s = nI p) {post : Int32 → SX → Prop} (h : ∀ pk', dt_C (dt_mk F (-1) kp 16) pk' → post (nI (dt_cn F 16)) (md, dt_mk F (-1) kp 16, kr, dt_mk F (-1) kq 16, pk', nm, st, sz, dt_M (dt_mk F (-1) kp 16) nm st sz mk)) : ∀ d i pk', i + d = 16 → dt_C (dt_mk F (-1) kp i) pk' → wX_revoke_21 post y (d + 1) (nI (dt_cn F i)) (nI i) md (dt_mk F (-1) kp i) kr (dt_mk F (-1) kq i) pk' nm st sz mk := by
  intro d
  induction d with
  | zero =>
    intro i pk' hi hC
    have e : i = 16 := by omega
    subst e
    exact br_t dt_e16 (dx_take hC (h pk' hC))
  | succ d ih =>
    intro i pk' hi hC
    have h16 : i < 16 := by omega
    refine br_f (dt_g16 h16) ?_
    rw [dt_get F h16 hy]
    cases c : F i
    · have hC2 := hC
      rw [dt_mk_f c] at hC2
      have g := ih (i + 1) pk' (by omega) hC2
      rw [dt_cn_f c, ← dt_mk_f c, ← dt_mk_f c] at g
      exact br_f dt_b01 (nm_r (nI_1 i) g)
    · obtain ⟨p, hp, e⟩ := hK i h16 c
      have e2 : dt_mk F (-1) kp i i = nI p := (dt_mk_at F (-1) kp i).trans e
      have hC2 := dt_C_drop (x := pk' p - 1) hC h16 hp e2 (fun n z => by rw [z, nI_pred])
      rw [dt_mk_t c] at hC2
      have g := ih (i + 1) _ (by omega) hC2
      rw [dt_cn_t c, ← dt_mk_t c, ← dt_mk_t c] at g
      exact br_t rfl (dx_drop h16 hp e2 (nm_r (nI_1 _) (nm_r (nI_1 i) g)))
end
end
section
/-! Y: each private method and each loop, with a general post -/
theorem dt_nb0 : vp_nar .boolean 0 = 0 := by rfl
theorem dt_nb1 : vp_nar .boolean 1 = 1 := by rfl
theorem dt_1516 {x : Int32} (h : (16 : Int32) ≤ x) : (15 : Int32) < x := Int32.lt_of_lt_of_le (by decide) h
theorem dt_01 {x : Int32} (h : x = 1) : ¬ x = 0 := by rw [h]; decide
def dt_fl (F : Nat → Bool) (g : Nat → Int32) (i : Nat) : Nat → Int32 := fun s => if s < i then dt_b (F s) else g s
theorem dt_fl_0 (F : Nat → Bool) (g : Nat → Int32) : dt_fl F g 0 = g := by
  funext s
  exact if_neg (Nat.not_lt_zero s)
theorem dt_fl_u (F : Nat → Bool) (g : Nat → Int32) (i : Nat) : upd (dt_fl F g i) i (dt_b (F i)) = dt_fl F g (i + 1) := by
  funext s
  show (if s = i then dt_b (F i) else if s < i then dt_b (F s) else g s) = if s < i + 1 then dt_b (F s) else g s
  by_cases c : s = i
  · have y : s < i + 1 := by omega
    rw [if_pos c, if_pos y, c]
  · rw [if_neg c]
    by_cases d : s < i
    · have y : s < i + 1 := by omega
      rw [if_pos d, if_pos y]
    · have y : ¬ s < i + 1 := by omega
      rw [if_neg d, if_neg y]
section
variable {md : Int32} {hd po rg pr st sz mk nm go : Nat → Int32}
theorem dy_miss_f {j : Nat} (hj : j < 16) (e : hd j = 1) {post : Int32 → Prop} (h : post 0) : wpY_missing post (md, hd, po, rg, pr, st, sz, mk, nm, go) (nI j) := by
  refine br_f (dt_ge0 hj) (br_f (dt_n15 hj) ⟨dt_in hj, ?_⟩)
  rw [dt_cl hj]
  exact br_f (dt_01 e) h
theorem dy_miss_t {j : Nat} (hj : j < 16) (e : hd j = 0) {post : Int32 → Prop} (h : post 1) : wpY_missing post (md, hd, po, rg, pr, st, sz, mk, nm, go) (nI j) := by
  refine br_f (dt_ge0 hj) (br_f (dt_n15 hj) ⟨dt_in hj, ?_⟩)
  rw [dt_cl hj]
  exact br_t e h
theorem dy_miss_o {x : Int32} (hx : x < 0 ∨ (16 : Int32) ≤ x) {post : Int32 → Prop} (h : post 1) : wpY_missing post (md, hd, po, rg, pr, st, sz, mk, nm, go) x := by
  by_cases c : x < 0
  · exact br_t c h
  · rcases hx with d | d
    · exact absurd d c
    · exact br_f c (br_t (dt_1516 d) h)
theorem dy_tak_f {j : Nat} (hj : j < 16) (e : hd j = 0) {post : Int32 → Prop} (h : post 0) : wpY_taken post (md, hd, po, rg, pr, st, sz, mk, nm, go) (nI j) := by
  refine br_f (dt_ge0 hj) (br_f (dt_n15 hj) ⟨dt_in hj, ?_⟩)
  rw [dt_cl hj]
  exact br_t e h
theorem dy_tak_t {j : Nat} (hj : j < 16) (e : hd j = 1) {post : Int32 → Prop} (h : post 1) : wpY_taken post (md, hd, po, rg, pr, st, sz, mk, nm, go) (nI j) := by
  refine br_f (dt_ge0 hj) (br_f (dt_n15 hj) ⟨dt_in hj, ?_⟩)
  rw [dt_cl hj]
  exact br_f (dt_01 e) h
theorem dy_tak_o {x : Int32} (hx : x < 0 ∨ (16 : Int32) ≤ x) {post : Int32 → Prop} (h : post 1) : wpY_taken post (md, hd, po, rg, pr, st, sz, mk, nm, go) x := by
  by_cases c : x < 0
  · exact br_t c h
  · rcases hx with d | d
    · exact absurd d c
    · exact br_f c (br_t (dt_1516 d) h)
theorem dy_there {x : Int32} (hh : ∀ s, s < 16 → hd s = 0 ∨ hd s = 1) {post : Int32 → Prop} (h : post (dt_b (dt_ex (fun s => decide (hd s = 1 ∧ po s = x))))) : ∀ d i, i + d = 16 → (∀ s, s < i → (fun s => decide (hd s = 1 ∧ po s = x)) s = false) → wY_there_2 post x md hd po rg pr st sz mk nm go (d + 1) (nI i) := by
  intro d
  induction d with
  | zero =>
    intro i hi n
    have e : i = 16 := by omega
    subst e
    rw [dt_ex_f n] at h
    exact br_t dt_e16 h
  | succ d ih =>
    intro i hi n
    have h16 : i < 16 := by omega
    refine br_f (dt_g16 h16) ⟨dt_in h16, ?_⟩
    rw [dt_cl h16]
    rcases hh i h16 with e | e
    · have w : (fun s => decide (hd s = 1 ∧ po s = x)) i = false := by
        show decide (hd i = 1 ∧ po i = x) = false
        rw [e]
        exact decide_eq_false (fun z => absurd z.1 (by decide))
      exact br_t e (nm_r (nI_1 i) (ih (i + 1) (by omega) (lt_s n w)))
    · refine br_f (dt_01 e) ⟨dt_in h16, ?_⟩
      by_cases c : po i = x
      · have z : dt_ex (fun s => decide (hd s = 1 ∧ po s = x)) = true := dt_ex_t (f := (fun s => decide (hd s = 1 ∧ po s = x))) h16 (decide_eq_true ⟨e, c⟩)
        rw [z] at h
        exact br_t c h
      · have w : (fun s => decide (hd s = 1 ∧ po s = x)) i = false := decide_eq_false (fun z => c z.2)
        exact br_f c (nm_r (nI_1 i) (ih (i + 1) (by omega) (lt_s n w)))
theorem dy_thereW {x : Int32} (hh : ∀ s, s < 16 → hd s = 0 ∨ hd s = 1) {post : Int32 → Prop} (h : post (dt_b (dt_ex (fun s => decide (hd s = 1 ∧ po s = x))))) : wpY_there post (md, hd, po, rg, pr, st, sz, mk, nm, go) x := ⟨17, dy_there hh h 16 0 rfl (fun s hs => absurd hs (Nat.not_lt_zero s))⟩
theorem dy_lies {q p : Nat} (hq : q < 16) (hp : p < 16) {post : Int32 → Prop} (h : post (dt_b (dt_L nm st sz q p))) : wpY_lies post (md, hd, po, rg, pr, st, sz, mk, nm, go) (nI q) (nI p) := by
  unfold wpY_lies
  dsimp only
  rw [dt_cl hq, dt_cl hp]
  refine ⟨dt_in hq, dt_in hp, ?_⟩
  unfold dt_L at h
  by_cases c1 : nm q ≤ nm p
  · rw [decide_eq_false (Int32.not_lt.mpr c1)] at h
    exact br_t c1 h
  · rw [decide_eq_true (Int32.not_le.mp c1)] at h
    refine br_f c1 ⟨dt_in hq, dt_in hp, ?_⟩
    by_cases c2 : st q < st p
    · rw [decide_eq_false (Int32.not_le.mpr c2)] at h
      exact br_t c2 h
    · rw [decide_eq_true (Int32.not_lt.mp c2)] at h
      refine br_f c2 ⟨dt_in hq, dt_in hq, dt_in hp, dt_in hp, ?_⟩
      by_cases c3 : st p + sz p < st q + sz q
      · rw [decide_eq_false (Int32.not_le.mpr c3)] at h
        exact br_t c3 h
      · rw [decide_eq_true (Int32.not_lt.mp c3)] at h
        exact br_f c3 h
theorem dy_in {kp : Nat → Int32} {p : Nat} (hp : p < 16) (hh : ∀ s, s < 16 → hd s = 0 ∨ hd s = 1) (hT : ∀ q, q < 16 → dt_ex (fun s => decide (hd s = 1 ∧ po s = nI q)) = dt_T kp q) {post : SY → Prop} {J2 : Int32 → (Nat → Int32) → (Nat → Int32) → (Nat → Int32) → (Nat → Int32) → (Nat → Int32) → (Nat → Int32) → (Nat → Int32) → (Nat → Int32) → (Nat → Int32) → Prop} (h0 : dt_W kp nm st sz p = false → J2 (nI (p + 1)) hd po rg pr st sz (upd mk p 0) nm go) (h1 : dt_W kp nm st sz p = true → J2 (nI (p + 1)) hd po rg pr st sz mk nm go) : ∀ d i, i + d = 16 → wY_settle_12 post J2 (nI p) md hd po rg pr st sz mk nm go (d + 1) (dt_b (decide (0 < dt_cn (fun q => dt_T kp q && dt_L nm st sz q p) i))) (nI i) := by
  intro d
  induction d with
  | zero =>
    intro i hi
    have e : i = 16 := by omega
    subst e
    refine br_t dt_e16 ?_
    have w : decide (0 < dt_cn (fun q => dt_T kp q && dt_L nm st sz q p) 16) = dt_W kp nm st sz p := rfl
    rw [w]
    cases c : dt_W kp nm st sz p
    · refine br_t rfl ⟨dt_in hp, ?_⟩
      rw [dt_cl hp]
      exact nm_e (nm_r (nI_1 p) (h0 c))
    · exact br_f dt_b1 (nm_r (nI_1 p) (h1 c))
  | succ d ih =>
    intro i hi
    have h16 : i < 16 := by omega
    have g := ih (i + 1) (by omega)
    refine br_f (dt_g16 h16) (dy_lies h16 hp ?_)
    cases c : dt_L nm st sz i p
    · have w : (fun q => dt_T kp q && dt_L nm st sz q p) i = false := by
        show (dt_T kp i && dt_L nm st sz i p) = false
        rw [c]; exact Bool.and_false _
      rw [dt_cn_f (f := (fun q => dt_T kp q && dt_L nm st sz q p)) (n := i) w] at g
      exact br_t rfl (nm_r (nI_1 i) g)
    · refine br_f dt_b1 (dy_thereW hh ?_)
      rw [hT i h16]
      cases c2 : dt_T kp i
      · have w : (fun q => dt_T kp q && dt_L nm st sz q p) i = false := by
          show (dt_T kp i && dt_L nm st sz i p) = false
          rw [c2]; rfl
        rw [dt_cn_f (f := (fun q => dt_T kp q && dt_L nm st sz q p)) (n := i) w] at g
        exact br_t rfl (nm_r (nI_1 i) g)
      · have w : (fun q => dt_T kp q && dt_L nm st sz q p) i = true := by
          show (dt_T kp i && dt_L nm st sz i p) = true
          rw [c, c2]; rfl
        rw [dt_cn_t (f := (fun q => dt_T kp q && dt_L nm st sz q p)) (n := i) w, decide_eq_true (Nat.succ_pos _)] at g
        exact br_f dt_b1 (nm_r (nI_1 i) g)
theorem dy_set {kp : Nat → Int32} (hh : ∀ s, s < 16 → hd s = 0 ∨ hd s = 1) (hT : ∀ q, q < 16 → dt_ex (fun s => decide (hd s = 1 ∧ po s = nI q)) = dt_T kp q) {post : SY → Prop} : ∀ d i, i + d = 16 → post (md, hd, po, rg, pr, st, sz, dt_M kp nm st sz mk, nm, go) → wY_settle_2 post md (d + 1) (nI i) hd po rg pr st sz (dt_mk (fun p => !dt_W kp nm st sz p) 0 mk i) nm go := by
  intro d
  induction d with
  | zero =>
    intro i hi h
    have e : i = 16 := by omega
    subst e
    exact br_t dt_e16 h
  | succ d ih =>
    intro i hi h
    have h16 : i < 16 := by omega
    have g := ih (i + 1) (by omega) h
    refine br_f (dt_g16 h16) ⟨17, dy_in (kp := kp) h16 hh hT (fun c => ?_) (fun c => ?_) 16 0 rfl⟩
    · have w : (!dt_W kp nm st sz i) = true := by rw [c]; rfl
      rw [dt_mk_t (f := (fun p => !dt_W kp nm st sz p)) (i := i) w]
      exact g
    · have w : (!dt_W kp nm st sz i) = false := by rw [c]; rfl
      rw [dt_mk_f (f := (fun p => !dt_W kp nm st sz p)) (i := i) w]
      exact g
theorem dy_settle {kp : Nat → Int32} (hh : ∀ s, s < 16 → hd s = 0 ∨ hd s = 1) (hT : ∀ q, q < 16 → dt_ex (fun s => decide (hd s = 1 ∧ po s = nI q)) = dt_T kp q) {post : SY → Prop} (h : post (md, hd, po, rg, pr, st, sz, dt_M kp nm st sz mk, nm, go)) : wpY_settle post (md, hd, po, rg, pr, st, sz, mk, nm, go) := by
  have g := dy_set (md := md) (rg := rg) (pr := pr) (go := go) hh hT 16 0 rfl h
  rw [dt_mk_0] at g
  exact ⟨17, g⟩
theorem dy_hold {t : Nat} (ht : t < 16) {p x y : Int32} {post : SY → Prop} (h : post (md, upd hd t 1, upd po t p, upd rg t x, upd pr t y, st, sz, mk, nm, go)) : wpY_hold post (md, hd, po, rg, pr, st, sz, mk, nm, go) (nI t) p x y := by
  unfold wpY_hold
  dsimp only
  rw [dt_cl ht, dt_nb1]
  exact ⟨dt_in ht, nm_e ⟨dt_in ht, nm_e ⟨dt_in ht, nm_e ⟨dt_in ht, nm_e h⟩⟩⟩⟩
theorem dy_hnd (hh : ∀ s, s < 16 → hd s = 0 ∨ hd s = 1) {a b : Int32} {post : Int32 → SY → Prop} : ∀ d i, i + d = 16 → post (nI (dt_cn (fun s => decide (hd s = 1 ∧ pr s = b)) 16)) (md, hd, po, rg, dt_mk (fun s => decide (hd s = 1 ∧ pr s = b)) a pr 16, st, sz, mk, nm, go) → wY_hand_5 post b a md (d + 1) (nI (dt_cn (fun s => decide (hd s = 1 ∧ pr s = b)) i)) (nI i) hd po rg (dt_mk (fun s => decide (hd s = 1 ∧ pr s = b)) a pr i) st sz mk nm go := by
  intro d
  induction d with
  | zero =>
    intro i hi h
    have e : i = 16 := by omega
    subst e
    exact br_t dt_e16 h
  | succ d ih =>
    intro i hi h
    have h16 : i < 16 := by omega
    have g := ih (i + 1) (by omega) h
    refine br_f (dt_g16 h16) ⟨dt_in h16, ?_⟩
    rw [dt_cl h16, dt_mk_at]
    rcases hh i h16 with e | e
    · have w : (fun s => decide (hd s = 1 ∧ pr s = b)) i = false := by
        show decide (hd i = 1 ∧ pr i = b) = false
        rw [e]
        exact decide_eq_false (fun z => absurd z.1 (by decide))
      rw [dt_cn_f (f := (fun s => decide (hd s = 1 ∧ pr s = b))) (n := i) w, ← dt_mk_f (f := (fun s => decide (hd s = 1 ∧ pr s = b))) (i := i) w] at g
      exact br_t e (nm_r (nI_1 i) g)
    · refine br_f (dt_01 e) ⟨dt_in h16, ?_⟩
      by_cases c : pr i = b
      · have w : (fun s => decide (hd s = 1 ∧ pr s = b)) i = true := decide_eq_true ⟨e, c⟩
        rw [dt_cn_t (f := (fun s => decide (hd s = 1 ∧ pr s = b))) (n := i) w, ← dt_mk_t (f := (fun s => decide (hd s = 1 ∧ pr s = b))) (i := i) w] at g
        exact br_t c ⟨dt_in h16, nm_e (nm_r (nI_1 _) (nm_r (nI_1 i) g))⟩
      · have w : (fun s => decide (hd s = 1 ∧ pr s = b)) i = false := decide_eq_false (fun z => c z.2)
        rw [dt_cn_f (f := (fun s => decide (hd s = 1 ∧ pr s = b))) (n := i) w, ← dt_mk_f (f := (fun s => decide (hd s = 1 ∧ pr s = b))) (i := i) w] at g
        exact br_f c (nm_r (nI_1 i) g)
theorem dy_hand (hh : ∀ s, s < 16 → hd s = 0 ∨ hd s = 1) {a b : Int32} {post : Int32 → SY → Prop} (h : post (nI (dt_cn (fun s => decide (hd s = 1 ∧ pr s = b)) 16)) (md, hd, po, rg, dt_mk (fun s => decide (hd s = 1 ∧ pr s = b)) a pr 16, st, sz, mk, nm, go)) : wpY_hand post (md, hd, po, rg, pr, st, sz, mk, nm, go) b a := by
  have g := dy_hnd hh 16 0 rfl h
  rw [dt_mk_0] at g
  exact ⟨17, g⟩
theorem dy_walk {kp kq : Nat → Int32} {a : Int32} {post : Int32 → Prop} (hQ : dt_Q kp kq) (he : ∀ s, s < 16 → kp s ≠ -1 → pr s = kq s) : ∀ d i x, i + d = 16 → (x = -1 ∨ ∃ j, j < 16 ∧ x = nI j ∧ kp j ≠ -1) → post (dt_b (dt_bl kq a d x)) → wY_below_10 post a md hd po rg pr st sz mk nm go (d + 1) x (nI i) := by
  intro d
  induction d with
  | zero =>
    intro i x hi hx h
    have e : i = 16 := by omega
    subst e
    exact br_t dt_e16 h
  | succ d ih =>
    intro i x hi hx h
    have h16 : i < 16 := by omega
    refine br_f (dt_g16 h16) ?_
    rcases hx with e | ⟨j, hj, e, jk⟩
    · subst e
      rw [dt_bl_n] at h
      exact br_t (by decide) h
    · subst e
      rw [dt_bl_s kq a d hj] at h
      refine br_f (dt_ge0 hj) ?_
      by_cases c : nI j = a
      · rw [if_pos c] at h
        exact br_t c h
      · rw [if_neg c] at h
        refine br_f c ⟨dt_in hj, ?_⟩
        rw [dt_cl hj, he j hj jk]
        exact nm_e (nm_r (nI_1 i) (ih (i + 1) (kq j) (by omega) (hQ j hj) h))
theorem dy_below {kp kq : Nat → Int32} (hQ : dt_Q kp kq) (he : ∀ s, s < 16 → kp s ≠ -1 → pr s = kq s) {a : Int32} {s : Nat} (hs : s < 16) (hk : kp s ≠ -1) {post : Int32 → Prop} (h : post (dt_b (dt_bl kq a 16 (kq s)))) : wpY_below post (md, hd, po, rg, pr, st, sz, mk, nm, go) a (nI s) := by
  unfold wpY_below
  dsimp only
  rw [dt_cl hs, he s hs hk]
  exact ⟨dt_in hs, nm_e ⟨17, dy_walk hQ he 16 0 (kq s) rfl (hQ s hs) h⟩⟩
theorem dy_dsc {kp kq : Nat → Int32} (hh : ∀ s, s < 16 → (hd s = 0 ∧ kq s = -1) ∨ (hd s = 1 ∧ kp s ≠ -1)) (hQ : dt_Q kp kq) (he : ∀ s, s < 16 → kp s ≠ -1 → pr s = kq s) {a : Int32} {post : Int32 → Prop} (h : post (nI (dt_cn (fun s => dt_bl kq a 16 (kq s)) 16))) : ∀ d i, i + d = 16 → wY_descendants_14 post a md hd po rg pr st sz mk nm go (d + 1) (nI (dt_cn (fun s => dt_bl kq a 16 (kq s)) i)) (nI i) := by
  intro d
  induction d with
  | zero =>
    intro i hi
    have e : i = 16 := by omega
    subst e
    exact br_t dt_e16 h
  | succ d ih =>
    intro i hi
    have h16 : i < 16 := by omega
    have g := ih (i + 1) (by omega)
    refine br_f (dt_g16 h16) ⟨dt_in h16, ?_⟩
    rw [dt_cl h16]
    rcases hh i h16 with ⟨e, e2⟩ | ⟨e, e2⟩
    · have w : (fun s => dt_bl kq a 16 (kq s)) i = false := by
        show dt_bl kq a 16 (kq i) = false
        rw [e2]; exact dt_bl_n _ _ _
      rw [dt_cn_f (f := (fun s => dt_bl kq a 16 (kq s))) (n := i) w] at g
      exact br_t e (nm_r (nI_1 i) g)
    · refine br_f (dt_01 e) (dy_below hQ he h16 e2 ?_)
      cases c : dt_bl kq a 16 (kq i)
      · rw [dt_cn_f (f := (fun s => dt_bl kq a 16 (kq s))) (n := i) c] at g
        exact br_t rfl (nm_r (nI_1 i) g)
      · rw [dt_cn_t (f := (fun s => dt_bl kq a 16 (kq s))) (n := i) c] at g
        exact br_f dt_b1 (nm_r (nI_1 _) (nm_r (nI_1 i) g))
theorem dy_keys (hh : ∀ s, s < 16 → hd s = 0 ∨ hd s = 1) {post : Int32 → Prop} (h : post (nI (dt_cn (fun s => decide (hd s = 1)) 16))) : ∀ d i, i + d = 16 → wY_keys_4 post md hd po rg pr st sz mk nm go (d + 1) (nI (dt_cn (fun s => decide (hd s = 1)) i)) (nI i) := by
  intro d
  induction d with
  | zero =>
    intro i hi
    have e : i = 16 := by omega
    subst e
    exact br_t dt_e16 h
  | succ d ih =>
    intro i hi
    have h16 : i < 16 := by omega
    have g := ih (i + 1) (by omega)
    refine br_f (dt_g16 h16) ⟨dt_in h16, ?_⟩
    rw [dt_cl h16]
    rcases hh i h16 with e | e
    · have w : (fun s => decide (hd s = 1)) i = false := by
        show decide (hd i = 1) = false
        rw [e]; decide
      rw [dt_cn_f (f := (fun s => decide (hd s = 1))) (n := i) w] at g
      exact br_t e (nm_r (nI_1 i) g)
    · rw [dt_cn_t (f := (fun s => decide (hd s = 1))) (n := i) (decide_eq_true e)] at g
      exact br_f (dt_01 e) (nm_r (nI_1 _) (nm_r (nI_1 i) g))
theorem dy_rev57 {F : Nat → Bool} {kp' gg : Nat → Int32} (hg : ∀ s, s < 16 → gg s = dt_b (F s)) (hh : ∀ s, s < 16 → dt_mk F 0 hd 16 s = 0 ∨ dt_mk F 0 hd 16 s = 1) (hT : ∀ q, q < 16 → dt_ex (fun s => decide (dt_mk F 0 hd 16 s = 1 ∧ po s = nI q)) = dt_T kp' q) {post : Int32 → SY → Prop} (h : post (nI (dt_cn F 16)) (md, dt_mk F 0 hd 16, po, rg, pr, st, sz, dt_M kp' nm st sz mk, nm, gg)) : ∀ d i, i + d = 16 → wY_revoke_57 post md (d + 1) (nI (dt_cn F i)) (nI i) (dt_mk F 0 hd i) po rg pr st sz mk nm gg := by
  intro d
  induction d with
  | zero =>
    intro i hi
    have e : i = 16 := by omega
    subst e
    exact br_t dt_e16 (dy_settle hh hT h)
  | succ d ih =>
    intro i hi
    have h16 : i < 16 := by omega
    have g := ih (i + 1) (by omega)
    refine br_f (dt_g16 h16) ⟨dt_in h16, ?_⟩
    rw [dt_cl h16, hg i h16, dt_nb0]
    cases c : F i
    · rw [dt_cn_f c, ← dt_mk_f c] at g
      exact br_t rfl (nm_r (nI_1 i) g)
    · rw [dt_cn_t c, ← dt_mk_t c] at g
      exact br_f dt_b1 ⟨dt_in h16, nm_e (nm_r (nI_1 _) (nm_r (nI_1 i) g))⟩
theorem dy_rev12 {kp kq : Nat → Int32} (hh : ∀ s, s < 16 → (hd s = 0 ∧ kq s = -1) ∨ (hd s = 1 ∧ kp s ≠ -1)) (hQ : dt_Q kp kq) (he : ∀ s, s < 16 → kp s ≠ -1 → pr s = kq s) {a : Int32} {post : Int32 → SY → Prop} (h : wY_revoke_57 post md 17 0 0 hd po rg pr st sz mk nm (dt_fl (fun s => dt_bl kq a 16 (kq s)) go 16)) : ∀ d i, i + d = 16 → wY_revoke_12 post a md (d + 1) (nI i) hd po rg pr st sz mk nm (dt_fl (fun s => dt_bl kq a 16 (kq s)) go i) := by
  intro d
  induction d with
  | zero =>
    intro i hi
    have e : i = 16 := by omega
    subst e
    exact br_t dt_e16 ⟨17, h⟩
  | succ d ih =>
    intro i hi
    have h16 : i < 16 := by omega
    have g := ih (i + 1) (by omega)
    rw [← dt_fl_u] at g
    refine br_f (dt_g16 h16) ⟨dt_in h16, ?_⟩
    rw [dt_cl h16, dt_nb0, dt_nb1]
    rcases hh i h16 with ⟨e, e2⟩ | ⟨e, e2⟩
    · have w : dt_bl kq a 16 (kq i) = false := by
        rw [e2]; exact dt_bl_n _ _ _
      rw [w] at g
      exact br_t e ⟨dt_in h16, nm_e (nm_r (nI_1 i) g)⟩
    · refine br_f (dt_01 e) (dy_below hQ he h16 e2 ?_)
      cases c : dt_bl kq a 16 (kq i)
      · rw [c] at g
        exact br_t rfl ⟨dt_in h16, nm_e (nm_r (nI_1 i) g)⟩
      · rw [c] at g
        exact br_f dt_b1 ⟨dt_in h16, nm_e (nm_r (nI_1 i) g)⟩
end
end
section
/-! the owed relation and statements -/
def i_Rel (k : Nat) (u : SX) (v : SY) : Prop := ∃ (md : Int32) (kp kr kq pk nm st sz mk hd po rg pr go : Nat → Int32), u = (md, kp, kr, kq, pk, nm, st, sz, mk) ∧ v = (md, hd, po, rg, pr, st, sz, mk, nm, go) ∧ dt_R kp kr kq pk hd po rg pr
theorem i_up {k : Nat} {u : SX} {v : SY} (h : i_Rel k u v) : i_Rel (k + 4) u v := h
section
variable {md : Int32} {kp kr kq pk nm st sz mk hd po rg pr go : Nat → Int32}
theorem dt_J {k : Nat} (R : dt_R kp kr kq pk hd po rg pr) : i_Rel k (md, kp, kr, kq, pk, nm, st, sz, mk) (md, hd, po, rg, pr, st, sz, mk, nm, go) := ⟨md, kp, kr, kq, pk, nm, st, sz, mk, hd, po, rg, pr, go, rfl, rfl, R⟩
theorem dt_hh (R : dt_R kp kr kq pk hd po rg pr) : ∀ s, s < 16 → hd s = 0 ∨ hd s = 1 := by
  intro s hs
  rcases R.1 s hs with ⟨a1, a2, a3⟩ | ⟨a1, a2⟩
  · exact Or.inl a2
  · exact Or.inr a1
theorem dt_hh2 (R : dt_R kp kr kq pk hd po rg pr) : ∀ s, s < 16 → (hd s = 0 ∧ kq s = -1) ∨ (hd s = 1 ∧ kp s ≠ -1) := by
  intro s hs
  rcases R.1 s hs with ⟨a1, a2, a3⟩ | ⟨a1, ⟨m, hm, a2⟩, a3⟩
  · exact Or.inl ⟨a2, a3⟩
  · exact Or.inr ⟨a1, by rw [a2]; exact dt_n1 hm⟩
theorem dt_he (R : dt_R kp kr kq pk hd po rg pr) : ∀ s, s < 16 → kp s ≠ -1 → pr s = kq s := by
  intro s hs hk
  rcases R.1 s hs with ⟨a1, a2, a3⟩ | ⟨a1, ⟨m, hm, a2⟩, a3, a4, a5⟩
  · exact absurd a1 hk
  · exact a5
theorem dt_hq (R : dt_R kp kr kq pk hd po rg pr) : ∀ s, s < 16 → kq s = -1 ∨ ∃ j, j < 16 ∧ kq s = nI j := by
  intro s hs
  rcases R.2.2.1 s hs with w | ⟨m, hm, w, _⟩
  · exact Or.inl w
  · exact Or.inr ⟨m, hm, w⟩
theorem dt_hp (R : dt_R kp kr kq pk hd po rg pr) {j : Nat} (hj : j < 16) (h : hd j = 1) : ∃ p, p < 16 ∧ kp j = nI p ∧ po j = nI p ∧ rg j = kr j ∧ pr j = kq j := by
  rcases R.1 j hj with ⟨a1, a2, a3⟩ | ⟨a1, ⟨m, hm, a2⟩, a3, a4, a5⟩
  · rw [a2] at h
    exact absurd h (by decide)
  · exact ⟨m, hm, a2, a3.trans a2, a4, a5⟩
theorem dt_gate (R : dt_R kp kr kq pk hd po rg pr) (x : Int32) : (∃ j, j < 16 ∧ x = nI j ∧ hd j = 1 ∧ kp j ≠ -1) ∨ ((∀ post : Int32 → Prop, post 0 → wpX_isHeld post (md, kp, kr, kq, pk, nm, st, sz, mk) x) ∧ (∀ post : Int32 → Prop, post 1 → wpY_missing post (md, hd, po, rg, pr, st, sz, mk, nm, go) x)) := by
  rcases dt_ix x with h | ⟨j, hj, e⟩
  · exact Or.inr ⟨fun _ z => dx_held_o h z, fun _ z => dy_miss_o h z⟩
  · rcases R.1 j hj with ⟨a1, a2, a3⟩ | ⟨a1, ⟨m, hm, a2⟩, a3⟩
    · rw [e]
      exact Or.inr ⟨fun _ z => dx_held_f hj a1 z, fun _ z => dy_miss_t hj a2 z⟩
    · exact Or.inl ⟨j, hj, e, a1, by rw [a2]; exact dt_n1 hm⟩
theorem dt_gate2 (R : dt_R kp kr kq pk hd po rg pr) (x : Int32) : (∃ j, j < 16 ∧ x = nI j ∧ hd j = 0 ∧ kp j = -1) ∨ ((∀ post : Int32 → Prop, post 0 → wpX_isFree post (md, kp, kr, kq, pk, nm, st, sz, mk) x) ∧ (∀ post : Int32 → Prop, post 1 → wpY_taken post (md, hd, po, rg, pr, st, sz, mk, nm, go) x)) := by
  rcases dt_ix x with h | ⟨j, hj, e⟩
  · exact Or.inr ⟨fun _ z => dx_free_o h z, fun _ z => dy_tak_o h z⟩
  · rcases R.1 j hj with ⟨a1, a2, a3⟩ | ⟨a1, ⟨m, hm, a2⟩, a3⟩
    · exact Or.inl ⟨j, hj, e, a2, a1⟩
    · have n1 : kp j ≠ -1 := by rw [a2]; exact dt_n1 hm
      rw [e]
      exact Or.inr ⟨fun _ z => dx_free_f hj n1 z, fun _ z => dy_tak_t hj a1 z⟩
theorem dy_spl {T : Nat → Bool} (hh : ∀ s, s < 16 → hd s = 0 ∨ hd s = 1) (hT : ∀ q, q < 16 → dt_ex (fun s => decide (hd s = 1 ∧ po s = nI q)) = T q) {x1 x2 x3 x4 : Int32} {post : Int32 → SY → Prop} : ∀ d i, i + d = 15 → wY_split_77 post x1 x2 x3 x4 (nI (dt_lf T d i)) md hd po rg pr st sz mk nm go → wY_split_55 post x1 x2 x3 x4 md hd po rg pr st sz mk nm go (d + 1) (nI i) := by
  intro d
  induction d with
  | zero =>
    intro i hi h
    have e : i = 15 := by omega
    subst e
    exact br_t dt_e15 h
  | succ d ih =>
    intro i hi h
    have h16 : i < 16 := by omega
    refine br_f (dt_g15 (by omega)) (dy_thereW hh ?_)
    rw [hT i h16]
    cases c : T i
    · rw [dt_lf_f c] at h
      exact br_t rfl h
    · rw [dt_lf_t c] at h
      exact br_f dt_b1 (nm_r (nI_1 i) (ih (i + 1) (by omega) h))
theorem dx_revW {F : Nat → Bool} {y : Int32} (hy : ∀ k, k < 32 → bt y k = (decide (k < 16) && F k)) (hK : ∀ s, s < 16 → F s = true → ∃ p, p < 16 ∧ kp s = nI p) (hC : dt_C kp pk) {post : Int32 → SX → Prop} (h : ∀ pk', dt_C (dt_mk F (-1) kp 16) pk' → post (nI (dt_cn F 16)) (md, dt_mk F (-1) kp 16, kr, dt_mk F (-1) kq 16, pk', nm, st, sz, dt_M (dt_mk F (-1) kp 16) nm st sz mk)) : ∃ n, wX_revoke_21 post y n 0 0 md kp kr kq pk nm st sz mk := by
  have hC0 : dt_C (dt_mk F (-1) kp 0) pk := by rw [dt_mk_0]; exact hC
  have g := dx_rev hy hK h 16 0 pk rfl hC0
  rw [dt_mk_0, dt_mk_0] at g
  exact ⟨17, g⟩
theorem dy_rev57W {F : Nat → Bool} {kp' gg : Nat → Int32} (hg : ∀ s, s < 16 → gg s = dt_b (F s)) (hh : ∀ s, s < 16 → dt_mk F 0 hd 16 s = 0 ∨ dt_mk F 0 hd 16 s = 1) (hT : ∀ q, q < 16 → dt_ex (fun s => decide (dt_mk F 0 hd 16 s = 1 ∧ po s = nI q)) = dt_T kp' q) {post : Int32 → SY → Prop} (h : post (nI (dt_cn F 16)) (md, dt_mk F 0 hd 16, po, rg, pr, st, sz, dt_M kp' nm st sz mk, nm, gg)) : wY_revoke_57 post md 17 0 0 hd po rg pr st sz mk nm gg := by
  have g := dy_rev57 hg hh hT h 16 0 rfl
  rw [dt_mk_0] at g
  exact g
theorem dy_rev12W (R : dt_R kp kr kq pk hd po rg pr) {a : Int32} {post : Int32 → SY → Prop} (h : wY_revoke_57 post md 17 0 0 hd po rg pr st sz mk nm (dt_fl (fun s => dt_bl kq a 16 (kq s)) go 16)) : ∃ n, wY_revoke_12 post a md n 0 hd po rg pr st sz mk nm go := by
  have g := dy_rev12 (dt_hh2 R) R.2.2.1 (dt_he R) h 16 0 rfl
  rw [dt_fl_0] at g
  exact ⟨17, g⟩
end
end
section
/-! the owed statements of the methods that only read -/
theorem i_vc_piece {k : Nat} {u : SX} {v : SY} (I : i_Rel k u v) (hk : k + 4 ≤ 2048) (v1 : Int32) : wpX_piece (fun r => wpY_piece (fun r' => r' = r ∧ i_Rel (k + 4) u v) v v1) u v1 := by
  obtain ⟨md, kp, kr, kq, pk, nm, st, sz, mk, hd, po, rg, pr, go, rfl, rfl, R⟩ := I
  unfold wpX_piece
  dsimp only
  rcases dt_gate R v1 with ⟨j, hj, rfl, a1, a2⟩ | ⟨gX, gY⟩
  · obtain ⟨p, hp, e1, e2, e3, e4⟩ := dt_hp R hj a1
    refine dx_held_t hj a2 (br_f dt_10 ⟨dt_in hj, ?_⟩)
    rw [dt_cl hj, e1]
    refine nm_e ⟨dt_in hp, dt_in hp, ?_⟩
    unfold wpY_piece
    dsimp only
    refine dy_miss_f hj a1 (br_t rfl ⟨dt_in hj, ?_⟩)
    rw [dt_cl hj, e2]
    exact ⟨dt_in hp, dt_in hj, dt_in hp, rfl, dt_J R⟩
  · refine gX _ (br_t rfl ?_)
    unfold wpY_piece
    dsimp only
    exact gY _ (br_f dt_10 ⟨rfl, dt_J R⟩)
theorem i_vc_rights {k : Nat} {u : SX} {v : SY} (I : i_Rel k u v) (hk : k + 4 ≤ 2048) (v1 : Int32) : wpX_rights (fun r => wpY_rights (fun r' => r' = r ∧ i_Rel (k + 4) u v) v v1) u v1 := by
  obtain ⟨md, kp, kr, kq, pk, nm, st, sz, mk, hd, po, rg, pr, go, rfl, rfl, R⟩ := I
  unfold wpX_rights
  dsimp only
  rcases dt_gate R v1 with ⟨j, hj, rfl, a1, a2⟩ | ⟨gX, gY⟩
  · obtain ⟨p, hp, e1, e2, e3, e4⟩ := dt_hp R hj a1
    refine dx_held_t hj a2 (br_f dt_10 ⟨dt_in hj, ?_⟩)
    rw [dt_cl hj]
    unfold wpY_rights
    dsimp only
    refine dy_miss_f hj a1 (br_t rfl ⟨dt_in hj, ?_⟩)
    rw [dt_cl hj, e3]
    exact ⟨rfl, dt_J R⟩
  · refine gX _ (br_t rfl ?_)
    unfold wpY_rights
    dsimp only
    exact gY _ (br_f dt_10 ⟨rfl, dt_J R⟩)
theorem i_vc_room {k : Nat} {u : SX} {v : SY} (I : i_Rel k u v) (hk : k + 4 ≤ 2048) (v1 : Int32) : wpX_room (fun r => wpY_room (fun r' => r' = r ∧ i_Rel (k + 4) u v) v v1) u v1 := by
  obtain ⟨md, kp, kr, kq, pk, nm, st, sz, mk, hd, po, rg, pr, go, rfl, rfl, R⟩ := I
  unfold wpX_room
  dsimp only
  rcases dt_gate R v1 with ⟨j, hj, rfl, a1, a2⟩ | ⟨gX, gY⟩
  · obtain ⟨p, hp, e1, e2, e3, e4⟩ := dt_hp R hj a1
    refine dx_held_t hj a2 (br_f dt_10 ⟨dt_in hj, ?_⟩)
    rw [dt_cl hj, e1]
    refine nm_e ⟨dt_in hp, dt_in hp, ?_⟩
    unfold wpY_room
    dsimp only
    refine dy_miss_f hj a1 (br_t rfl ⟨dt_in hj, ?_⟩)
    rw [dt_cl hj, e2]
    exact ⟨dt_in hp, dt_in hj, dt_in hp, rfl, dt_J R⟩
  · refine gX _ (br_t rfl ?_)
    unfold wpY_room
    dsimp only
    exact gY _ (br_f dt_10 ⟨rfl, dt_J R⟩)
theorem i_vc_descends {k : Nat} {u : SX} {v : SY} (I : i_Rel k u v) (hk : k + 4 ≤ 2048) (v1 : Int32) (v2 : Int32) : wpX_descends (fun r => wpY_descends (fun r' => r' = r ∧ i_Rel (k + 4) u v) v v1 v2) u v1 v2 := by
  obtain ⟨md, kp, kr, kq, pk, nm, st, sz, mk, hd, po, rg, pr, go, rfl, rfl, R⟩ := I
  unfold wpX_descends
  dsimp only
  rcases dt_gate R v1 with ⟨a, ha, rfl, a1, a2⟩ | ⟨gX, gY⟩
  · refine dx_held_t ha a2 (br_f dt_10 ?_)
    rcases dt_gate R v2 with ⟨b, hb, rfl, b1, b2⟩ | ⟨gX, gY⟩
    · refine dx_held_t hb b2 (br_f dt_10 (dx_comes (dt_hq R) hb ?_))
      cases c : dt_bl kq (nI a) 16 (kq b)
      · refine br_t rfl ?_
        unfold wpY_descends
        dsimp only
        refine dy_miss_f ha a1 (br_t rfl (dy_miss_f hb b1 (br_t rfl (dy_below R.2.2.1 (dt_he R) hb b2 ?_))))
        rw [c]
        exact br_t rfl ⟨rfl, dt_J R⟩
      · refine br_f dt_b1 ?_
        unfold wpY_descends
        dsimp only
        refine dy_miss_f ha a1 (br_t rfl (dy_miss_f hb b1 (br_t rfl (dy_below R.2.2.1 (dt_he R) hb b2 ?_))))
        rw [c]
        exact br_f dt_b1 ⟨rfl, dt_J R⟩
    · refine gX _ (br_t rfl ?_)
      unfold wpY_descends
      dsimp only
      exact dy_miss_f ha a1 (br_t rfl (gY _ (br_f dt_10 ⟨rfl, dt_J R⟩)))
  · refine gX _ (br_t rfl ?_)
    unfold wpY_descends
    dsimp only
    exact gY _ (br_f dt_10 ⟨rfl, dt_J R⟩)
theorem i_vc_descendants {k : Nat} {u : SX} {v : SY} (I : i_Rel k u v) (hk : k + 4 ≤ 2048) (v1 : Int32) : wpX_descendants (fun r => wpY_descendants (fun r' => r' = r ∧ i_Rel (k + 4) u v) v v1) u v1 := by
  obtain ⟨md, kp, kr, kq, pk, nm, st, sz, mk, hd, po, rg, pr, go, rfl, rfl, R⟩ := I
  unfold wpX_descendants
  dsimp only
  rcases dt_gate R v1 with ⟨a, ha, rfl, a1, a2⟩ | ⟨gX, gY⟩
  · refine dx_held_t ha a2 (br_f dt_10 (dx_dset (dt_hq R) (fun y hy => ⟨17, dx_dsc hy ?_ 16 0 rfl⟩)))
    unfold wpY_descendants
    dsimp only
    refine dy_miss_f ha a1 (br_t rfl ⟨17, dy_dsc (dt_hh2 R) R.2.2.1 (dt_he R) ?_ 16 0 rfl⟩)
    exact ⟨rfl, dt_J R⟩
  · refine gX _ (br_t rfl ?_)
    unfold wpY_descendants
    dsimp only
    exact gY _ (br_f dt_10 ⟨rfl, dt_J R⟩)
theorem i_vc_keys {k : Nat} {u : SX} {v : SY} (I : i_Rel k u v) (hk : k + 4 ≤ 2048) : wpX_keys (fun r => wpY_keys (fun r' => r' = r ∧ i_Rel (k + 4) u v) v) u := by
  obtain ⟨md, kp, kr, kq, pk, nm, st, sz, mk, hd, po, rg, pr, go, rfl, rfl, R⟩ := I
  refine ⟨17, dx_keys ?_ 16 0 rfl⟩
  refine ⟨17, dy_keys (dt_hh R) ?_ 16 0 rfl⟩
  exact ⟨congrArg nI (dt_cn_c 16 (dt_held R)).symm, dt_J R⟩
end
section
/-! the owed statements of the constructors and of the methods that change the state -/
theorem dx_ini {post : SX → Prop} (h : wX_init_70 post 0 1 (nI 16) (dt_mk (fun _ => true) (-1) (fun _ => (0 : Int32)) 16) (fun _ => (0 : Int32)) (dt_mk (fun _ => true) (-1) (fun _ => (0 : Int32)) 16) (fun _ => (0 : Int32)) (fun _ => (0 : Int32)) (fun _ => (0 : Int32)) (fun _ => (0 : Int32)) (fun _ => (0 : Int32))) : ∀ d i, i + d = 16 → wX_init_70 post 0 (d + 1) (nI i) (dt_mk (fun _ => true) (-1) (fun _ => (0 : Int32)) i) (fun _ => (0 : Int32)) (dt_mk (fun _ => true) (-1) (fun _ => (0 : Int32)) i) (fun _ => (0 : Int32)) (fun _ => (0 : Int32)) (fun _ => (0 : Int32)) (fun _ => (0 : Int32)) (fun _ => (0 : Int32)) := by
  intro d
  induction d with
  | zero =>
    intro i hi
    have e : i = 16 := by omega
    subst e
    exact h
  | succ d ih =>
    intro i hi
    have h16 : i < 16 := by omega
    have g := ih (i + 1) (by omega)
    rw [← dt_mk_t (f := fun _ => true) (i := i) rfl] at g
    refine br_f (dt_g16 h16) ⟨dt_in h16, ?_⟩
    rw [dt_cl h16]
    exact nm_e ⟨dt_in h16, nm_e (nm_r (nI_1 i) g)⟩
theorem dt_m0 : ∀ s, s < 16 → (dt_mk (fun _ => true) (-1) (fun _ => (0 : Int32)) 16) s = -1 := fun _ hs => dt_mk_y hs rfl
theorem dt_R_i : dt_R (dt_mk (fun _ => true) (-1) (fun _ => (0 : Int32)) 16) (fun _ => (0 : Int32)) (dt_mk (fun _ => true) (-1) (fun _ => (0 : Int32)) 16) (fun _ => (0 : Int32)) (fun _ => (0 : Int32)) (fun _ => (0 : Int32)) (fun _ => (0 : Int32)) (fun _ => (0 : Int32)) := dt_R_0 dt_m0 dt_m0
theorem dt_lf_i : dt_lf (dt_T (dt_mk (fun _ => true) (-1) (fun _ => (0 : Int32)) 16)) 15 0 = 0 := by
  refine dt_lf_f (dt_ex_f (fun s hs => ?_))
  show decide ((dt_mk (fun _ => true) (-1) (fun _ => (0 : Int32)) 16) s = nI 0) = false
  rw [dt_m0 s hs]
  exact decide_eq_false (dt_1n (by decide))
theorem i_vc0 : wpX_init (fun u => wpY_init (fun v => i_Rel 0 u v)) := by
  have g := dx_ini (post := fun u => wpY_init (fun v => i_Rel 0 u v)) ?_ 16 0 rfl
  · rw [dt_mk_0] at g
    exact ⟨17, g⟩
  · refine br_t dt_e16 (dx_make dt_R_i.2.1 ?_)
    rw [dt_lf_i]
    refine dx_put (t := 0) (p := 0) (by decide) (by decide) ?_
    unfold wpY_init
    rw [dt_nb1]
    refine nm_e (nm_e (nm_e (nm_e ?_)))
    have z : upd (fun _ => (0 : Int32)) 0 0 = (fun _ => (0 : Int32)) := dt_upd_same rfl
    have R := dt_R_put (t := 0) (p := 0) (x := 7) (y := -1) dt_R_i (by decide) (by decide) (dt_m0 0 (by decide)) (Or.inl rfl)
    rw [z]
    have z2 : upd (fun _ => (0 : Int32)) 0 (nI 0) = (fun _ => (0 : Int32)) := dt_upd_same nI_0.symm
    rw [z2] at R
    exact dt_J R
theorem i_vc_copy {k : Nat} {u : SX} {v : SY} (I : i_Rel k u v) (hk : k + 4 ≤ 2048) (v1 : Int32) (v2 : Int32) (v3 : Int32) : wpX_copy (fun r u' => wpY_copy (fun r' v' => r' = r ∧ i_Rel (k + 4) u' v') v v1 v2 v3) u v1 v2 v3 := by
  obtain ⟨md, kp, kr, kq, pk, nm, st, sz, mk, hd, po, rg, pr, go, rfl, rfl, R⟩ := I
  unfold wpX_copy
  dsimp only
  rcases dt_gate R v1 with ⟨f, hf, rfl, f1, f2⟩ | ⟨gX, gY⟩
  · refine dx_held_t hf f2 (br_f dt_10 ?_)
    rcases dt_gate2 R v2 with ⟨t, ht, rfl, t1, t2⟩ | ⟨gX, gY⟩
    · obtain ⟨p, hp, e1, e2, e3, e4⟩ := dt_hp R hf f1
      refine dx_free_t ht t2 (br_f dt_10 ⟨dt_in hf, dt_in hf, ?_⟩)
      rw [dt_cl hf, e1]
      refine dx_put ht hp ⟨dt_in ht, ?_⟩
      dsimp only
      rw [dt_cl ht, pk_us]
      unfold wpY_copy
      dsimp only
      refine dy_miss_f hf f1 (br_t rfl (dy_tak_f ht t1 (br_t rfl ⟨dt_in hf, dt_in hf, ?_⟩)))
      rw [dt_cl hf, e2, e3]
      refine dy_hold ht ⟨dt_in ht, ?_⟩
      dsimp only
      rw [dt_cl ht, pk_us]
      exact ⟨rfl, dt_J (dt_R_put R ht hp t2 (Or.inr ⟨f, hf, rfl, f2⟩))⟩
    · refine gX _ (br_t rfl ?_)
      unfold wpY_copy
      dsimp only
      exact dy_miss_f hf f1 (br_t rfl (gY _ (br_f dt_10 ⟨rfl, dt_J R⟩)))
  · refine gX _ (br_t rfl ?_)
    unfold wpY_copy
    dsimp only
    exact gY _ (br_f dt_10 ⟨rfl, dt_J R⟩)
theorem i_vc_split {k : Nat} {u : SX} {v : SY} (I : i_Rel k u v) (hk : k + 4 ≤ 2048) (v1 : Int32) (v2 : Int32) (v3 : Int32) : wpX_split (fun r u' => wpY_split (fun r' v' => r' = r ∧ i_Rel (k + 4) u' v') v v1 v2 v3) u v1 v2 v3 := by
  obtain ⟨md, kp, kr, kq, pk, nm, st, sz, mk, hd, po, rg, pr, go, rfl, rfl, R⟩ := I
  unfold wpX_split
  dsimp only
  rcases dt_gate R v1 with ⟨f, hf, rfl, f1, f2⟩ | ⟨gX, gY⟩
  · refine dx_held_t hf f2 (br_f dt_10 ?_)
    rcases dt_gate2 R v2 with ⟨t, ht, rfl, t1, t2⟩ | ⟨gX, gY⟩
    · obtain ⟨p, hp, e1, e2, e3, e4⟩ := dt_hp R hf f1
      refine dx_free_t ht t2 (br_f dt_10 ⟨dt_in hf, ?_⟩)
      rw [dt_cl hf, e1]
      refine nm_e ?_
      by_cases c1 : v3 < 1
      · refine br_t c1 ?_
        unfold wpY_split
        dsimp only
        refine dy_miss_f hf f1 (br_t rfl (dy_tak_f ht t1 (br_t rfl ⟨dt_in hf, ?_⟩)))
        rw [dt_cl hf, e2]
        exact nm_e (br_t c1 ⟨rfl, dt_J R⟩)
      · refine br_f c1 ⟨dt_in hp, dt_in hp, ?_⟩
        rw [dt_cl hp]
        by_cases c2 : v3 ≤ sz p - mk p
        · obtain ⟨hq, hne⟩ := dt_place ht t2
          have hpq : p ≠ dt_lf (dt_T kp) 15 0 := fun z => hne f hf (by rw [e1, ← z])
          refine br_t c2 ⟨dt_in hp, dt_in hp, nm_e ⟨dt_in hp, dt_in hp, nm_e (dx_make R.2.1 ⟨dt_in hf, ?_⟩)⟩⟩
          dsimp only
          refine dx_put ht hq ?_
          unfold wpY_split
          dsimp only
          refine dy_miss_f hf f1 (br_t rfl (dy_tak_f ht t1 (br_t rfl ⟨dt_in hf, ?_⟩)))
          rw [dt_cl hf, e2]
          refine nm_e (br_f c1 ⟨dt_in hp, dt_in hp, ?_⟩)
          rw [dt_cl hp]
          refine br_t c2 ⟨16, dy_spl (dt_hh R) (fun q hq => dt_T_y R hq) 15 0 rfl ?_⟩
          unfold wY_split_77
          rw [dt_cl hp, dt_cl hq, dt_cl hf, e3]
          refine ⟨dt_in hp, dt_in hp, dt_in hq, nm_e ⟨dt_in hq, nm_e ⟨dt_in hq, nm_e ⟨dt_in hq, nm_e (nm_e ⟨dt_in hp, dt_in hp, nm_e ⟨dt_in hf, dy_hold ht ⟨dt_in hq, ?_⟩⟩⟩)⟩⟩⟩⟩
          dsimp only
          rw [pk_us, pk_un hpq, dt_upd_c hpq]
          exact ⟨rfl, dt_J (dt_R_put R ht hq t2 (Or.inr ⟨f, hf, rfl, f2⟩))⟩
        · refine br_f c2 ?_
          unfold wpY_split
          dsimp only
          refine dy_miss_f hf f1 (br_t rfl (dy_tak_f ht t1 (br_t rfl ⟨dt_in hf, ?_⟩)))
          rw [dt_cl hf, e2]
          refine nm_e (br_f c1 ⟨dt_in hp, dt_in hp, ?_⟩)
          rw [dt_cl hp]
          exact br_f c2 ⟨rfl, dt_J R⟩
    · refine gX _ (br_t rfl ?_)
      unfold wpY_split
      dsimp only
      exact dy_miss_f hf f1 (br_t rfl (gY _ (br_f dt_10 ⟨rfl, dt_J R⟩)))
  · refine gX _ (br_t rfl ?_)
    unfold wpY_split
    dsimp only
    exact gY _ (br_f dt_10 ⟨rfl, dt_J R⟩)
theorem i_vc_move {k : Nat} {u : SX} {v : SY} (I : i_Rel k u v) (hk : k + 4 ≤ 2048) (v1 : Int32) (v2 : Int32) : wpX_move (fun r u' => wpY_move (fun r' v' => r' = r ∧ i_Rel (k + 4) u' v') v v1 v2) u v1 v2 := by
  obtain ⟨md, kp, kr, kq, pk, nm, st, sz, mk, hd, po, rg, pr, go, rfl, rfl, R⟩ := I
  unfold wpX_move
  dsimp only
  rcases dt_gate R v1 with ⟨f, hf, rfl, f1, f2⟩ | ⟨gX, gY⟩
  · refine dx_held_t hf f2 (br_f dt_10 ?_)
    rcases dt_gate2 R v2 with ⟨t, ht, rfl, t1, t2⟩ | ⟨gX, gY⟩
    · obtain ⟨p, hp, e1, e2, e3, e4⟩ := dt_hp R hf f1
      have ft : f ≠ t := fun z => f2 (by rw [z]; exact t2)
      have R1 := dt_R_put (x := kr f) (y := kq f) R ht hp t2 (R.2.2.1 f hf)
      have n1 : upd kp t (nI p) t ≠ -1 := by rw [pk_us]; exact dt_n1 hp
      have R2 := dt_R_hand (f := f) (p := p) (a := nI t) (x := upd pk p (pk p + 1) p - 1) R1 hf hp ((pk_un ft).trans e1) (fun n z => by rw [z, nI_pred]) (Or.inr ⟨t, ht, rfl, ft.symm, n1⟩) (dt_A_mov R.2.2.2 R.2.2.1 hf ht t2)
      refine dx_free_t ht t2 (br_f dt_10 ⟨dt_in hf, dt_in hf, dt_in hf, ?_⟩)
      rw [dt_cl hf, e1]
      refine dx_put ht hp (dx_change (dx_drop hf hp ((pk_un ft).trans e1) ?_))
      unfold wpY_move
      dsimp only
      refine dy_miss_f hf f1 (br_t rfl (dy_tak_f ht t1 (br_t rfl ⟨dt_in hf, dt_in hf, dt_in hf, ?_⟩)))
      rw [dt_cl hf, e2, e3, e4]
      refine dy_hold ht ⟨dt_in hf, ?_⟩
      rw [dt_nb0]
      exact nm_e (dy_hand (dt_hh R2) ⟨rfl, dt_J R2⟩)
    · refine gX _ (br_t rfl ?_)
      unfold wpY_move
      dsimp only
      exact dy_miss_f hf f1 (br_t rfl (gY _ (br_f dt_10 ⟨rfl, dt_J R⟩)))
  · refine gX _ (br_t rfl ?_)
    unfold wpY_move
    dsimp only
    exact gY _ (br_f dt_10 ⟨rfl, dt_J R⟩)
theorem i_vc_delete {k : Nat} {u : SX} {v : SY} (I : i_Rel k u v) (hk : k + 4 ≤ 2048) (v1 : Int32) : wpX_delete (fun r u' => wpY_delete (fun r' v' => r' = r ∧ i_Rel (k + 4) u' v') v v1) u v1 := by
  obtain ⟨md, kp, kr, kq, pk, nm, st, sz, mk, hd, po, rg, pr, go, rfl, rfl, R⟩ := I
  unfold wpX_delete
  dsimp only
  rcases dt_gate R v1 with ⟨f, hf, rfl, f1, f2⟩ | ⟨gX, gY⟩
  · obtain ⟨p, hp, e1, e2, e3, e4⟩ := dt_hp R hf f1
    have ha : kq f = -1 ∨ ∃ j, j < 16 ∧ kq f = nI j ∧ j ≠ f ∧ kp j ≠ -1 := by
      rcases R.2.2.1 f hf with w | ⟨j, hj, w, jk⟩
      · exact Or.inl w
      · exact Or.inr ⟨j, hj, w, fun z => dt_noself R.2.2.2 hf (by rw [w, z]), jk⟩
    have R2 := dt_R_hand (f := f) (p := p) (a := kq f) (x := pk p - 1) R hf hp e1 (fun n z => by rw [z, nI_pred]) ha (dt_A_del R.2.2.2 hf)
    refine dx_held_t hf f2 (br_f dt_10 ⟨dt_in hf, ?_⟩)
    rw [dt_cl hf]
    refine dx_change (dx_drop hf hp e1 (dx_take R2.2.1 ?_))
    unfold wpY_delete
    dsimp only
    refine dy_miss_f hf f1 (br_t rfl ⟨dt_in hf, ?_⟩)
    rw [dt_cl hf, dt_nb0, e4]
    refine nm_e ⟨dt_in hf, dy_hand (dt_hh R2) (dy_settle (dt_hh R2) (fun q hq => dt_T_y R2 hq) ?_)⟩
    exact ⟨congrArg nI (dt_cn_c 16 (dt_hand_n R hf)).symm, dt_J R2⟩
  · refine gX _ (br_t rfl ?_)
    unfold wpY_delete
    dsimp only
    exact gY _ (br_f dt_10 ⟨rfl, dt_J R⟩)
theorem i_vc_revoke {k : Nat} {u : SX} {v : SY} (I : i_Rel k u v) (hk : k + 4 ≤ 2048) (v1 : Int32) : wpX_revoke (fun r u' => wpY_revoke (fun r' v' => r' = r ∧ i_Rel (k + 4) u' v') v v1) u v1 := by
  obtain ⟨md, kp, kr, kq, pk, nm, st, sz, mk, hd, po, rg, pr, go, rfl, rfl, R⟩ := I
  unfold wpX_revoke
  dsimp only
  rcases dt_gate R v1 with ⟨f, hf, rfl, f1, f2⟩ | ⟨gX, gY⟩
  · have hK : ∀ s, s < 16 → (fun s => dt_bl kq (nI f) 16 (kq s)) s = true → ∃ p, p < 16 ∧ kp s = nI p := by
      intro s hs h
      rcases R.1 s hs with ⟨a1, a2, a3⟩ | ⟨a1, a2, a3⟩
      · have h2 : dt_bl kq (nI f) 16 (kq s) = true := h
        rw [a3, dt_bl_n] at h2
        exact absurd h2 (by decide)
      · exact a2
    refine dx_held_t hf f2 (br_f dt_10 (dx_dset (dt_hq R) (fun y hy => dx_revW hy hK R.2.1 (fun pk' hC => ?_))))
    have R2 := dt_R_rev R (nI f) hC
    unfold wpY_revoke
    dsimp only
    refine dy_miss_f hf f1 (br_t rfl (dy_rev12W R (dy_rev57W (fun s hs => if_pos hs) (dt_hh R2) (fun q hq => dt_T_y R2 hq) ?_)))
    exact ⟨rfl, dt_J R2⟩
  · refine gX _ (br_t rfl ?_)
    unfold wpY_revoke
    dsimp only
    exact gY _ (br_f dt_10 ⟨rfl, dt_J R⟩)
end
