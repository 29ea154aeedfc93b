/-! the owed relation and statements -/
def i_Rel (k : Nat) (u : SX) (v : SY) : Prop := ∃ (md : Int32) (kp kr kq pk nm st sz mk hd po rg pr go : Nat → Int32), u = (md, kp, kr, kq, pk, nm, st, sz, mk) ∧ v = (md, hd, po, rg, pr, st, sz, mk, nm, go) ∧ dt_R kp kr kq pk hd po rg pr
theorem i_up {k : Nat} {u : SX} {v : SY} (h : i_Rel k u v) : i_Rel (k + 4) u v := h
section
variable {md : Int32} {kp kr kq pk nm st sz mk hd po rg pr go : Nat → Int32}
theorem dt_J {k : Nat} (R : dt_R kp kr kq pk hd po rg pr) : i_Rel k (md, kp, kr, kq, pk, nm, st, sz, mk) (md, hd, po, rg, pr, st, sz, mk, nm, go) := ⟨md, kp, kr, kq, pk, nm, st, sz, mk, hd, po, rg, pr, go, rfl, rfl, R⟩
theorem dt_hh (R : dt_R kp kr kq pk hd po rg pr) : ∀ s, s < 16 → hd s = 0 ∨ hd s = 1 := by
  intro s hs
  rcases R.1 s hs with ⟨a1, a2, a3⟩ | ⟨a1, a2⟩
  · exact Or.inl a2
  · exact Or.inr a1
theorem dt_hh2 (R : dt_R kp kr kq pk hd po rg pr) : ∀ s, s < 16 → (hd s = 0 ∧ kq s = -1) ∨ (hd s = 1 ∧ kp s ≠ -1) := by
  intro s hs
  rcases R.1 s hs with ⟨a1, a2, a3⟩ | ⟨a1, ⟨m, hm, a2⟩, a3⟩
  · exact Or.inl ⟨a2, a3⟩
  · exact Or.inr ⟨a1, by rw [a2]; exact dt_n1 hm⟩
theorem dt_he (R : dt_R kp kr kq pk hd po rg pr) : ∀ s, s < 16 → kp s ≠ -1 → pr s = kq s := by
  intro s hs hk
  rcases R.1 s hs with ⟨a1, a2, a3⟩ | ⟨a1, ⟨m, hm, a2⟩, a3, a4, a5⟩
  · exact absurd a1 hk
  · exact a5
theorem dt_hq (R : dt_R kp kr kq pk hd po rg pr) : ∀ s, s < 16 → kq s = -1 ∨ ∃ j, j < 16 ∧ kq s = nI j := by
  intro s hs
  rcases R.2.2.1 s hs with w | ⟨m, hm, w, _⟩
  · exact Or.inl w
  · exact Or.inr ⟨m, hm, w⟩
theorem dt_hp (R : dt_R kp kr kq pk hd po rg pr) {j : Nat} (hj : j < 16) (h : hd j = 1) : ∃ p, p < 16 ∧ kp j = nI p ∧ po j = nI p ∧ rg j = kr j ∧ pr j = kq j := by
  rcases R.1 j hj with ⟨a1, a2, a3⟩ | ⟨a1, ⟨m, hm, a2⟩, a3, a4, a5⟩
  · rw [a2] at h
    exact absurd h (by decide)
  · exact ⟨m, hm, a2, a3.trans a2, a4, a5⟩
theorem dt_gate (R : dt_R kp kr kq pk hd po rg pr) (x : Int32) : (∃ j, j < 16 ∧ x = nI j ∧ hd j = 1 ∧ kp j ≠ -1) ∨ ((∀ post : Int32 → Prop, post 0 → wpX_isHeld post (md, kp, kr, kq, pk, nm, st, sz, mk) x) ∧ (∀ post : Int32 → Prop, post 1 → wpY_missing post (md, hd, po, rg, pr, st, sz, mk, nm, go) x)) := by
  rcases dt_ix x with h | ⟨j, hj, e⟩
  · exact Or.inr ⟨fun _ z => dx_held_o h z, fun _ z => dy_miss_o h z⟩
  · rcases R.1 j hj with ⟨a1, a2, a3⟩ | ⟨a1, ⟨m, hm, a2⟩, a3⟩
    · rw [e]
      exact Or.inr ⟨fun _ z => dx_held_f hj a1 z, fun _ z => dy_miss_t hj a2 z⟩
    · exact Or.inl ⟨j, hj, e, a1, by rw [a2]; exact dt_n1 hm⟩
theorem dt_gate2 (R : dt_R kp kr kq pk hd po rg pr) (x : Int32) : (∃ j, j < 16 ∧ x = nI j ∧ hd j = 0 ∧ kp j = -1) ∨ ((∀ post : Int32 → Prop, post 0 → wpX_isFree post (md, kp, kr, kq, pk, nm, st, sz, mk) x) ∧ (∀ post : Int32 → Prop, post 1 → wpY_taken post (md, hd, po, rg, pr, st, sz, mk, nm, go) x)) := by
  rcases dt_ix x with h | ⟨j, hj, e⟩
  · exact Or.inr ⟨fun _ z => dx_free_o h z, fun _ z => dy_tak_o h z⟩
  · rcases R.1 j hj with ⟨a1, a2, a3⟩ | ⟨a1, ⟨m, hm, a2⟩, a3⟩
    · exact Or.inl ⟨j, hj, e, a2, a1⟩
    · have n1 : kp j ≠ -1 := by rw [a2]; exact dt_n1 hm
      rw [e]
      exact Or.inr ⟨fun _ z => dx_free_f hj n1 z, fun _ z => dy_tak_t hj a1 z⟩
theorem dy_spl {T : Nat → Bool} (hh : ∀ s, s < 16 → hd s = 0 ∨ hd s = 1) (hT : ∀ q, q < 16 → dt_ex (fun s => decide (hd s = 1 ∧ po s = nI q)) = T q) {x1 x2 x3 x4 : Int32} {post : Int32 → SY → Prop} : ∀ d i, i + d = 15 → wY_split_77 post x1 x2 x3 x4 (nI (dt_lf T d i)) md hd po rg pr st sz mk nm go → wY_split_55 post x1 x2 x3 x4 md hd po rg pr st sz mk nm go (d + 1) (nI i) := by
  intro d
  induction d with
  | zero =>
    intro i hi h
    have e : i = 15 := by omega
    subst e
    exact br_t dt_e15 h
  | succ d ih =>
    intro i hi h
    have h16 : i < 16 := by omega
    refine br_f (dt_g15 (by omega)) (dy_thereW hh ?_)
    rw [hT i h16]
    cases c : T i
    · rw [dt_lf_f c] at h
      exact br_t rfl h
    · rw [dt_lf_t c] at h
      exact br_f dt_b1 (nm_r (nI_1 i) (ih (i + 1) (by omega) h))
theorem dx_revW {F : Nat → Bool} {y : Int32} (hy : ∀ k, k < 32 → bt y k = (decide (k < 16) && F k)) (hK : ∀ s, s < 16 → F s = true → ∃ p, p < 16 ∧ kp s = nI p) (hC : dt_C kp pk) {post : Int32 → SX → Prop} (h : ∀ pk', dt_C (dt_mk F (-1) kp 16) pk' → post (nI (dt_cn F 16)) (md, dt_mk F (-1) kp 16, kr, dt_mk F (-1) kq 16, pk', nm, st, sz, dt_M (dt_mk F (-1) kp 16) nm st sz mk)) : ∃ n, wX_revoke_21 post y n 0 0 md kp kr kq pk nm st sz mk := by
  have hC0 : dt_C (dt_mk F (-1) kp 0) pk := by rw [dt_mk_0]; exact hC
  have g := dx_rev hy hK h 16 0 pk rfl hC0
  rw [dt_mk_0, dt_mk_0] at g
  exact ⟨17, g⟩
theorem dy_rev57W {F : Nat → Bool} {kp' gg : Nat → Int32} (hg : ∀ s, s < 16 → gg s = dt_b (F s)) (hh : ∀ s, s < 16 → dt_mk F 0 hd 16 s = 0 ∨ dt_mk F 0 hd 16 s = 1) (hT : ∀ q, q < 16 → dt_ex (fun s => decide (dt_mk F 0 hd 16 s = 1 ∧ po s = nI q)) = dt_T kp' q) {post : Int32 → SY → Prop} (h : post (nI (dt_cn F 16)) (md, dt_mk F 0 hd 16, po, rg, pr, st, sz, dt_M kp' nm st sz mk, nm, gg)) : wY_revoke_57 post md 17 0 0 hd po rg pr st sz mk nm gg := by
  have g := dy_rev57 hg hh hT h 16 0 rfl
  rw [dt_mk_0] at g
  exact g
theorem dy_rev12W (R : dt_R kp kr kq pk hd po rg pr) {a : Int32} {post : Int32 → SY → Prop} (h : wY_revoke_57 post md 17 0 0 hd po rg pr st sz mk nm (dt_fl (fun s => dt_bl kq a 16 (kq s)) go 16)) : ∃ n, wY_revoke_12 post a md n 0 hd po rg pr st sz mk nm go := by
  have g := dy_rev12 (dt_hh2 R) R.2.2.1 (dt_he R) h 16 0 rfl
  rw [dt_fl_0] at g
  exact ⟨17, g⟩
end
