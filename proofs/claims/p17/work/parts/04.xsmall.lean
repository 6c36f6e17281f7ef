section XS
variable {cap cnt anc up fl ls lf la lr el ml al ll : Int32} {pa mp su ex no : Nat → Int32}
/-! X: the small methods, each with a general post -/
theorem x_ix {c f k : Nat} : nI c * nI k + nI f = nI (k * c + f) := by rw [pk_mul, nI_add, Nat.mul_comm]
theorem x_part {post : Int32 → Prop} {c f : Nat} (hc : c < 8) (hf : f < 12) (h : post (pa (12 * c + f))) : wpX_part post (cap, cnt, anc, up, fl, ls, lf, la, lr, el, ml, al, ll, pa, mp, su, ex, no) (nI c) (nI f) := by
  unfold wpX_part
  dsimp only
  have e : nI c * 12 + nI f = nI (12 * c + f) := x_ix
  rw [e, nI_clamp (by omega)]
  exact ⟨vp_in_nI (by omega) (by omega), h⟩
theorem x_setPart {post : St2 → Prop} {c f : Nat} {y : Int32} (hc : c < 8) (hf : f < 12) (h : post (cap, cnt, anc, up, fl, ls, lf, la, lr, el, ml, al, ll, (upd pa (12 * c + f) y), mp, su, ex, no)) : wpX_setPart post (cap, cnt, anc, up, fl, ls, lf, la, lr, el, ml, al, ll, pa, mp, su, ex, no) (nI c) (nI f) y := by
  unfold wpX_setPart
  dsimp only
  have e : nI c * 12 + nI f = nI (12 * c + f) := x_ix
  rw [e, nI_clamp (by omega)]
  exact ⟨vp_in_nI (by omega) (by omega), nm_e h⟩
theorem x_targets {post : Int32 → Prop} {c s : Nat} (hc : c < 8) (hs : s < 16) (h : post (mp (16 * c + s))) : wpX_targets post (cap, cnt, anc, up, fl, ls, lf, la, lr, el, ml, al, ll, pa, mp, su, ex, no) (nI c) (nI s) := by
  unfold wpX_targets
  dsimp only
  have e : nI c * 16 + nI s = nI (16 * c + s) := x_ix
  rw [e, nI_clamp (by omega)]
  exact ⟨vp_in_nI (by omega) (by omega), h⟩
theorem x_keep {post : Int32 → St2 → Prop} {s i : Int32} (h : post s (cap, cnt, anc, up, fl, s, i, 0, 0, el, ml, al, ll, pa, mp, su, ex, no)) : wpX_keepFailure post (cap, cnt, anc, up, fl, ls, lf, la, lr, el, ml, al, ll, pa, mp, su, ex, no) s i := h
theorem x_reset {post : St2 → Prop} (h : post (cap, cnt, anc, up, fl, (-1), (-1), 0, 0, el, ml, al, ll, pa, mp, su, ex, no)) : wpX_resetResult post (cap, cnt, anc, up, fl, ls, lf, la, lr, el, ml, al, ll, pa, mp, su, ex, no) := h
theorem x_group {post : Int32 → Prop} {x : Int32} {k : Nat} (h : post (cp_g x k)) : wpX_group post () x (nI k) := by
  unfold wpX_group
  have e : 4 * nI k = nI (4 * k) := pk_mul 4 k
  rw [e]
  exact h
theorem x_inRange {post : Int32 → Prop} {x a b : Int32} (h1 : a ≤ x ∧ x ≤ b → post 1) (h0 : ¬ (a ≤ x ∧ x ≤ b) → post 0) : wpX_inRange post () x a b :=
  br_c (fun h => h0 (fun z => absurd z.1 (Int32.not_le.mpr h))) (fun h => br_c (fun h' => h0 (fun z => absurd z.2 (Int32.not_le.mpr h'))) (fun h' => h1 ⟨Int32.not_lt.mp h, Int32.not_lt.mp h'⟩))
theorem x_isNum {post : Int32 → Prop} {x : Int32} (h1 : -1 ≤ x ∧ x ≤ 15 → post 1) (h0 : ¬ (-1 ≤ x ∧ x ≤ 15) → post 0) : wpX_isNumberOrNone post () x := by
  unfold wpX_isNumberOrNone
  exact x_inRange (fun h => ⟨rfl, h1 h⟩) (fun h => ⟨rfl, h0 h⟩)
theorem x_isSpec {post : Int32 → Prop} {x : Int32} (h1 : 1 ≤ x ∧ x ≤ 15 → post 1) (h0 : ¬ (1 ≤ x ∧ x ≤ 15) → post 0) : wpX_isSpecificPolicy post () x := by
  unfold wpX_isSpecificPolicy
  exact x_inRange (fun h => ⟨rfl, h1 h⟩) (fun h => ⟨rfl, h0 h⟩)
theorem x_isKind {post : Int32 → Prop} {x : Int32} (h1 : x = 0 ∨ x = 1 → post 1) (h0 : ¬ (x = 0 ∨ x = 1) → post 0) : wpX_isKind post () x :=
  br_c (fun h => h1 (Or.inl h)) (fun h => br_c (fun h' => h1 (Or.inr h')) (fun h' => h0 (fun z => z.elim h h')))
theorem x_isCert {post : Int32 → Prop} {n : Nat} (hn : n ≤ 8) {x : Int32} (h1 : 0 ≤ x ∧ x < nI n → post 1) (h0 : ¬ (0 ≤ x ∧ x < nI n) → post 0) : wpX_isCert post (cap, (nI n), anc, up, fl, ls, lf, la, lr, el, ml, al, ll, pa, mp, su, ex, no) x :=
  br_c (fun h => h0 (fun z => absurd z.1 (Int32.not_le.mpr h))) (fun h => br_c (fun h' => h0 (fun z => absurd z.2 (Int32.not_lt.mpr h'))) (fun h' => h1 ⟨Int32.not_lt.mp h, Int32.not_le.mp h'⟩))
theorem x_cert {n : Nat} (hn : n ≤ 8) {x : Int32} (h : 0 ≤ x ∧ x < nI n) : ∃ c, c < n ∧ x = nI c := by
  obtain ⟨c, hc, rfl⟩ := nI_of (x := x) (Int32.not_lt.mpr h.1)
  exact ⟨c, (nI_ltI hc (by omega)).mp h.2, rfl⟩
theorem x_rng {x : Int32} {a b : Nat} (hb : b < 2 ^ 31) (h : nI a ≤ x ∧ x ≤ nI b) (ha : a < 2 ^ 31) : ∃ c, a ≤ c ∧ c ≤ b ∧ x = nI c := by
  have h0 : (0 : Int32) ≤ x := Int32.le_trans (nI_pos' ha) h.1
  obtain ⟨c, hc, rfl⟩ := nI_of (x := x) (Int32.not_lt.mpr h0)
  exact ⟨c, (nI_leI ha hc).mp h.1, (nI_leI hc hb).mp h.2, rfl⟩
theorem x_isNameL {post : Int32 → Prop} {x : Int32} (hr : 0 ≤ x ∧ x ≤ 65535) (h1 : cp_nm x → post 1) (h0 : ¬ cp_nm x → post 0) : ∀ d m, m + d = 3 →
    (∀ j, j < m → ¬ cp_g x (j + 1) = 0 → ¬ cp_g x j = 0) → wX_isName_14 post x (d + 1) (nI (m + 1)) := by
  intro d
  induction d with
  | zero =>
    intro m hm H
    obtain rfl : m = 3 := by omega
    exact br_t (by decide) (h1 ⟨hr, H⟩)
  | succ d ih =>
    intro m hm H
    refine br_f (nI_ge (b := 4) (by omega) (by decide)) (x_group (br_c (fun hz => nm_r (nI_1 (m + 1)) (ih (m + 1) (by omega) ?_)) (fun hz => ?_)))
    · intro j hj hg
      by_cases e : j = m
      · subst e; exact absurd hz hg
      · exact H j (by omega) hg
    · rw [nI_pred]
      refine x_group (br_c (fun h7 => h0 (fun z => z.2 m (by omega) hz h7)) (fun h7 => nm_r (nI_1 (m + 1)) (ih (m + 1) (by omega) ?_)))
      intro j hj hg
      by_cases e : j = m
      · subst e; exact h7
      · exact H j (by omega) hg
theorem x_isName {post : Int32 → Prop} {x : Int32} (h1 : cp_nm x → post 1) (h0 : ¬ cp_nm x → post 0) : wpX_isName post () x := by
  unfold wpX_isName
  exact x_inRange (fun hr => br_f (by decide) ⟨4, x_isNameL hr h1 h0 3 0 rfl (fun j hj => absurd hj (by omega))⟩) (fun hr => br_t rfl (h0 fun z => hr z.1))
theorem x_liesInL {post : Int32 → Prop} {x s : Int32} (h1 : cp_lie x s → post 1) (h0 : ¬ cp_lie x s → post 0) : ∀ d m, m + d = 4 →
    (∀ j, j < m → ¬ cp_g s j = 0 → cp_g s j = cp_g x j) → wX_liesIn_2 post x s (d + 1) (nI m) := by
  intro d
  induction d with
  | zero =>
    intro m hm H
    obtain rfl : m = 4 := by omega
    exact br_t (by decide) (h1 H)
  | succ d ih =>
    intro m hm H
    refine br_f (nI_ge (b := 4) (by omega) (by decide)) (x_group (br_c (fun hz => nm_r (nI_1 m) (ih (m + 1) (by omega) ?_)) (fun hz => x_group (br_c (fun h7 => nm_r (nI_1 m) (ih (m + 1) (by omega) ?_)) (fun h7 => h0 (fun z => h7 (z m (by omega) hz)))))))
    · intro j hj hg
      by_cases e : j = m
      · subst e; exact absurd hz hg
      · exact H j (by omega) hg
    · intro j hj hg
      by_cases e : j = m
      · subst e; exact h7
      · exact H j (by omega) hg
theorem x_liesIn {post : Int32 → Prop} {x s : Int32} (h1 : cp_lie x s → post 1) (h0 : ¬ cp_lie x s → post 0) : wpX_liesIn post () x s :=
  ⟨5, x_liesInL h1 h0 4 0 rfl (fun j hj => absurd hj (by omega))⟩
theorem x_self {post : Int32 → Prop} {c : Nat} (hc : c < 8) (h1 : cp_self pa c → post 1) (h0 : ¬ cp_self pa c → post 0) : wpX_isSelfIssued post (cap, cnt, anc, up, fl, ls, lf, la, lr, el, ml, al, ll, pa, mp, su, ex, no) (nI c) := by
  unfold wpX_isSelfIssued
  exact x_part (f := 0) hc (by decide) (x_part (f := 1) hc (by decide) (br_c h1 h0))
theorem x_leaf {post : Int32 → Prop} {c n : Nat} (hc : c < n) (hn : n ≤ 8) (h1 : c + 1 = n → post 1) (h0 : ¬ c + 1 = n → post 0) : wpX_isLeaf post (cap, (nI n), anc, up, fl, ls, lf, la, lr, el, ml, al, ll, pa, mp, su, ex, no) (nI c) := by
  unfold wpX_isLeaf
  dsimp only
  obtain ⟨m, rfl⟩ : ∃ m, n = m + 1 := ⟨n - 1, by omega⟩
  rw [nI_pred]
  exact pk_eq c m (fun h => h1 (by omega)) (fun h => h0 (by omega))
theorem x_subCnt {post : Int32 → Prop} {c k : Nat} (hc : c < 8) (hk : k < 2) (h : post (pa (12 * c + (10 + k)))) : wpX_subtreeCount post (cap, cnt, anc, up, fl, ls, lf, la, lr, el, ml, al, ll, pa, mp, su, ex, no) (nI c) (nI k) := by
  unfold wpX_subtreeCount
  dsimp only
  have e : 10 + nI k = nI (10 + k) := nI_add 10 k
  rw [e]
  exact x_part (f := 10 + k) hc (by omega) h
theorem x_first {post : Int32 → Prop} {c k : Nat} (h : post (nI (8 * c + 4 * k))) : wpX_firstSubtree post () (nI c) (nI k) := by
  unfold wpX_firstSubtree
  have e : (nI c * 2 + nI k) * 4 = nI (8 * c + 4 * k) := by
    have e1 : nI c * 2 + nI k = nI (2 * c + k) := x_ix
    have e2 : nI (2 * c + k) * 4 = nI ((2 * c + k) * 4) := pk_mul _ 4
    rw [e1, e2]
    exact congrArg nI (by omega)
  rw [e]
  exact h
end XS
