section XN
variable {cap cnt anc up fl ls lf la lr el ml al ll : Int32} {pa mp su ex no : Nat → Int32}
/-! X: the name constraints -/
theorem x_inSomeL {post : Int32 → Prop} {x : Int32} {j kd K : Nat} (hj : j < 8) (hkd : kd < 2) (hK : K ≤ 4) (hc : pa (12 * j + (10 + kd)) = nI K)
    (h1 : cp_any pa su x j kd → post 1) (h0 : ¬ cp_any pa su x j kd → post 0) : ∀ d k, k + d = K → (∀ q, q < k → ¬ cp_lie x (su (8 * j + 4 * kd + q))) →
    wX_inSomeSubtree_18 post x (nI K) (nI (8 * j + 4 * kd)) cap cnt anc up fl ls lf la lr el ml al ll pa mp su ex no (d + 1) (nI k) := by
  intro d
  induction d with
  | zero =>
    intro k hk H
    obtain rfl : k = K := by omega
    refine br_t (nI_le (by omega) (by omega)) (h0 ?_)
    rintro ⟨q, q4, ql, hq⟩
    rw [hc, nI_ltI (by omega) (by omega)] at ql
    exact H q ql hq
  | succ d ih =>
    intro k hk H
    refine br_f (nI_ge (by omega) (by omega)) ?_
    have e : nI (8 * j + 4 * kd) + nI k = nI (8 * j + 4 * kd + k) := nI_add _ _
    rw [e, nI_clamp (by omega)]
    refine ⟨vp_in_nI (by omega) (by omega), x_liesIn (fun hl => br_f (by decide) (h1 ⟨k, by omega, ?_, hl⟩)) (fun hl => br_t rfl (nm_r (nI_1 k) (ih (k + 1) (by omega) ?_)))⟩
    · rw [hc]; exact nI_lt (by omega) (by omega)
    · intro q hq
      by_cases e : q = k
      · subst e; exact hl
      · exact H q (by omega)
theorem x_inSome {post : Int32 → Prop} {x : Int32} {j kd : Nat} (hj : j < 8) (hkd : kd < 2) (hK : cp_K pa)
    (h1 : cp_any pa su x j kd → post 1) (h0 : ¬ cp_any pa su x j kd → post 0) : wpX_inSomeSubtree post (cap, cnt, anc, up, fl, ls, lf, la, lr, el, ml, al, ll, pa, mp, su, ex, no) x (nI j) (nI kd) := by
  unfold wpX_inSomeSubtree
  obtain ⟨K, k4, hc⟩ := hK j kd hkd
  refine x_subCnt hj hkd (x_first ⟨K + 1, ?_⟩)
  rw [hc]
  exact x_inSomeL hj hkd k4 hc h1 h0 K 0 (by omega) (fun q hq => absurd hq (by omega))
def cp_bj (pa su : Nat → Int32) (x : Int32) (j : Nat) : Prop := (0 < pa (12 * j + 10) ∧ ¬ cp_any pa su x j 0) ∨ cp_any pa su x j 1
theorem x_badL {post : Int32 → Prop} {x : Int32} {i : Nat} (hi : i < 8) (hK : cp_K pa)
    (h1 : (∃ j, j < i ∧ cp_bj pa su x j) → post 1) (h0 : (∀ j, j < i → ¬ cp_bj pa su x j) → post 0) : ∀ d j, j + d = i → (∀ q, q < j → ¬ cp_bj pa su x q) →
    wX_breaksNameConstraints_9 post (nI i) x cap cnt anc up fl ls lf la lr el ml al ll pa mp su ex no (d + 1) (nI j) := by
  intro d
  induction d with
  | zero =>
    intro j hj H
    obtain rfl : j = i := by omega
    exact br_t (nI_le (by omega) (by omega)) (h0 H)
  | succ d ih =>
    intro j hj H
    have step : ((0 < pa (12 * j + 10) → cp_any pa su x j 0)) → wX_breaksNameConstraints_35 post (wX_breaksNameConstraints_9 post (nI i) x cap cnt anc up fl ls lf la lr el ml al ll pa mp su ex no (d + 1)) (nI i) x (nI j) cap cnt anc up fl ls lf la lr el ml al ll pa mp su ex no := by
      intro hp
      unfold wX_breaksNameConstraints_35
      refine x_inSome (kd := 1) (by omega) (by decide) hK (fun ha => br_f (by decide) (h1 ⟨j, by omega, Or.inr ha⟩)) (fun ha => br_t rfl (nm_r (nI_1 j) (ih (j + 1) (by omega) ?_)))
      intro q hq
      by_cases e : q = j
      · subst e
        rintro (⟨z1, z2⟩ | z)
        · exact z2 (hp z1)
        · exact ha z
      · exact H q (by omega)
    refine br_f (nI_ge (by omega) (by omega)) (x_subCnt (k := 0) (by omega) (by decide) (br_c (fun hz => step (fun hp => absurd hz (Int32.not_le.mpr hp))) (fun hz => ?_)))
    exact x_inSome (kd := 0) (by omega) (by decide) hK (fun ha => br_f (by decide) (step (fun _ => ha))) (fun ha => br_t rfl (h1 ⟨j, by omega, Or.inl ⟨Int32.not_le.mp hz, ha⟩⟩))
theorem x_bad {post : Int32 → Prop} {i : Nat} (hi : i < 8) (hK : cp_K pa)
    (h1 : cp_bad pa su i → post 1) (h0 : ¬ cp_bad pa su i → post 0) : wpX_breaksNameConstraints post (cap, cnt, anc, up, fl, ls, lf, la, lr, el, ml, al, ll, pa, mp, su, ex, no) (nI i) := by
  unfold wpX_breaksNameConstraints
  refine x_part (f := 1) hi (by decide) ⟨i + 1, ?_⟩
  exact x_badL (x := pa (12 * i + 1)) hi hK (fun h => h1 h) (fun h => h0 (fun ⟨j, hj, hb⟩ => h j hj hb)) i 0 (by omega) (fun q hq => absurd hq (by omega))
end XN
