section YW
variable {cap cnt anc up fl ys yf yF yR : Int32} {pa mp su ss ns : Nat → Int32}
/-! Y: validate -/
def cp_lm (x l : Int32) : Int32 := if 0 ≤ l ∧ l < x then l else x
def cp_dc (is su c : Int32) : Int32 := if 0 < c ∧ ¬ is = su then c - 1 else c
theorem cp_nxe {is su c lim : Int32} : cp_nx is su c lim = cp_lm (cp_dc is su c) lim := rfl
theorem y_lm {P : Int32 → Prop} {x l : Int32} (h : P (cp_lm x l)) : (l < 0 → P x) ∧ (¬ l < 0 → (x ≤ l → P x) ∧ (¬ x ≤ l → P l)) := by
  unfold cp_lm at h
  refine br_c (fun a => ?_) (fun a => br_c (fun b => ?_) (fun b => ?_))
  · rw [if_neg (fun c => absurd c.1 (Int32.not_le.mpr a))] at h; exact h
  · rw [if_neg (fun c => absurd c.2 (Int32.not_lt.mpr b))] at h; exact h
  · rw [if_pos ⟨Int32.not_lt.mp a, Int32.not_le.mp b⟩] at h; exact h
theorem y_m1 (x : Int32) : x + (-1) = x - 1 := (Int32.sub_eq_add_neg x 1).symm
theorem y_dc {P : Int32 → Prop} {is su c : Int32} (hs : ¬ is = su) (h : P (cp_dc is su c)) : (c ≤ 0 → P c) ∧ (¬ c ≤ 0 → P (c - 1)) := by
  unfold cp_dc at h
  refine br_c (fun a => ?_) (fun a => ?_)
  · rw [if_neg (fun c => absurd c.1 (Int32.not_lt.mpr a))] at h; exact h
  · rw [if_pos ⟨Int32.not_le.mp a, hs⟩] at h; exact h
theorem y_dcs {is su c : Int32} (hs : is = su) : cp_dc is su c = c := if_neg (fun q => q.2 hs)
theorem y_542 {post : Int32 → SY → Prop} {J : (Int32 → Int32 → Int32 → Int32 → Int32 → Int32 → Int32 → Int32 → Int32 → Int32 → Int32 → Int32 → Int32 → Int32 → (Nat → Int32) → (Nat → Int32) → (Nat → Int32) → (Nat → Int32) → (Nat → Int32) → (Nat → Int32) → (Nat → Int32) → (Nat → Int32) → (Nat → Int32) → (Nat → Int32) → (Nat → Int32) → (Nat → Int32) → (Nat → Int32) → (Nat → Int32) → (Nat → Int32) → (Nat → Int32) → (Nat → Int32) → Prop)} {x1 x2 e p a m : Int32} {i : Nat} (hi : i < 8)
    (h : J e p (cp_lm a (pa (12 * i + 9))) m (nI (i + 1)) cap cnt anc up fl ys yf yF yR (cp_a pa 0) (cp_a pa 1) (cp_a pa 2) (cp_a pa 3) (cp_a pa 4) (cp_a pa 5) (cp_a pa 6) (cp_a pa 7) (cp_a pa 8) (cp_a pa 9) (cp_a pa 10) (cp_a pa 11) mp (cp_sp su 0) (cp_sp su 1) ss ns) : wY_validate_542 post J x1 x2 e p a m (nI i) cap cnt anc up fl ys yf yF yR (cp_a pa 0) (cp_a pa 1) (cp_a pa 2) (cp_a pa 3) (cp_a pa 4) (cp_a pa 5) (cp_a pa 6) (cp_a pa 7) (cp_a pa 8) (cp_a pa 9) (cp_a pa 10) (cp_a pa 11) mp (cp_sp su 0) (cp_sp su 1) ss ns := by
  unfold wY_validate_542
  rw [nI_clamp (by omega), nI_1]
  have v : vp_in (nI i) 8 := vp_in_nI (by omega) (by omega)
  have k := y_lm (P := fun a => J e p a m (nI (i + 1)) cap cnt anc up fl ys yf yF yR (cp_a pa 0) (cp_a pa 1) (cp_a pa 2) (cp_a pa 3) (cp_a pa 4) (cp_a pa 5) (cp_a pa 6) (cp_a pa 7) (cp_a pa 8) (cp_a pa 9) (cp_a pa 10) (cp_a pa 11) mp (cp_sp su 0) (cp_sp su 1) ss ns) h
  exact ⟨v, fun c => nm_e (k.1 c), fun c => ⟨v, fun d => nm_e ((k.2 c).1 d), fun d => ⟨v, nm_e (nm_e ((k.2 c).2 d))⟩⟩⟩
theorem y_511 {post : Int32 → SY → Prop} {J : (Int32 → Int32 → Int32 → Int32 → Int32 → Int32 → Int32 → Int32 → Int32 → Int32 → Int32 → Int32 → Int32 → Int32 → (Nat → Int32) → (Nat → Int32) → (Nat → Int32) → (Nat → Int32) → (Nat → Int32) → (Nat → Int32) → (Nat → Int32) → (Nat → Int32) → (Nat → Int32) → (Nat → Int32) → (Nat → Int32) → (Nat → Int32) → (Nat → Int32) → (Nat → Int32) → (Nat → Int32) → (Nat → Int32) → (Nat → Int32) → Prop)} {x1 x2 e p a m : Int32} {i : Nat} (hi : i < 8)
    (h : J e (cp_lm p (pa (12 * i + 8))) (cp_lm a (pa (12 * i + 9))) m (nI (i + 1)) cap cnt anc up fl ys yf yF yR (cp_a pa 0) (cp_a pa 1) (cp_a pa 2) (cp_a pa 3) (cp_a pa 4) (cp_a pa 5) (cp_a pa 6) (cp_a pa 7) (cp_a pa 8) (cp_a pa 9) (cp_a pa 10) (cp_a pa 11) mp (cp_sp su 0) (cp_sp su 1) ss ns) : wY_validate_511 post J x1 x2 e p a m (nI i) cap cnt anc up fl ys yf yF yR (cp_a pa 0) (cp_a pa 1) (cp_a pa 2) (cp_a pa 3) (cp_a pa 4) (cp_a pa 5) (cp_a pa 6) (cp_a pa 7) (cp_a pa 8) (cp_a pa 9) (cp_a pa 10) (cp_a pa 11) mp (cp_sp su 0) (cp_sp su 1) ss ns := by
  unfold wY_validate_511
  rw [nI_clamp (by omega)]
  have v : vp_in (nI i) 8 := vp_in_nI (by omega) (by omega)
  have k := y_lm (P := fun p => J e p (cp_lm a (pa (12 * i + 9))) m (nI (i + 1)) cap cnt anc up fl ys yf yF yR (cp_a pa 0) (cp_a pa 1) (cp_a pa 2) (cp_a pa 3) (cp_a pa 4) (cp_a pa 5) (cp_a pa 6) (cp_a pa 7) (cp_a pa 8) (cp_a pa 9) (cp_a pa 10) (cp_a pa 11) mp (cp_sp su 0) (cp_sp su 1) ss ns) h
  exact ⟨v, fun c => y_542 hi (k.1 c), fun c => ⟨v, fun d => y_542 hi ((k.2 c).1 d), fun d => ⟨v, nm_e (y_542 hi ((k.2 c).2 d))⟩⟩⟩
theorem y_482 {post : Int32 → SY → Prop} {J : (Int32 → Int32 → Int32 → Int32 → Int32 → Int32 → Int32 → Int32 → Int32 → Int32 → Int32 → Int32 → Int32 → Int32 → (Nat → Int32) → (Nat → Int32) → (Nat → Int32) → (Nat → Int32) → (Nat → Int32) → (Nat → Int32) → (Nat → Int32) → (Nat → Int32) → (Nat → Int32) → (Nat → Int32) → (Nat → Int32) → (Nat → Int32) → (Nat → Int32) → (Nat → Int32) → (Nat → Int32) → (Nat → Int32) → (Nat → Int32) → Prop)} {x1 x2 e p a m : Int32} {i : Nat} (hi : i < 8)
    (h : J (cp_lm e (pa (12 * i + 7))) (cp_lm p (pa (12 * i + 8))) (cp_lm a (pa (12 * i + 9))) m (nI (i + 1)) cap cnt anc up fl ys yf yF yR (cp_a pa 0) (cp_a pa 1) (cp_a pa 2) (cp_a pa 3) (cp_a pa 4) (cp_a pa 5) (cp_a pa 6) (cp_a pa 7) (cp_a pa 8) (cp_a pa 9) (cp_a pa 10) (cp_a pa 11) mp (cp_sp su 0) (cp_sp su 1) ss ns) : wY_validate_482 post J x1 x2 e p a m (nI i) cap cnt anc up fl ys yf yF yR (cp_a pa 0) (cp_a pa 1) (cp_a pa 2) (cp_a pa 3) (cp_a pa 4) (cp_a pa 5) (cp_a pa 6) (cp_a pa 7) (cp_a pa 8) (cp_a pa 9) (cp_a pa 10) (cp_a pa 11) mp (cp_sp su 0) (cp_sp su 1) ss ns := by
  unfold wY_validate_482
  rw [nI_clamp (by omega)]
  have v : vp_in (nI i) 8 := vp_in_nI (by omega) (by omega)
  have k := y_lm (P := fun e => J e (cp_lm p (pa (12 * i + 8))) (cp_lm a (pa (12 * i + 9))) m (nI (i + 1)) cap cnt anc up fl ys yf yF yR (cp_a pa 0) (cp_a pa 1) (cp_a pa 2) (cp_a pa 3) (cp_a pa 4) (cp_a pa 5) (cp_a pa 6) (cp_a pa 7) (cp_a pa 8) (cp_a pa 9) (cp_a pa 10) (cp_a pa 11) mp (cp_sp su 0) (cp_sp su 1) ss ns) h
  exact ⟨v, fun c => y_511 hi (k.1 c), fun c => ⟨v, fun d => y_511 hi ((k.2 c).1 d), fun d => ⟨v, nm_e (y_511 hi ((k.2 c).2 d))⟩⟩⟩
theorem y_474 {post : Int32 → SY → Prop} {J : (Int32 → Int32 → Int32 → Int32 → Int32 → Int32 → Int32 → Int32 → Int32 → Int32 → Int32 → Int32 → Int32 → Int32 → (Nat → Int32) → (Nat → Int32) → (Nat → Int32) → (Nat → Int32) → (Nat → Int32) → (Nat → Int32) → (Nat → Int32) → (Nat → Int32) → (Nat → Int32) → (Nat → Int32) → (Nat → Int32) → (Nat → Int32) → (Nat → Int32) → (Nat → Int32) → (Nat → Int32) → (Nat → Int32) → (Nat → Int32) → Prop)} {x1 x2 e p a m : Int32} {i : Nat} (hi : i < 8) (hs : ¬ cp_self pa i)
    (h : J (cp_lm e (pa (12 * i + 7))) (cp_lm p (pa (12 * i + 8))) (cp_nx (pa (12 * i)) (pa (12 * i + 1)) a (pa (12 * i + 9))) m (nI (i + 1)) cap cnt anc up fl ys yf yF yR (cp_a pa 0) (cp_a pa 1) (cp_a pa 2) (cp_a pa 3) (cp_a pa 4) (cp_a pa 5) (cp_a pa 6) (cp_a pa 7) (cp_a pa 8) (cp_a pa 9) (cp_a pa 10) (cp_a pa 11) mp (cp_sp su 0) (cp_sp su 1) ss ns) : wY_validate_474 post J x1 x2 e p a m (nI i) cap cnt anc up fl ys yf yF yR (cp_a pa 0) (cp_a pa 1) (cp_a pa 2) (cp_a pa 3) (cp_a pa 4) (cp_a pa 5) (cp_a pa 6) (cp_a pa 7) (cp_a pa 8) (cp_a pa 9) (cp_a pa 10) (cp_a pa 11) mp (cp_sp su 0) (cp_sp su 1) ss ns := by
  unfold wY_validate_474
  rw [cp_nxe] at h
  have k := y_dc (P := fun a => J (cp_lm e (pa (12 * i + 7))) (cp_lm p (pa (12 * i + 8))) (cp_lm a (pa (12 * i + 9))) m (nI (i + 1)) cap cnt anc up fl ys yf yF yR (cp_a pa 0) (cp_a pa 1) (cp_a pa 2) (cp_a pa 3) (cp_a pa 4) (cp_a pa 5) (cp_a pa 6) (cp_a pa 7) (cp_a pa 8) (cp_a pa 9) (cp_a pa 10) (cp_a pa 11) mp (cp_sp su 0) (cp_sp su 1) ss ns) hs h
  exact ⟨fun c => y_482 hi (k.1 c), fun c => nm_r (y_m1 _) (y_482 hi (k.2 c))⟩
theorem y_466 {post : Int32 → SY → Prop} {J : (Int32 → Int32 → Int32 → Int32 → Int32 → Int32 → Int32 → Int32 → Int32 → Int32 → Int32 → Int32 → Int32 → Int32 → (Nat → Int32) → (Nat → Int32) → (Nat → Int32) → (Nat → Int32) → (Nat → Int32) → (Nat → Int32) → (Nat → Int32) → (Nat → Int32) → (Nat → Int32) → (Nat → Int32) → (Nat → Int32) → (Nat → Int32) → (Nat → Int32) → (Nat → Int32) → (Nat → Int32) → (Nat → Int32) → (Nat → Int32) → Prop)} {x1 x2 e p a m : Int32} {i : Nat} (hi : i < 8) (hs : ¬ cp_self pa i)
    (h : J (cp_lm e (pa (12 * i + 7))) (cp_nx (pa (12 * i)) (pa (12 * i + 1)) p (pa (12 * i + 8))) (cp_nx (pa (12 * i)) (pa (12 * i + 1)) a (pa (12 * i + 9))) m (nI (i + 1)) cap cnt anc up fl ys yf yF yR (cp_a pa 0) (cp_a pa 1) (cp_a pa 2) (cp_a pa 3) (cp_a pa 4) (cp_a pa 5) (cp_a pa 6) (cp_a pa 7) (cp_a pa 8) (cp_a pa 9) (cp_a pa 10) (cp_a pa 11) mp (cp_sp su 0) (cp_sp su 1) ss ns) : wY_validate_466 post J x1 x2 e p a m (nI i) cap cnt anc up fl ys yf yF yR (cp_a pa 0) (cp_a pa 1) (cp_a pa 2) (cp_a pa 3) (cp_a pa 4) (cp_a pa 5) (cp_a pa 6) (cp_a pa 7) (cp_a pa 8) (cp_a pa 9) (cp_a pa 10) (cp_a pa 11) mp (cp_sp su 0) (cp_sp su 1) ss ns := by
  unfold wY_validate_466
  rw [cp_nxe (c := p)] at h
  have k := y_dc (P := fun p => J (cp_lm e (pa (12 * i + 7))) (cp_lm p (pa (12 * i + 8))) (cp_nx (pa (12 * i)) (pa (12 * i + 1)) a (pa (12 * i + 9))) m (nI (i + 1)) cap cnt anc up fl ys yf yF yR (cp_a pa 0) (cp_a pa 1) (cp_a pa 2) (cp_a pa 3) (cp_a pa 4) (cp_a pa 5) (cp_a pa 6) (cp_a pa 7) (cp_a pa 8) (cp_a pa 9) (cp_a pa 10) (cp_a pa 11) mp (cp_sp su 0) (cp_sp su 1) ss ns) hs h
  exact ⟨fun c => y_474 hi hs (k.1 c), fun c => nm_r (y_m1 _) (y_474 hi hs (k.2 c))⟩
theorem y_446 {post : Int32 → SY → Prop} {J : (Int32 → Int32 → Int32 → Int32 → Int32 → Int32 → Int32 → Int32 → Int32 → Int32 → Int32 → Int32 → Int32 → Int32 → (Nat → Int32) → (Nat → Int32) → (Nat → Int32) → (Nat → Int32) → (Nat → Int32) → (Nat → Int32) → (Nat → Int32) → (Nat → Int32) → (Nat → Int32) → (Nat → Int32) → (Nat → Int32) → (Nat → Int32) → (Nat → Int32) → (Nat → Int32) → (Nat → Int32) → (Nat → Int32) → (Nat → Int32) → Prop)} {x1 x2 e p a m sf : Int32} {i : Nat} (hi : i < 8) (hsf : sf = 0 ↔ ¬ cp_self pa i) {N : Nat → Nat → Prop} (hN : cy_R ns N) (hT : ∀ j, cp_T (mp j))
    (h : ∀ ss, cy_R ss (cp_S N p (fun v => mp (16 * i + v))) → J (cp_nx (pa (12 * i)) (pa (12 * i + 1)) e (pa (12 * i + 7))) (cp_nx (pa (12 * i)) (pa (12 * i + 1)) p (pa (12 * i + 8))) (cp_nx (pa (12 * i)) (pa (12 * i + 1)) a (pa (12 * i + 9))) m (nI (i + 1)) cap cnt anc up fl ys yf yF yR (cp_a pa 0) (cp_a pa 1) (cp_a pa 2) (cp_a pa 3) (cp_a pa 4) (cp_a pa 5) (cp_a pa 6) (cp_a pa 7) (cp_a pa 8) (cp_a pa 9) (cp_a pa 10) (cp_a pa 11) mp (cp_sp su 0) (cp_sp su 1) ss ns) :
    wY_validate_446 post J x1 x2 e p a m (nI i) sf cap cnt anc up fl ys yf yF yR (cp_a pa 0) (cp_a pa 1) (cp_a pa 2) (cp_a pa 3) (cp_a pa 4) (cp_a pa 5) (cp_a pa 6) (cp_a pa 7) (cp_a pa 8) (cp_a pa 9) (cp_a pa 10) (cp_a pa 11) mp (cp_sp su 0) (cp_sp su 1) ss ns := by
  unfold wY_validate_446
  refine y_buildS hi hN hT (fun ss hS => br_c (fun s0 => ?_) (fun s0 => ?_))
  · have hs := hsf.mp s0
    have h' := h ss hS
    rw [cp_nxe (c := e)] at h'
    have k := y_dc (P := fun e => J (cp_lm e (pa (12 * i + 7))) (cp_nx (pa (12 * i)) (pa (12 * i + 1)) p (pa (12 * i + 8))) (cp_nx (pa (12 * i)) (pa (12 * i + 1)) a (pa (12 * i + 9))) m (nI (i + 1)) cap cnt anc up fl ys yf yF yR (cp_a pa 0) (cp_a pa 1) (cp_a pa 2) (cp_a pa 3) (cp_a pa 4) (cp_a pa 5) (cp_a pa 6) (cp_a pa 7) (cp_a pa 8) (cp_a pa 9) (cp_a pa 10) (cp_a pa 11) mp (cp_sp su 0) (cp_sp su 1) ss ns) hs h'
    exact ⟨fun c => y_466 hi hs (k.1 c), fun c => nm_r (y_m1 _) (y_466 hi hs (k.2 c))⟩
  · have hs : cp_self pa i := Classical.byContradiction fun c => s0 (hsf.mpr c)
    have h' := h ss hS
    rw [cp_nxe, cp_nxe, cp_nxe, y_dcs hs, y_dcs hs, y_dcs hs] at h'
    exact y_482 hi h'
theorem y_fail {post : Int32 → SY → Prop} {s x : Int32} (h : post s (cap, cnt, anc, up, fl, s, x, 0, 0, (cp_a pa 0), (cp_a pa 1), (cp_a pa 2), (cp_a pa 3), (cp_a pa 4), (cp_a pa 5), (cp_a pa 6), (cp_a pa 7), (cp_a pa 8), (cp_a pa 9), (cp_a pa 10), (cp_a pa 11), mp, (cp_sp su 0), (cp_sp su 1), ss, ns)) : wpY_fail post (cap, cnt, anc, up, fl, ys, yf, yF, yR, (cp_a pa 0), (cp_a pa 1), (cp_a pa 2), (cp_a pa 3), (cp_a pa 4), (cp_a pa 5), (cp_a pa 6), (cp_a pa 7), (cp_a pa 8), (cp_a pa 9), (cp_a pa 10), (cp_a pa 11), mp, (cp_sp su 0), (cp_sp su 1), ss, ns) s x := h
theorem y_413 {post : Int32 → SY → Prop} {J : (Int32 → Int32 → Int32 → Int32 → Int32 → Int32 → Int32 → Int32 → Int32 → Int32 → Int32 → Int32 → Int32 → Int32 → (Nat → Int32) → (Nat → Int32) → (Nat → Int32) → (Nat → Int32) → (Nat → Int32) → (Nat → Int32) → (Nat → Int32) → (Nat → Int32) → (Nat → Int32) → (Nat → Int32) → (Nat → Int32) → (Nat → Int32) → (Nat → Int32) → (Nat → Int32) → (Nat → Int32) → (Nat → Int32) → (Nat → Int32) → Prop)} {x1 x2 e p a m sf : Int32} {i : Nat} (hi : i < 8) (hsf : sf = 0 ↔ ¬ cp_self pa i) {N : Nat → Nat → Prop} (hN : cy_R ns N) (hT : ∀ j, cp_T (mp j))
    (h : ((¬ pa (12 * i + 4) &&& 2 = 0 ∧ pa (12 * i + 4) &&& 4 = 0) → post 8 (cap, cnt, anc, up, fl, 8, (nI i), 0, 0, (cp_a pa 0), (cp_a pa 1), (cp_a pa 2), (cp_a pa 3), (cp_a pa 4), (cp_a pa 5), (cp_a pa 6), (cp_a pa 7), (cp_a pa 8), (cp_a pa 9), (cp_a pa 10), (cp_a pa 11), mp, (cp_sp su 0), (cp_sp su 1), ss, ns)) ∧ (¬ (¬ pa (12 * i + 4) &&& 2 = 0 ∧ pa (12 * i + 4) &&& 4 = 0) →
      ∀ ss, cy_R ss (cp_S N p (fun v => mp (16 * i + v))) → J (cp_nx (pa (12 * i)) (pa (12 * i + 1)) e (pa (12 * i + 7))) (cp_nx (pa (12 * i)) (pa (12 * i + 1)) p (pa (12 * i + 8))) (cp_nx (pa (12 * i)) (pa (12 * i + 1)) a (pa (12 * i + 9))) m (nI (i + 1)) cap cnt anc up fl ys yf yF yR (cp_a pa 0) (cp_a pa 1) (cp_a pa 2) (cp_a pa 3) (cp_a pa 4) (cp_a pa 5) (cp_a pa 6) (cp_a pa 7) (cp_a pa 8) (cp_a pa 9) (cp_a pa 10) (cp_a pa 11) mp (cp_sp su 0) (cp_sp su 1) ss ns)) :
    wY_validate_413 post J x1 x2 e p a m (nI i) sf cap cnt anc up fl ys yf yF yR (cp_a pa 0) (cp_a pa 1) (cp_a pa 2) (cp_a pa 3) (cp_a pa 4) (cp_a pa 5) (cp_a pa 6) (cp_a pa 7) (cp_a pa 8) (cp_a pa 9) (cp_a pa 10) (cp_a pa 11) mp (cp_sp su 0) (cp_sp su 1) ss ns := by
  unfold wY_validate_413
  rw [nI_clamp (by omega)]
  have v : vp_in (nI i) 8 := vp_in_nI (by omega) (by omega)
  exact ⟨v, fun c => y_446 hi hsf hN hT (h.2 (fun q => q.1 c)), fun c => ⟨v, fun d => y_fail (h.1 ⟨c, d⟩), fun d => y_446 hi hsf hN hT (h.2 (fun q => d q.2))⟩⟩
theorem y_382 {post : Int32 → SY → Prop} {J : (Int32 → Int32 → Int32 → Int32 → Int32 → Int32 → Int32 → Int32 → Int32 → Int32 → Int32 → Int32 → Int32 → Int32 → (Nat → Int32) → (Nat → Int32) → (Nat → Int32) → (Nat → Int32) → (Nat → Int32) → (Nat → Int32) → (Nat → Int32) → (Nat → Int32) → (Nat → Int32) → (Nat → Int32) → (Nat → Int32) → (Nat → Int32) → (Nat → Int32) → (Nat → Int32) → (Nat → Int32) → (Nat → Int32) → (Nat → Int32) → Prop)} {x1 x2 e p a m sf : Int32} {i : Nat} (hi : i < 8) (hsf : sf = 0 ↔ ¬ cp_self pa i) {N : Nat → Nat → Prop} (hN : cy_R ns N) (hT : ∀ j, cp_T (mp j))
    (h : ((¬ pa (12 * i + 4) &&& 2 = 0 ∧ pa (12 * i + 4) &&& 4 = 0) → post 8 (cap, cnt, anc, up, fl, 8, (nI i), 0, 0, (cp_a pa 0), (cp_a pa 1), (cp_a pa 2), (cp_a pa 3), (cp_a pa 4), (cp_a pa 5), (cp_a pa 6), (cp_a pa 7), (cp_a pa 8), (cp_a pa 9), (cp_a pa 10), (cp_a pa 11), mp, (cp_sp su 0), (cp_sp su 1), ss, ns)) ∧ (¬ (¬ pa (12 * i + 4) &&& 2 = 0 ∧ pa (12 * i + 4) &&& 4 = 0) →
      ∀ ss, cy_R ss (cp_S N p (fun v => mp (16 * i + v))) → J (cp_nx (pa (12 * i)) (pa (12 * i + 1)) e (pa (12 * i + 7))) (cp_nx (pa (12 * i)) (pa (12 * i + 1)) p (pa (12 * i + 8))) (cp_nx (pa (12 * i)) (pa (12 * i + 1)) a (pa (12 * i + 9))) (cp_lm m (pa (12 * i + 5))) (nI (i + 1)) cap cnt anc up fl ys yf yF yR (cp_a pa 0) (cp_a pa 1) (cp_a pa 2) (cp_a pa 3) (cp_a pa 4) (cp_a pa 5) (cp_a pa 6) (cp_a pa 7) (cp_a pa 8) (cp_a pa 9) (cp_a pa 10) (cp_a pa 11) mp (cp_sp su 0) (cp_sp su 1) ss ns)) :
    wY_validate_382 post J x1 x2 e p a m (nI i) sf cap cnt anc up fl ys yf yF yR (cp_a pa 0) (cp_a pa 1) (cp_a pa 2) (cp_a pa 3) (cp_a pa 4) (cp_a pa 5) (cp_a pa 6) (cp_a pa 7) (cp_a pa 8) (cp_a pa 9) (cp_a pa 10) (cp_a pa 11) mp (cp_sp su 0) (cp_sp su 1) ss ns := by
  unfold wY_validate_382
  rw [nI_clamp (by omega)]
  have v : vp_in (nI i) 8 := vp_in_nI (by omega) (by omega)
  have k := y_lm (P := fun m => ((¬ pa (12 * i + 4) &&& 2 = 0 ∧ pa (12 * i + 4) &&& 4 = 0) → post 8 (cap, cnt, anc, up, fl, 8, (nI i), 0, 0, (cp_a pa 0), (cp_a pa 1), (cp_a pa 2), (cp_a pa 3), (cp_a pa 4), (cp_a pa 5), (cp_a pa 6), (cp_a pa 7), (cp_a pa 8), (cp_a pa 9), (cp_a pa 10), (cp_a pa 11), mp, (cp_sp su 0), (cp_sp su 1), ss, ns)) ∧ (¬ (¬ pa (12 * i + 4) &&& 2 = 0 ∧ pa (12 * i + 4) &&& 4 = 0) →
      ∀ ss, cy_R ss (cp_S N p (fun v => mp (16 * i + v))) → J (cp_nx (pa (12 * i)) (pa (12 * i + 1)) e (pa (12 * i + 7))) (cp_nx (pa (12 * i)) (pa (12 * i + 1)) p (pa (12 * i + 8))) (cp_nx (pa (12 * i)) (pa (12 * i + 1)) a (pa (12 * i + 9))) m (nI (i + 1)) cap cnt anc up fl ys yf yF yR (cp_a pa 0) (cp_a pa 1) (cp_a pa 2) (cp_a pa 3) (cp_a pa 4) (cp_a pa 5) (cp_a pa 6) (cp_a pa 7) (cp_a pa 8) (cp_a pa 9) (cp_a pa 10) (cp_a pa 11) mp (cp_sp su 0) (cp_sp su 1) ss ns)) h
  exact ⟨v, fun c => y_413 hi hsf hN hT (k.1 c), fun c => ⟨v, fun d => y_413 hi hsf hN hT ((k.2 c).1 d), fun d => ⟨v, nm_e (y_413 hi hsf hN hT ((k.2 c).2 d))⟩⟩⟩
theorem y_pos {x : Int32} (h : 0 ≤ x) (hn : ¬ x = 0) : 0 < x := by
  obtain ⟨j, hj, rfl⟩ := nI_of (x := x) (Int32.not_lt.mpr h)
  have : 0 < j := by
    rcases Nat.eq_zero_or_pos j with e | e
    · subst e; exact absurd rfl hn
    · exact e
  exact nI_lt this hj
theorem y_371 {post : Int32 → SY → Prop} {J : (Int32 → Int32 → Int32 → Int32 → Int32 → Int32 → Int32 → Int32 → Int32 → Int32 → Int32 → Int32 → Int32 → Int32 → (Nat → Int32) → (Nat → Int32) → (Nat → Int32) → (Nat → Int32) → (Nat → Int32) → (Nat → Int32) → (Nat → Int32) → (Nat → Int32) → (Nat → Int32) → (Nat → Int32) → (Nat → Int32) → (Nat → Int32) → (Nat → Int32) → (Nat → Int32) → (Nat → Int32) → (Nat → Int32) → (Nat → Int32) → Prop)} {x1 x2 e p a m sf : Int32} {i : Nat} (hi : i < 8) (hsf : sf = 0 ↔ ¬ cp_self pa i) (hm : 0 ≤ m) (hm2 : ¬ (¬ cp_self pa i ∧ m = 0)) {N : Nat → Nat → Prop} (hN : cy_R ns N) (hT : ∀ j, cp_T (mp j))
    (h : ((¬ pa (12 * i + 4) &&& 2 = 0 ∧ pa (12 * i + 4) &&& 4 = 0) → post 8 (cap, cnt, anc, up, fl, 8, (nI i), 0, 0, (cp_a pa 0), (cp_a pa 1), (cp_a pa 2), (cp_a pa 3), (cp_a pa 4), (cp_a pa 5), (cp_a pa 6), (cp_a pa 7), (cp_a pa 8), (cp_a pa 9), (cp_a pa 10), (cp_a pa 11), mp, (cp_sp su 0), (cp_sp su 1), ss, ns)) ∧ (¬ (¬ pa (12 * i + 4) &&& 2 = 0 ∧ pa (12 * i + 4) &&& 4 = 0) →
      ∀ ss, cy_R ss (cp_S N p (fun v => mp (16 * i + v))) → J (cp_nx (pa (12 * i)) (pa (12 * i + 1)) e (pa (12 * i + 7))) (cp_nx (pa (12 * i)) (pa (12 * i + 1)) p (pa (12 * i + 8))) (cp_nx (pa (12 * i)) (pa (12 * i + 1)) a (pa (12 * i + 9))) (cp_nx (pa (12 * i)) (pa (12 * i + 1)) m (pa (12 * i + 5))) (nI (i + 1)) cap cnt anc up fl ys yf yF yR (cp_a pa 0) (cp_a pa 1) (cp_a pa 2) (cp_a pa 3) (cp_a pa 4) (cp_a pa 5) (cp_a pa 6) (cp_a pa 7) (cp_a pa 8) (cp_a pa 9) (cp_a pa 10) (cp_a pa 11) mp (cp_sp su 0) (cp_sp su 1) ss ns)) :
    wY_validate_371 post J x1 x2 e p a m (nI i) sf cap cnt anc up fl ys yf yF yR (cp_a pa 0) (cp_a pa 1) (cp_a pa 2) (cp_a pa 3) (cp_a pa 4) (cp_a pa 5) (cp_a pa 6) (cp_a pa 7) (cp_a pa 8) (cp_a pa 9) (cp_a pa 10) (cp_a pa 11) mp (cp_sp su 0) (cp_sp su 1) ss ns := by
  unfold wY_validate_371
  rw [cp_nxe (c := m)] at h
  refine br_c (fun s0 => nm_e ?_) (fun s0 => ?_)
  · have hs := hsf.mp s0
    have e1 : cp_dc (pa (12 * i)) (pa (12 * i + 1)) m = m - 1 := if_pos ⟨y_pos hm (fun q => hm2 ⟨hs, q⟩), hs⟩
    rw [e1] at h
    exact y_382 hi hsf hN hT h
  · have hs : cp_self pa i := Classical.byContradiction fun c => s0 (hsf.mpr c)
    rw [y_dcs hs] at h
    exact y_382 hi hsf hN hT h
theorem y_688 {post : Int32 → SY → Prop} {n : Nat} (hn : 1 ≤ n) {x3 R F : Int32} {Q : Prop} (hQ : x3 = 0 ↔ Q)
    (h : (Q ∧ F = 0 → post 5 (cap, cnt, anc, up, fl, 5, (nI (n - 1)), 0, 0, (cp_a pa 0), (cp_a pa 1), (cp_a pa 2), (cp_a pa 3), (cp_a pa 4), (cp_a pa 5), (cp_a pa 6), (cp_a pa 7), (cp_a pa 8), (cp_a pa 9), (cp_a pa 10), (cp_a pa 11), mp, (cp_sp su 0), (cp_sp su 1), ss, ns)) ∧ (¬ (Q ∧ F = 0) → post 0 (cap, cnt, anc, up, fl, 0, (-1), F, R, (cp_a pa 0), (cp_a pa 1), (cp_a pa 2), (cp_a pa 3), (cp_a pa 4), (cp_a pa 5), (cp_a pa 6), (cp_a pa 7), (cp_a pa 8), (cp_a pa 9), (cp_a pa 10), (cp_a pa 11), mp, (cp_sp su 0), (cp_sp su 1), ss, ns))) : wY_validate_688 post (nI n) x3 R F cap cnt anc up fl ys yf yF yR (cp_a pa 0) (cp_a pa 1) (cp_a pa 2) (cp_a pa 3) (cp_a pa 4) (cp_a pa 5) (cp_a pa 6) (cp_a pa 7) (cp_a pa 8) (cp_a pa 9) (cp_a pa 10) (cp_a pa 11) mp (cp_sp su 0) (cp_sp su 1) ss ns := by
  unfold wY_validate_688
  have e : nI n - 1 = nI (n - 1) := by
    obtain ⟨m, rfl⟩ : ∃ m, n = m + 1 := ⟨n - 1, by omega⟩
    exact nI_pred m
  rw [e]
  exact br_c (fun a => br_c (fun b => y_fail (h.1 ⟨hQ.mp a, b⟩)) (fun b => h.2 (fun q => b q.2))) (fun a => h.2 (fun q => a (hQ.mpr q.1)))
theorem y_606 {post : Int32 → SY → Prop} {n : Nat} (hn : 1 ≤ n) {x3 : Int32} {Q : Prop} (hQ : x3 = 0 ↔ Q) {N : Nat → Nat → Prop} (hN : cy_R ns N)
    (h : ∀ R, cp_R N R → (Q ∧ cp_F up R = 0 → post 5 (cap, cnt, anc, up, fl, 5, (nI (n - 1)), 0, 0, (cp_a pa 0), (cp_a pa 1), (cp_a pa 2), (cp_a pa 3), (cp_a pa 4), (cp_a pa 5), (cp_a pa 6), (cp_a pa 7), (cp_a pa 8), (cp_a pa 9), (cp_a pa 10), (cp_a pa 11), mp, (cp_sp su 0), (cp_sp su 1), ss, ns)) ∧ (¬ (Q ∧ cp_F up R = 0) → post 0 (cap, cnt, anc, up, fl, 0, (-1), (cp_F up R), R, (cp_a pa 0), (cp_a pa 1), (cp_a pa 2), (cp_a pa 3), (cp_a pa 4), (cp_a pa 5), (cp_a pa 6), (cp_a pa 7), (cp_a pa 8), (cp_a pa 9), (cp_a pa 10), (cp_a pa 11), mp, (cp_sp su 0), (cp_sp su 1), ss, ns))) :
    ∀ (d k : Nat) (R : Int32), k + d = 256 → cy_m ns k R → wY_validate_606 post (nI n) x3 cap cnt anc up fl ys yf yF yR (cp_a pa 0) (cp_a pa 1) (cp_a pa 2) (cp_a pa 3) (cp_a pa 4) (cp_a pa 5) (cp_a pa 6) (cp_a pa 7) (cp_a pa 8) (cp_a pa 9) (cp_a pa 10) (cp_a pa 11) mp (cp_sp su 0) (cp_sp su 1) ss ns (d + 1) R (nI k) := by
  intro d
  induction d with
  | zero =>
    intro k R hk H
    obtain rfl : k = 256 := by omega
    have h' := h R (cy_mR H hN)
    unfold cp_F at h'
    refine br_t (by decide) (y_bit (b := 0) (by omega) (fun u1 => br_f (by decide) ?_) (fun u0 => br_t rfl (y_bit (b := 0) (by omega) (fun r1 => br_f (by decide) (nm_e ?_)) (fun r0 => br_t rfl (nm_e ?_)))))
    · rw [if_neg (fun q => by rw [(cq_b0 _).mp q] at u1; exact absurd u1 (by decide))] at h'
      exact y_688 hn hQ h'
    · rw [if_pos ((cq_b0 _).mpr u0), if_neg (fun q => by rw [(cq_b0 _).mp q] at r1; exact absurd r1 (by decide))] at h'
      exact y_688 hn hQ h'
    · rw [if_pos ((cq_b0 _).mpr u0), if_pos ((cq_b0 _).mpr r0)] at h'
      exact y_688 hn hQ h'
  | succ d ih =>
    intro k R hk H
    refine br_f (nI_ge (b := 256) (by omega) (by decide)) ⟨vp_in_nI (by omega) (by omega), ?_⟩
    rw [nI_clamp (by omega), y_s4 (by omega)]
    exact br_c (fun hz => nm_r (nI_1 k) (ih (k + 1) R (by omega) (cy_mz H hz))) (fun hz => nm_e (nm_r (nI_1 k) (ih (k + 1) _ (by omega) (cy_ms (by omega) H hz))))
theorem y_579 {post : Int32 → SY → Prop} {n : Nat} (h1 : 1 ≤ n) (hn : n ≤ 8) {e : Int32} (he : 0 ≤ e) {N : Nat → Nat → Prop} (hN : cy_R ns N)
    (h : cp_W pa up n (fun s x F R => post s (cap, cnt, anc, up, fl, s, x, F, R, (cp_a pa 0), (cp_a pa 1), (cp_a pa 2), (cp_a pa 3), (cp_a pa 4), (cp_a pa 5), (cp_a pa 6), (cp_a pa 7), (cp_a pa 8), (cp_a pa 9), (cp_a pa 10), (cp_a pa 11), mp, (cp_sp su 0), (cp_sp su 1), ss, ns)) e N) : wY_validate_579 post (nI n) e cap cnt anc up fl ys yf yF yR (cp_a pa 0) (cp_a pa 1) (cp_a pa 2) (cp_a pa 3) (cp_a pa 4) (cp_a pa 5) (cp_a pa 6) (cp_a pa 7) (cp_a pa 8) (cp_a pa 9) (cp_a pa 10) (cp_a pa 11) mp (cp_sp su 0) (cp_sp su 1) ss ns := by
  have e1 : nI n - 1 = nI (n - 1) := by
    obtain ⟨m, rfl⟩ : ∃ m, n = m + 1 := ⟨n - 1, by omega⟩
    exact nI_pred m
  have key : ∀ x : Int32, (x = 0 ↔ e ≤ 1) → wY_validate_587 post (nI n) x cap cnt anc up fl ys yf yF yR (cp_a pa 0) (cp_a pa 1) (cp_a pa 2) (cp_a pa 3) (cp_a pa 4) (cp_a pa 5) (cp_a pa 6) (cp_a pa 7) (cp_a pa 8) (cp_a pa 9) (cp_a pa 10) (cp_a pa 11) mp (cp_sp su 0) (cp_sp su 1) ss ns := by
    intro x hx
    unfold wY_validate_587
    rw [e1, nI_clamp (by omega)]
    refine ⟨vp_in_nI (by omega) (by omega), br_c (fun r0 => ⟨257, ?_⟩) (fun r0 => ⟨257, ?_⟩)⟩
    · exact y_606 (Q := e ≤ 1 ∨ pa (12 * (n - 1) + 7) = 0) h1 ⟨fun _ => Or.inr r0, fun _ => rfl⟩ hN h 256 0 0 rfl cy_m0
    · exact y_606 (Q := e ≤ 1 ∨ pa (12 * (n - 1) + 7) = 0) h1 ⟨fun q => Or.inl (hx.mp q), fun q => q.elim hx.mpr (fun z => absurd z r0)⟩ hN h 256 0 0 rfl cy_m0
  unfold wY_validate_579
  obtain ⟨j, hj, rfl⟩ := nI_of (x := e) (Int32.not_lt.mpr he)
  refine pk_le j 0 (fun a => key _ ?_) (fun a => nm_e (key _ ?_))
  · obtain rfl : j = 0 := by omega
    exact ⟨fun _ => by decide, fun _ => rfl⟩
  · obtain ⟨m, rfl⟩ : ∃ m, j = m + 1 := ⟨j - 1, by omega⟩
    rw [nI_pred]
    have a1 : nI m = 0 ↔ m = 0 := nI_eq (b := 0) (by omega) (by omega)
    have a2 : nI (m + 1) ≤ 1 ↔ m + 1 ≤ 1 := nI_leI (b := 1) (by omega) (by omega)
    rw [a1, a2]
    omega
theorem y_323 {post : Int32 → SY → Prop} {J : (Int32 → Int32 → Int32 → Int32 → Int32 → Int32 → Int32 → Int32 → Int32 → Int32 → Int32 → Int32 → Int32 → Int32 → (Nat → Int32) → (Nat → Int32) → (Nat → Int32) → (Nat → Int32) → (Nat → Int32) → (Nat → Int32) → (Nat → Int32) → (Nat → Int32) → (Nat → Int32) → (Nat → Int32) → (Nat → Int32) → (Nat → Int32) → (Nat → Int32) → (Nat → Int32) → (Nat → Int32) → (Nat → Int32) → (Nat → Int32) → Prop)} {x1 e p a m sf lt : Int32} {i n : Nat} (hi : i < n) (hn : n ≤ 8) (hsf : sf = 0 ↔ ¬ cp_self pa i) (hlt : lt = 0 ↔ i + 1 ≠ n) (he : 0 ≤ e) (hm : 0 ≤ m) {N : Nat → Nat → Prop} (hN : cy_R ns N) (hT : ∀ j, cp_T (mp j))
    (h : (i + 1 = n → cp_W pa up n (fun s x F R => post s (cap, cnt, anc, up, fl, s, x, F, R, (cp_a pa 0), (cp_a pa 1), (cp_a pa 2), (cp_a pa 3), (cp_a pa 4), (cp_a pa 5), (cp_a pa 6), (cp_a pa 7), (cp_a pa 8), (cp_a pa 9), (cp_a pa 10), (cp_a pa 11), mp, (cp_sp su 0), (cp_sp su 1), ss, ns)) e N) ∧ (¬ i + 1 = n →
      (pa (12 * i + 4) &&& 1 = 0 → post 6 (cap, cnt, anc, up, fl, 6, (nI i), 0, 0, (cp_a pa 0), (cp_a pa 1), (cp_a pa 2), (cp_a pa 3), (cp_a pa 4), (cp_a pa 5), (cp_a pa 6), (cp_a pa 7), (cp_a pa 8), (cp_a pa 9), (cp_a pa 10), (cp_a pa 11), mp, (cp_sp su 0), (cp_sp su 1), ss, ns)) ∧ (¬ pa (12 * i + 4) &&& 1 = 0 →
      ((¬ cp_self pa i ∧ m = 0) → post 7 (cap, cnt, anc, up, fl, 7, (nI i), 0, 0, (cp_a pa 0), (cp_a pa 1), (cp_a pa 2), (cp_a pa 3), (cp_a pa 4), (cp_a pa 5), (cp_a pa 6), (cp_a pa 7), (cp_a pa 8), (cp_a pa 9), (cp_a pa 10), (cp_a pa 11), mp, (cp_sp su 0), (cp_sp su 1), ss, ns)) ∧ (¬ (¬ cp_self pa i ∧ m = 0) →
      ((¬ pa (12 * i + 4) &&& 2 = 0 ∧ pa (12 * i + 4) &&& 4 = 0) → post 8 (cap, cnt, anc, up, fl, 8, (nI i), 0, 0, (cp_a pa 0), (cp_a pa 1), (cp_a pa 2), (cp_a pa 3), (cp_a pa 4), (cp_a pa 5), (cp_a pa 6), (cp_a pa 7), (cp_a pa 8), (cp_a pa 9), (cp_a pa 10), (cp_a pa 11), mp, (cp_sp su 0), (cp_sp su 1), ss, ns)) ∧ (¬ (¬ pa (12 * i + 4) &&& 2 = 0 ∧ pa (12 * i + 4) &&& 4 = 0) →
      ∀ ss, cy_R ss (cp_S N p (fun v => mp (16 * i + v))) → J (cp_nx (pa (12 * i)) (pa (12 * i + 1)) e (pa (12 * i + 7))) (cp_nx (pa (12 * i)) (pa (12 * i + 1)) p (pa (12 * i + 8))) (cp_nx (pa (12 * i)) (pa (12 * i + 1)) a (pa (12 * i + 9))) (cp_nx (pa (12 * i)) (pa (12 * i + 1)) m (pa (12 * i + 5))) (nI (i + 1)) cap cnt anc up fl ys yf yF yR (cp_a pa 0) (cp_a pa 1) (cp_a pa 2) (cp_a pa 3) (cp_a pa 4) (cp_a pa 5) (cp_a pa 6) (cp_a pa 7) (cp_a pa 8) (cp_a pa 9) (cp_a pa 10) (cp_a pa 11) mp (cp_sp su 0) (cp_sp su 1) ss ns))))) :
    wY_validate_323 post J x1 (nI n) e p a m (nI i) sf lt cap cnt anc up fl ys yf yF yR (cp_a pa 0) (cp_a pa 1) (cp_a pa 2) (cp_a pa 3) (cp_a pa 4) (cp_a pa 5) (cp_a pa 6) (cp_a pa 7) (cp_a pa 8) (cp_a pa 9) (cp_a pa 10) (cp_a pa 11) mp (cp_sp su 0) (cp_sp su 1) ss ns := by
  unfold wY_validate_323
  rw [nI_clamp (by omega)]
  have v : vp_in (nI i) 8 := vp_in_nI (by omega) (by omega)
  refine br_c (fun l0 => ⟨v, ?_⟩) (fun l0 => ?_)
  · have h' := h.2 (hlt.mp l0)
    refine br_c (fun c6 => y_fail (h'.1 c6)) (fun c6 => br_c (fun s0 => br_c (fun m0 => y_fail ((h'.2 c6).1 ⟨hsf.mp s0, m0⟩)) (fun m0 => ?_)) (fun s0 => ?_))
    · have c7 : ¬ (¬ cp_self pa i ∧ m = 0) := fun q => m0 q.2
      exact y_371 (by omega) hsf hm c7 hN hT ((h'.2 c6).2 c7)
    · have c7 : ¬ (¬ cp_self pa i ∧ m = 0) := fun q => s0 (hsf.mpr q.1)
      exact y_371 (by omega) hsf hm c7 hN hT ((h'.2 c6).2 c7)
  · exact y_579 (by omega) hn he hN (h.1 (Classical.byContradiction fun c => l0 (hlt.mpr c)))
end YW
