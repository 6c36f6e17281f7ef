section YV
variable {cap cnt anc up fl ys yf yF yR : Int32} {pa mp su ss ns : Nat → Int32}
theorem y_290 {post : Int32 → SY → Prop} {J : (Int32 → Int32 → Int32 → Int32 → Int32 → Int32 → Int32 → Int32 → Int32 → Int32 → Int32 → Int32 → Int32 → Int32 → (Nat → Int32) → (Nat → Int32) → (Nat → Int32) → (Nat → Int32) → (Nat → Int32) → (Nat → Int32) → (Nat → Int32) → (Nat → Int32) → (Nat → Int32) → (Nat → Int32) → (Nat → Int32) → (Nat → Int32) → (Nat → Int32) → (Nat → Int32) → (Nat → Int32) → (Nat → Int32) → (Nat → Int32) → Prop)} {x1 x2 e p a m sf lt z : Int32} {i n : Nat} (hi : i < 8) (hz : z = 0 ↔ ¬ cp_an pa n a i) (hlt : lt = 0 ↔ i + 1 ≠ n) {S : Nat → Nat → Prop} (hZ : cp_Z S) (hS : cy_R ss S)
    (h : ∀ ns, cy_R ns (cp_NN pa mp n i p a S) → ((e = 0 ∧ cp_em (cp_NN pa mp n i p a S)) → post 5 (cap, cnt, anc, up, fl, 5, (nI i), 0, 0, (cp_a pa 0), (cp_a pa 1), (cp_a pa 2), (cp_a pa 3), (cp_a pa 4), (cp_a pa 5), (cp_a pa 6), (cp_a pa 7), (cp_a pa 8), (cp_a pa 9), (cp_a pa 10), (cp_a pa 11), mp, (cp_sp su 0), (cp_sp su 1), ss, ns)) ∧ (¬ (e = 0 ∧ cp_em (cp_NN pa mp n i p a S)) → wY_validate_323 post J x1 x2 e p a m (nI i) sf lt cap cnt anc up fl ys yf yF yR (cp_a pa 0) (cp_a pa 1) (cp_a pa 2) (cp_a pa 3) (cp_a pa 4) (cp_a pa 5) (cp_a pa 6) (cp_a pa 7) (cp_a pa 8) (cp_a pa 9) (cp_a pa 10) (cp_a pa 11) mp (cp_sp su 0) (cp_sp su 1) ss ns)) :
    wY_validate_290 post J x1 x2 e p a m (nI i) sf lt z cap cnt anc up fl ys yf yF yR (cp_a pa 0) (cp_a pa 1) (cp_a pa 2) (cp_a pa 3) (cp_a pa 4) (cp_a pa 5) (cp_a pa 6) (cp_a pa 7) (cp_a pa 8) (cp_a pa 9) (cp_a pa 10) (cp_a pa 11) mp (cp_sp su 0) (cp_sp su 1) ss ns := by
  unfold wY_validate_290
  exact y_buildN hi hz hlt hZ hS (fun ns hN hm => br_c (fun e0 => br_f (by decide) ((h ns hN).2 (fun q => hm q.2))) (fun e0 => (h ns hN).2 (fun q => e0 q.1))) (fun ns hN hm => br_c (fun e0 => br_t rfl (y_fail ((h ns hN).1 ⟨e0, hm⟩))) (fun e0 => (h ns hN).2 (fun q => e0 q.1)))
theorem y_255 {post : Int32 → SY → Prop} {J : (Int32 → Int32 → Int32 → Int32 → Int32 → Int32 → Int32 → Int32 → Int32 → Int32 → Int32 → Int32 → Int32 → Int32 → (Nat → Int32) → (Nat → Int32) → (Nat → Int32) → (Nat → Int32) → (Nat → Int32) → (Nat → Int32) → (Nat → Int32) → (Nat → Int32) → (Nat → Int32) → (Nat → Int32) → (Nat → Int32) → (Nat → Int32) → (Nat → Int32) → (Nat → Int32) → (Nat → Int32) → (Nat → Int32) → (Nat → Int32) → Prop)} {x1 x2 e p a m sf lt : Int32} {i n : Nat} (hi : i < 8) (hsf : sf = 0 ↔ ¬ cp_self pa i) (hlt : lt = 0 ↔ i + 1 ≠ n) {S : Nat → Nat → Prop} (hZ : cp_Z S) (hS : cy_R ss S)
    (h : ∀ ns, cy_R ns (cp_NN pa mp n i p a S) → ((e = 0 ∧ cp_em (cp_NN pa mp n i p a S)) → post 5 (cap, cnt, anc, up, fl, 5, (nI i), 0, 0, (cp_a pa 0), (cp_a pa 1), (cp_a pa 2), (cp_a pa 3), (cp_a pa 4), (cp_a pa 5), (cp_a pa 6), (cp_a pa 7), (cp_a pa 8), (cp_a pa 9), (cp_a pa 10), (cp_a pa 11), mp, (cp_sp su 0), (cp_sp su 1), ss, ns)) ∧ (¬ (e = 0 ∧ cp_em (cp_NN pa mp n i p a S)) → wY_validate_323 post J x1 x2 e p a m (nI i) sf lt cap cnt anc up fl ys yf yF yR (cp_a pa 0) (cp_a pa 1) (cp_a pa 2) (cp_a pa 3) (cp_a pa 4) (cp_a pa 5) (cp_a pa 6) (cp_a pa 7) (cp_a pa 8) (cp_a pa 9) (cp_a pa 10) (cp_a pa 11) mp (cp_sp su 0) (cp_sp su 1) ss ns)) :
    wY_validate_255 post J x1 x2 e p a m (nI i) sf lt cap cnt anc up fl ys yf yF yR (cp_a pa 0) (cp_a pa 1) (cp_a pa 2) (cp_a pa 3) (cp_a pa 4) (cp_a pa 5) (cp_a pa 6) (cp_a pa 7) (cp_a pa 8) (cp_a pa 9) (cp_a pa 10) (cp_a pa 11) mp (cp_sp su 0) (cp_sp su 1) ss ns := by
  unfold wY_validate_255
  rw [nI_clamp (by omega)]
  refine ⟨vp_in_nI (by omega) (by omega), y_bit (b := 0) (by omega) (fun hb => br_f (by decide) (br_c (fun a0 => ?_) (fun a0 => br_c (fun s0 => ?_) (fun s0 => br_c (fun l0 => ?_) (fun l0 => ?_))))) (fun hb => br_t rfl ?_)⟩
  · exact y_290 hi ⟨fun q => absurd q (by decide), fun q => absurd ⟨hb, Or.inl a0⟩ q⟩ hlt hZ hS h
  · exact y_290 hi ⟨fun _ q => q.2.elim a0 (fun w => hsf.mp s0 w.1), fun _ => rfl⟩ hlt hZ hS h
  · exact y_290 hi ⟨fun q => absurd q (by decide), fun q => absurd ⟨hb, Or.inr ⟨Classical.byContradiction fun c => s0 (hsf.mpr c), hlt.mp l0⟩⟩ q⟩ hlt hZ hS h
  · exact y_290 hi ⟨fun _ q => q.2.elim a0 (fun w => l0 (hlt.mpr w.2)), fun _ => rfl⟩ hlt hZ hS h
  · refine y_290 hi ⟨fun _ q => ?_, fun _ => rfl⟩ hlt hZ hS h
    have q1 : bt (cp_a pa 6 i) 0 = true := q.1
    rw [hb] at q1
    exact absurd q1 (by decide)
theorem y_206 {post : Int32 → SY → Prop} {J : (Int32 → Int32 → Int32 → Int32 → Int32 → Int32 → Int32 → Int32 → Int32 → Int32 → Int32 → Int32 → Int32 → Int32 → (Nat → Int32) → (Nat → Int32) → (Nat → Int32) → (Nat → Int32) → (Nat → Int32) → (Nat → Int32) → (Nat → Int32) → (Nat → Int32) → (Nat → Int32) → (Nat → Int32) → (Nat → Int32) → (Nat → Int32) → (Nat → Int32) → (Nat → Int32) → (Nat → Int32) → (Nat → Int32) → (Nat → Int32) → Prop)} {x1 x2 e p a m sf lt w : Int32} {i n : Nat} (hi : i < 8) (hnm : ∀ c, cp_nm (pa (12 * c + 1))) (hsu : ∀ j, cp_nm (su j)) (hK : cp_K pa) (hw : w = cp_want pa anc i) (hsf : sf = 0 ↔ ¬ cp_self pa i) (hlt : lt = 0 ↔ i + 1 ≠ n) {S : Nat → Nat → Prop} (hZ : cp_Z S) (hS : cy_R ss S)
    (h : ((¬ pa (12 * i) = cp_want pa anc i) → post 3 (cap, cnt, anc, up, fl, 3, (nI i), 0, 0, (cp_a pa 0), (cp_a pa 1), (cp_a pa 2), (cp_a pa 3), (cp_a pa 4), (cp_a pa 5), (cp_a pa 6), (cp_a pa 7), (cp_a pa 8), (cp_a pa 9), (cp_a pa 10), (cp_a pa 11), mp, (cp_sp su 0), (cp_sp su 1), ss, ns)) ∧ (¬ (¬ pa (12 * i) = cp_want pa anc i) →
      ((¬ cp_ex pa n i ∧ cp_bad pa su i) → post 4 (cap, cnt, anc, up, fl, 4, (nI i), 0, 0, (cp_a pa 0), (cp_a pa 1), (cp_a pa 2), (cp_a pa 3), (cp_a pa 4), (cp_a pa 5), (cp_a pa 6), (cp_a pa 7), (cp_a pa 8), (cp_a pa 9), (cp_a pa 10), (cp_a pa 11), mp, (cp_sp su 0), (cp_sp su 1), ss, ns)) ∧ (¬ (¬ cp_ex pa n i ∧ cp_bad pa su i) →
      ∀ ns, cy_R ns (cp_NN pa mp n i p a S) → ((e = 0 ∧ cp_em (cp_NN pa mp n i p a S)) → post 5 (cap, cnt, anc, up, fl, 5, (nI i), 0, 0, (cp_a pa 0), (cp_a pa 1), (cp_a pa 2), (cp_a pa 3), (cp_a pa 4), (cp_a pa 5), (cp_a pa 6), (cp_a pa 7), (cp_a pa 8), (cp_a pa 9), (cp_a pa 10), (cp_a pa 11), mp, (cp_sp su 0), (cp_sp su 1), ss, ns)) ∧ (¬ (e = 0 ∧ cp_em (cp_NN pa mp n i p a S)) → wY_validate_323 post J x1 x2 e p a m (nI i) sf lt cap cnt anc up fl ys yf yF yR (cp_a pa 0) (cp_a pa 1) (cp_a pa 2) (cp_a pa 3) (cp_a pa 4) (cp_a pa 5) (cp_a pa 6) (cp_a pa 7) (cp_a pa 8) (cp_a pa 9) (cp_a pa 10) (cp_a pa 11) mp (cp_sp su 0) (cp_sp su 1) ss ns)))) :
    wY_validate_206 post J x1 x2 e p a m (nI i) sf lt w cap cnt anc up fl ys yf yF yR (cp_a pa 0) (cp_a pa 1) (cp_a pa 2) (cp_a pa 3) (cp_a pa 4) (cp_a pa 5) (cp_a pa 6) (cp_a pa 7) (cp_a pa 8) (cp_a pa 9) (cp_a pa 10) (cp_a pa 11) mp (cp_sp su 0) (cp_sp su 1) ss ns := by
  unfold wY_validate_206
  rw [nI_clamp (by omega)]
  subst hw
  refine ⟨vp_in_nI (by omega) (by omega), br_c (fun c2 => ?_) (fun c2 => y_fail (h.1 c2))⟩
  have h' := h.2 (fun q => q c2)
  have k238 : ¬ cp_ex pa n i → wY_validate_238 post J x1 x2 e p a m (nI i) sf lt cap cnt anc up fl ys yf yF yR (cp_a pa 0) (cp_a pa 1) (cp_a pa 2) (cp_a pa 3) (cp_a pa 4) (cp_a pa 5) (cp_a pa 6) (cp_a pa 7) (cp_a pa 8) (cp_a pa 9) (cp_a pa 10) (cp_a pa 11) mp (cp_sp su 0) (cp_sp su 1) ss ns := by
    intro hx
    unfold wY_validate_238
    exact y_ok hi hnm hsu hK (fun hb => br_t rfl (y_fail (h'.1 ⟨hx, hb⟩))) (fun hb => br_f (by decide) (y_255 hi hsf hlt hZ hS (h'.2 (fun q => hb q.2))))
  exact br_c (fun s0 => k238 (fun q => hsf.mp s0 q.1)) (fun s0 => br_c (fun l0 => y_255 hi hsf hlt hZ hS (h'.2 (fun q => q.1 ⟨Classical.byContradiction fun c => s0 (hsf.mpr c), hlt.mp l0⟩))) (fun l0 => k238 (fun q => l0 (hlt.mpr q.2))))
theorem y_153 {post : Int32 → SY → Prop} {J : (Int32 → Int32 → Int32 → Int32 → Int32 → Int32 → Int32 → Int32 → Int32 → Int32 → Int32 → Int32 → Int32 → Int32 → (Nat → Int32) → (Nat → Int32) → (Nat → Int32) → (Nat → Int32) → (Nat → Int32) → (Nat → Int32) → (Nat → Int32) → (Nat → Int32) → (Nat → Int32) → (Nat → Int32) → (Nat → Int32) → (Nat → Int32) → (Nat → Int32) → (Nat → Int32) → (Nat → Int32) → (Nat → Int32) → (Nat → Int32) → Prop)} {tm x2 e p a m sf lt : Int32} {i n : Nat} (hi : i < 8) (hnm : ∀ c, cp_nm (pa (12 * c + 1))) (hsu : ∀ j, cp_nm (su j)) (hK : cp_K pa) (hsf : sf = 0 ↔ ¬ cp_self pa i) (hlt : lt = 0 ↔ i + 1 ≠ n) {S : Nat → Nat → Prop} (hZ : cp_Z S) (hS : cy_R ss S)
    (h : ((tm < pa (12 * i + 2) ∨ pa (12 * i + 3) < tm) → post 2 (cap, cnt, anc, up, fl, 2, (nI i), 0, 0, (cp_a pa 0), (cp_a pa 1), (cp_a pa 2), (cp_a pa 3), (cp_a pa 4), (cp_a pa 5), (cp_a pa 6), (cp_a pa 7), (cp_a pa 8), (cp_a pa 9), (cp_a pa 10), (cp_a pa 11), mp, (cp_sp su 0), (cp_sp su 1), ss, ns)) ∧ (¬ (tm < pa (12 * i + 2) ∨ pa (12 * i + 3) < tm) →
      ((¬ pa (12 * i) = cp_want pa anc i) → post 3 (cap, cnt, anc, up, fl, 3, (nI i), 0, 0, (cp_a pa 0), (cp_a pa 1), (cp_a pa 2), (cp_a pa 3), (cp_a pa 4), (cp_a pa 5), (cp_a pa 6), (cp_a pa 7), (cp_a pa 8), (cp_a pa 9), (cp_a pa 10), (cp_a pa 11), mp, (cp_sp su 0), (cp_sp su 1), ss, ns)) ∧ (¬ (¬ pa (12 * i) = cp_want pa anc i) →
      ((¬ cp_ex pa n i ∧ cp_bad pa su i) → post 4 (cap, cnt, anc, up, fl, 4, (nI i), 0, 0, (cp_a pa 0), (cp_a pa 1), (cp_a pa 2), (cp_a pa 3), (cp_a pa 4), (cp_a pa 5), (cp_a pa 6), (cp_a pa 7), (cp_a pa 8), (cp_a pa 9), (cp_a pa 10), (cp_a pa 11), mp, (cp_sp su 0), (cp_sp su 1), ss, ns)) ∧ (¬ (¬ cp_ex pa n i ∧ cp_bad pa su i) →
      ∀ ns, cy_R ns (cp_NN pa mp n i p a S) → ((e = 0 ∧ cp_em (cp_NN pa mp n i p a S)) → post 5 (cap, cnt, anc, up, fl, 5, (nI i), 0, 0, (cp_a pa 0), (cp_a pa 1), (cp_a pa 2), (cp_a pa 3), (cp_a pa 4), (cp_a pa 5), (cp_a pa 6), (cp_a pa 7), (cp_a pa 8), (cp_a pa 9), (cp_a pa 10), (cp_a pa 11), mp, (cp_sp su 0), (cp_sp su 1), ss, ns)) ∧ (¬ (e = 0 ∧ cp_em (cp_NN pa mp n i p a S)) → wY_validate_323 post J tm x2 e p a m (nI i) sf lt cap cnt anc up fl ys yf yF yR (cp_a pa 0) (cp_a pa 1) (cp_a pa 2) (cp_a pa 3) (cp_a pa 4) (cp_a pa 5) (cp_a pa 6) (cp_a pa 7) (cp_a pa 8) (cp_a pa 9) (cp_a pa 10) (cp_a pa 11) mp (cp_sp su 0) (cp_sp su 1) ss ns))))) :
    wY_validate_153 post J tm x2 e p a m (nI i) sf lt cap cnt anc up fl ys yf yF yR (cp_a pa 0) (cp_a pa 1) (cp_a pa 2) (cp_a pa 3) (cp_a pa 4) (cp_a pa 5) (cp_a pa 6) (cp_a pa 7) (cp_a pa 8) (cp_a pa 9) (cp_a pa 10) (cp_a pa 11) mp (cp_sp su 0) (cp_sp su 1) ss ns := by
  unfold wY_validate_153
  rw [nI_clamp (by omega)]
  have v : vp_in (nI i) 8 := vp_in_nI (by omega) (by omega)
  refine ⟨v, br_c (fun c => y_fail (h.1 (Or.inl c))) (fun c => ⟨v, br_c (fun d => ?_) (fun d => y_fail (h.1 (Or.inr (Int32.not_le.mp d))))⟩)⟩
  have h' := h.2 (fun q => q.elim c (Int32.not_lt.mpr d))
  refine pk_eq i 0 (fun e0 => ?_) (fun e0 => ?_)
  · exact y_206 hi hnm hsu hK (by rw [e0]; rfl) hsf hlt hZ hS h'
  · obtain ⟨k, rfl⟩ : ∃ k, i = k + 1 := ⟨i - 1, by omega⟩
    rw [nI_pred, nI_clamp (by omega)]
    exact ⟨vp_in_nI (by omega) (by omega), y_206 hi hnm hsu hK rfl hsf hlt hZ hS h'⟩
theorem y_valL {post : Int32 → SY → Prop} {n : Nat} (hn : n ≤ 8) (hnm : ∀ c, cp_nm (pa (12 * c + 1))) (hsu : ∀ j, cp_nm (su j)) (hK : cp_K pa) (hT : ∀ j, cp_T (mp j)) {tm : Int32} :
    ∀ (d i : Nat) (e p a m : Int32) (ss ns : Nat → Int32) (S : Nat → Nat → Prop), i + d = n → 1 ≤ d → 0 ≤ e → 0 ≤ m → cp_Z S → cy_R ss S →
    cp_V pa mp su anc up tm n (fun s x F R => ∀ ss ns, post s (cap, cnt, anc, up, fl, s, x, F, R, (cp_a pa 0), (cp_a pa 1), (cp_a pa 2), (cp_a pa 3), (cp_a pa 4), (cp_a pa 5), (cp_a pa 6), (cp_a pa 7), (cp_a pa 8), (cp_a pa 9), (cp_a pa 10), (cp_a pa 11), mp, (cp_sp su 0), (cp_sp su 1), ss, ns)) d i e p a m S →
    wY_validate_110 post tm (nI n) (d + 1) e p a m (nI i) cap cnt anc up fl ys yf yF yR (cp_a pa 0) (cp_a pa 1) (cp_a pa 2) (cp_a pa 3) (cp_a pa 4) (cp_a pa 5) (cp_a pa 6) (cp_a pa 7) (cp_a pa 8) (cp_a pa 9) (cp_a pa 10) (cp_a pa 11) mp (cp_sp su 0) (cp_sp su 1) ss ns := by
  intro d
  induction d with
  | zero => intro i e p a m ss ns S h1 h2; omega
  | succ d ih =>
    intro i e p a m ss ns S h1 h2 he hm hZ hS hV
    unfold cp_V at hV
    have hi : i < 8 := by omega
    have v : vp_in (nI i) 8 := vp_in_nI (by omega) (by omega)
    have key : ∀ sf lt : Int32, (sf = 0 ↔ ¬ cp_self pa i) → (lt = 0 ↔ i + 1 ≠ n) → wY_validate_153 post (wY_validate_110 post tm (nI n) (d + 1)) tm (nI n) e p a m (nI i) sf lt cap cnt anc up fl ys yf yF yR (cp_a pa 0) (cp_a pa 1) (cp_a pa 2) (cp_a pa 3) (cp_a pa 4) (cp_a pa 5) (cp_a pa 6) (cp_a pa 7) (cp_a pa 8) (cp_a pa 9) (cp_a pa 10) (cp_a pa 11) mp (cp_sp su 0) (cp_sp su 1) ss ns := by
      intro sf lt hsf hlt
      refine y_153 hi hnm hsu hK hsf hlt hZ hS ⟨fun c1 => hV.1 c1 _ _, fun c1 => ⟨fun c2 => (hV.2 c1).1 c2 _ _, fun c2 => ⟨fun c3 => ((hV.2 c1).2 c2).1 c3 _ _, fun c3 ns' hN => ⟨fun c4 => (((hV.2 c1).2 c2).2 c3).1 c4 _ _, fun c4 => ?_⟩⟩⟩⟩
      have hV' := (((hV.2 c1).2 c2).2 c3).2 c4
      refine y_323 (by omega) hn hsf hlt he hm hN hT ⟨fun l R hR => ⟨fun q => (hV'.1 l R hR).1 q _ _, fun q => (hV'.1 l R hR).2 q _ _⟩, fun l => ⟨fun c6 => (hV'.2 l).1 c6 _ _, fun c6 => ⟨fun c7 => ((hV'.2 l).2 c6).1 c7 _ _, fun c7 => ⟨fun c8 => (((hV'.2 l).2 c6).2 c7).1 c8 _ _, fun c8 ss' hS' => ?_⟩⟩⟩⟩
      exact ih (i + 1) _ _ _ _ ss' ns' _ (by omega) (by omega) (cp_nx0 he) (cp_nx0 hm) (cp_ZS cp_ZN fun w => cp_T0 (hT _)) hS' ((((hV'.2 l).2 c6).2 c7).2 c8)
    have key2 : ∀ sf : Int32, (sf = 0 ↔ ¬ cp_self pa i) → wY_validate_138 post (wY_validate_110 post tm (nI n) (d + 1)) tm (nI n) e p a m (nI i) sf cap cnt anc up fl ys yf yF yR (cp_a pa 0) (cp_a pa 1) (cp_a pa 2) (cp_a pa 3) (cp_a pa 4) (cp_a pa 5) (cp_a pa 6) (cp_a pa 7) (cp_a pa 8) (cp_a pa 9) (cp_a pa 10) (cp_a pa 11) mp (cp_sp su 0) (cp_sp su 1) ss ns := by
      intro sf hsf
      unfold wY_validate_138
      have e1 : nI n - 1 = nI (n - 1) := by
        obtain ⟨k, rfl⟩ : ∃ k, n = k + 1 := ⟨n - 1, by omega⟩
        exact nI_pred k
      rw [e1]
      exact pk_eq i (n - 1) (fun q => key sf 1 hsf ⟨fun z => absurd z (by decide), fun z => absurd (by omega) z⟩) (fun q => key sf 0 hsf ⟨fun _ => by omega, fun _ => rfl⟩)
    refine br_f (nI_ge (by omega) (by omega)) ⟨v, v, ?_⟩
    rw [nI_clamp (by omega)]
    exact br_c (fun q => key2 1 ⟨fun z => absurd z (by decide), fun z => absurd q z⟩) (fun q => key2 0 ⟨fun _ => q, fun _ => rfl⟩)
theorem y_78 {post : Int32 → SY → Prop} {x1 x2 e p a m : Int32}
    (h : ∀ ss, cy_R ss cp_S0 → ∃ n110 : Nat, wY_validate_110 post x1 x2 n110 e p a m 0 cap cnt anc up fl ys yf yF yR (cp_a pa 0) (cp_a pa 1) (cp_a pa 2) (cp_a pa 3) (cp_a pa 4) (cp_a pa 5) (cp_a pa 6) (cp_a pa 7) (cp_a pa 8) (cp_a pa 9) (cp_a pa 10) (cp_a pa 11) mp (cp_sp su 0) (cp_sp su 1) ss ns) :
    ∀ (d k : Nat) (ss : Nat → Int32), k + d = 256 → (∀ j, j < k → ss j = 0) → wY_validate_78 post x1 x2 e p a m cap cnt anc up fl ys yf yF yR (d + 1) (nI k) (cp_a pa 0) (cp_a pa 1) (cp_a pa 2) (cp_a pa 3) (cp_a pa 4) (cp_a pa 5) (cp_a pa 6) (cp_a pa 7) (cp_a pa 8) (cp_a pa 9) (cp_a pa 10) (cp_a pa 11) mp (cp_sp su 0) (cp_sp su 1) ss ns := by
  intro d
  induction d with
  | zero =>
    intro k ss hk H
    obtain rfl : k = 256 := by omega
    refine br_t (by decide) (nm_e (h _ (cy_R0 ?_ fun x hx h0 => ?_)))
    · rw [pk_us, y_v1]; decide
    · rw [pk_un h0]; exact H x hx
  | succ d ih =>
    intro k ss hk H
    refine br_f (nI_ge (b := 256) (by omega) (by decide)) ⟨vp_in_nI (by omega) (by omega), nm_r (by rw [nI_clamp (by omega)]) (nm_r (nI_1 k) (ih (k + 1) (upd ss k (vp_nar .boolean 0)) (by omega) fun j hj => ?_))⟩
    by_cases e : j = k
    · subst e; rw [pk_us, y_v0]
    · rw [pk_un e]; exact H j (by omega)
theorem cp_c00 {fl b : Int32} {n : Nat} (hn : n ≤ 8) : 0 ≤ cp_c0 fl b n := by
  unfold cp_c0
  split
  · rw [nI_1]; exact nI_pos' (by omega)
  · decide
theorem y_val {post : Int32 → SY → Prop} {n : Nat} (h1 : 1 ≤ n) (hn : n ≤ 8) (hnm : ∀ c, cp_nm (pa (12 * c + 1))) (hsu : ∀ j, cp_nm (su j)) (hK : cp_K pa) (hT : ∀ j, cp_T (mp j)) {tm : Int32}
    (h : cp_V pa mp su anc up tm n (fun s x F R => ∀ ss ns, post s (cap, (nI n), anc, up, fl, s, x, F, R, (cp_a pa 0), (cp_a pa 1), (cp_a pa 2), (cp_a pa 3), (cp_a pa 4), (cp_a pa 5), (cp_a pa 6), (cp_a pa 7), (cp_a pa 8), (cp_a pa 9), (cp_a pa 10), (cp_a pa 11), mp, (cp_sp su 0), (cp_sp su 1), ss, ns)) n 0 (cp_c0 fl 1 n) (cp_c0 fl 2 n) (cp_c0 fl 4 n) (nI n) cp_S0) : wpY_validate post (cap, (nI n), anc, up, fl, ys, yf, yF, yR, (cp_a pa 0), (cp_a pa 1), (cp_a pa 2), (cp_a pa 3), (cp_a pa 4), (cp_a pa 5), (cp_a pa 6), (cp_a pa 7), (cp_a pa 8), (cp_a pa 9), (cp_a pa 10), (cp_a pa 11), mp, (cp_sp su 0), (cp_sp su 1), ss, ns) tm := by
  unfold wpY_validate
  have key : ∀ e p a : Int32, e = cp_c0 fl 1 n → p = cp_c0 fl 2 n → a = cp_c0 fl 4 n → ∃ n78 : Nat, wY_validate_78 post tm (nI n) e p a (nI n) cap (nI n) anc up fl ys yf yF yR n78 0 (cp_a pa 0) (cp_a pa 1) (cp_a pa 2) (cp_a pa 3) (cp_a pa 4) (cp_a pa 5) (cp_a pa 6) (cp_a pa 7) (cp_a pa 8) (cp_a pa 9) (cp_a pa 10) (cp_a pa 11) mp (cp_sp su 0) (cp_sp su 1) ss ns := by
    rintro e p a rfl rfl rfl
    refine ⟨257, y_78 (fun ss' hS => ⟨n + 1, ?_⟩) 256 0 ss rfl (fun j hj => absurd hj (by omega))⟩
    exact y_valL hn hnm hsu hK hT n 0 _ _ _ _ ss' ns _ (by omega) h1 (cp_c00 hn) (nI_pos' (by omega)) cp_ZS0 hS h
  have k52 : ∀ e p : Int32, e = cp_c0 fl 1 n → p = cp_c0 fl 2 n → wY_validate_52 post tm (nI n) e p cap (nI n) anc up fl ys yf yF yR (cp_a pa 0) (cp_a pa 1) (cp_a pa 2) (cp_a pa 3) (cp_a pa 4) (cp_a pa 5) (cp_a pa 6) (cp_a pa 7) (cp_a pa 8) (cp_a pa 9) (cp_a pa 10) (cp_a pa 11) mp (cp_sp su 0) (cp_sp su 1) ss ns := by
    intro e p he hp
    unfold wY_validate_52
    exact br_c (fun c => nm_e (key e p _ he hp (if_pos c).symm)) (fun c => key e p _ he hp (if_neg c).symm)
  have k35 : ∀ e : Int32, e = cp_c0 fl 1 n → wY_validate_35 post tm (nI n) e cap (nI n) anc up fl ys yf yF yR (cp_a pa 0) (cp_a pa 1) (cp_a pa 2) (cp_a pa 3) (cp_a pa 4) (cp_a pa 5) (cp_a pa 6) (cp_a pa 7) (cp_a pa 8) (cp_a pa 9) (cp_a pa 10) (cp_a pa 11) mp (cp_sp su 0) (cp_sp su 1) ss ns := by
    intro e he
    unfold wY_validate_35
    exact br_c (fun c => k52 e _ he (if_pos c).symm) (fun c => k52 e _ he (if_neg c).symm)
  exact br_f (nI_ne0 (by omega) (by omega)) (br_c (fun c => k35 _ (if_pos c).symm) (fun c => k35 _ (if_neg c).symm))
end YV
