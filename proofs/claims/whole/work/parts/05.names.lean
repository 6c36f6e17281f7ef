section XN
variable {cap cnt anc up fl ls lf la lr el ml al ll : Int32} {pa mp su ex no : Nat → Int32}
/-! X: the name constraints -/
theorem x_inSomeL {post : Int32 → Prop} {x : Int32} {j kd K : Nat} (hj : j < 8) (hkd : kd < 2) (hK : K ≤ 4) (hc : pa (12 * j + (10 + kd)) = nI K)
    (h1 : cp_any pa su x j kd → post 1) (h0 : ¬ cp_any pa su x j kd → post 0) : ∀ d k, k + d = K → (∀ q, q < k → ¬ cp_lie x (su (8 * j + 4 * kd + q))) →
    wX_inSomeSubtree_18 post x (nI K) (nI (8 * j + 4 * kd)) cap cnt anc up fl ls lf la lr el ml al ll pa mp su ex no (d + 1) (nI k) := by
  intro d
  induction d with
  | zero =>
    intro k hk H
    obtain rfl : k = K := by omega
    refine br_t (nI_le (by omega) (by omega)) (h0 ?_)
    rintro ⟨q, q4, ql, hq⟩
    rw [hc, nI_ltI (by omega) (by omega)] at ql
    exact H q ql hq
  | succ d ih =>
    intro k hk H
    refine br_f (nI_ge (by omega) (by omega)) ?_
    have e : nI (8 * j + 4 * kd) + nI k = nI (8 * j + 4 * kd + k) := nI_add _ _
    rw [e, nI_clamp (by omega)]
    refine ⟨vp_in_nI (by omega) (by omega), x_liesIn (fun hl => br_f (by decide) (h1 ⟨k, by omega, ?_, hl⟩)) (fun hl => br_t rfl (nm_r (nI_1 k) (ih (k + 1) (by omega) ?_)))⟩
    · rw [hc]; exact nI_lt (by omega) (by omega)
    · intro q hq
      by_cases e : q = k
      · subst e; exact hl
      · exact H q (by omega)
theorem x_inSome {post : Int32 → Prop} {x : Int32} {j kd : Nat} (hj : j < 8) (hkd : kd < 2) (hK : cp_K pa)
    (h1 : cp_any pa su x j kd → post 1) (h0 : ¬ cp_any pa su x j kd → post 0) : wpX_inSomeSubtree post (cap, cnt, anc, up, fl, ls, lf, la, lr, el, ml, al, ll, pa, mp, su, ex, no) x (nI j) (nI kd) := by
  unfold wpX_inSomeSubtree
  obtain ⟨K, k4, hc⟩ := hK j kd hkd
  refine x_subCnt hj hkd (x_first ⟨K + 1, ?_⟩)
  rw [hc]
  exact x_inSomeL hj hkd k4 hc h1 h0 K 0 (by omega) (fun q hq => absurd hq (by omega))
def cp_bj (pa su : Nat → Int32) (x : Int32) (j : Nat) : Prop := (0 < pa (12 * j + 10) ∧ ¬ cp_any pa su x j 0) ∨ cp_any pa su x j 1
theorem x_badL {post : Int32 → Prop} {x : Int32} {i : Nat} (hi : i < 8) (hK : cp_K pa)
    (h1 : (∃ j, j < i ∧ cp_bj pa su x j) → post 1) (h0 : (∀ j, j < i → ¬ cp_bj pa su x j) → post 0) : ∀ d j, j + d = i → (∀ q, q < j → ¬ cp_bj pa su x q) →
    wX_breaksNameConstraints_9 post (nI i) x cap cnt anc up fl ls lf la lr el ml al ll pa mp su ex no (d + 1) (nI j) := by
  intro d
  induction d with
  | zero =>
    intro j hj H
    obtain rfl : j = i := by omega
    exact br_t (nI_le (by omega) (by omega)) (h0 H)
  | succ d ih =>
    intro j hj H
    have step : ((0 < pa (12 * j + 10) → cp_any pa su x j 0)) → wX_breaksNameConstraints_35 post (wX_breaksNameConstraints_9 post (nI i) x cap cnt anc up fl ls lf la lr el ml al ll pa mp su ex no (d + 1)) (nI i) x (nI j) cap cnt anc up fl ls lf la lr el ml al ll pa mp su ex no := by
      intro hp
      unfold wX_breaksNameConstraints_35
      refine x_inSome (kd := 1) (by omega) (by decide) hK (fun ha => br_f (by decide) (h1 ⟨j, by omega, Or.inr ha⟩)) (fun ha => br_t rfl (nm_r (nI_1 j) (ih (j + 1) (by omega) ?_)))
      intro q hq
      by_cases e : q = j
      · subst e
        rintro (⟨z1, z2⟩ | z)
        · exact z2 (hp z1)
        · exact ha z
      · exact H q (by omega)
    refine br_f (nI_ge (by omega) (by omega)) (x_subCnt (k := 0) (by omega) (by decide) (br_c (fun hz => step (fun hp => absurd hz (Int32.not_le.mpr hp))) (fun hz => ?_)))
    exact x_inSome (kd := 0) (by omega) (by decide) hK (fun ha => br_f (by decide) (step (fun _ => ha))) (fun ha => br_t rfl (h1 ⟨j, by omega, Or.inl ⟨Int32.not_le.mp hz, ha⟩⟩))
theorem x_bad {post : Int32 → Prop} {i : Nat} (hi : i < 8) (hK : cp_K pa)
    (h1 : cp_bad pa su i → post 1) (h0 : ¬ cp_bad pa su i → post 0) : wpX_breaksNameConstraints post (cap, cnt, anc, up, fl, ls, lf, la, lr, el, ml, al, ll, pa, mp, su, ex, no) (nI i) := by
  unfold wpX_breaksNameConstraints
  refine x_part (f := 1) hi (by decide) ⟨i + 1, ?_⟩
  exact x_badL (x := pa (12 * i + 1)) hi hK (fun h => h1 h) (fun h => h0 (fun ⟨j, hj, hb⟩ => h j hj hb)) i 0 (by omega) (fun q hq => absurd hq (by omega))
end XN
section YN
variable {cap cnt anc up fl ys yf yF yR : Int32} {pa mp su ss ns : Nat → Int32}
/-! Y: bits and names -/
theorem y_bit {post : Int32 → Prop} {x : Int32} {b : Nat} (hb : b < 32) (h1 : bt x b = true → post 1) (h0 : bt x b = false → post 0) : wpY_bit post (cap, cnt, anc, up, fl, ys, yf, yF, yR, (cp_a pa 0), (cp_a pa 1), (cp_a pa 2), (cp_a pa 3), (cp_a pa 4), (cp_a pa 5), (cp_a pa 6), (cp_a pa 7), (cp_a pa 8), (cp_a pa 9), (cp_a pa 10), (cp_a pa 11), mp, (cp_sp su 0), (cp_sp su 1), ss, ns) x (nI b) := by
  unfold wpY_bit
  exact br_c (fun h => h0 ((cq_by x hb).mp h)) (fun h => h1 (cq_nf.mp (mt (cq_by x hb).mpr h)))
theorem y_gk {x : Int32} {k : Nat} : (x >>> ((4 * nI k) &&& 31)) &&& 15 = cp_g x k := by
  have e : 4 * nI k = nI (4 * k) := pk_mul 4 k
  rw [e]
  rfl
theorem y_isNameL {post : Int32 → Prop} {x : Int32} (hr : 0 ≤ x ∧ x ≤ 65535) (h1 : cp_nm x → post 1) (h0 : ¬ cp_nm x → post 0) : ∀ d k f, k + d = 4 →
    (∀ j, j + 1 < k → ¬ cp_g x (j + 1) = 0 → ¬ cp_g x j = 0) → ((f = 0 ∧ ∀ j, j < k → ¬ cp_g x j = 0) ∨ (f = 1 ∧ ∃ m, k = m + 1 ∧ cp_g x m = 0)) →
    wY_isName_16 post x cap cnt anc up fl ys yf yF yR (cp_a pa 0) (cp_a pa 1) (cp_a pa 2) (cp_a pa 3) (cp_a pa 4) (cp_a pa 5) (cp_a pa 6) (cp_a pa 7) (cp_a pa 8) (cp_a pa 9) (cp_a pa 10) (cp_a pa 11) mp (cp_sp su 0) (cp_sp su 1) ss ns (d + 1) f (nI k) := by
  intro d
  induction d with
  | zero =>
    intro k f hk H F
    obtain rfl : k = 4 := by omega
    exact br_t (by decide) (h1 ⟨hr, fun j hj => H j (by omega)⟩)
  | succ d ih =>
    intro k f hk H F
    refine br_f (nI_ge (b := 4) (by omega) (by decide)) (nm_r y_gk (br_c (fun hz => nm_r (nI_1 k) (ih (k + 1) 1 (by omega) ?_ ?_)) (fun hz => br_c (fun hf => nm_r (nI_1 k) (ih (k + 1) f (by omega) ?_ ?_)) (fun hf => h0 ?_))))
    · intro j hj hg
      by_cases e : j + 1 = k
      · subst e; exact absurd hz hg
      · exact H j (by omega) hg
    · exact Or.inr ⟨rfl, k, rfl, hz⟩
    · intro j hj hg
      rcases F with ⟨_, F⟩ | ⟨F, _⟩
      · exact F j (by omega)
      · rw [hf] at F; exact absurd F (by decide)
    · rcases F with ⟨_, F⟩ | ⟨F, _⟩
      · refine Or.inl ⟨hf, fun j hj => ?_⟩
        by_cases e : j = k
        · subst e; exact hz
        · exact F j (by omega)
      · rw [hf] at F; exact absurd F (by decide)
    · rcases F with ⟨F, _⟩ | ⟨_, m, rfl, hm⟩
      · exact absurd F hf
      · exact fun z => z.2 m (by omega) hz hm
theorem y_isName {post : Int32 → Prop} {x : Int32} (h1 : cp_nm x → post 1) (h0 : ¬ cp_nm x → post 0) : wpY_isName post (cap, cnt, anc, up, fl, ys, yf, yF, yR, (cp_a pa 0), (cp_a pa 1), (cp_a pa 2), (cp_a pa 3), (cp_a pa 4), (cp_a pa 5), (cp_a pa 6), (cp_a pa 7), (cp_a pa 8), (cp_a pa 9), (cp_a pa 10), (cp_a pa 11), mp, (cp_sp su 0), (cp_sp su 1), ss, ns) x := by
  unfold wpY_isName
  exact br_c (fun h => h0 (fun z => absurd z.1.1 (Int32.not_le.mpr h))) (fun h => br_c (fun h' => ⟨5, y_isNameL ⟨Int32.not_lt.mp h, h'⟩ h1 h0 4 0 0 rfl (fun j hj => absurd hj (by omega)) (Or.inl ⟨rfl, fun j hj => absurd hj (by omega)⟩)⟩) (fun h' => h0 (fun z => h' z.1.2)))
def cp_sm (x : Int32) : Nat → Nat
  | 0 => 0
  | k + 1 => cp_sm x k + cp_c x k
theorem cp_sml (x : Int32) : cp_sm x 4 = cp_l x := by
  show 0 + cp_c x 0 + cp_c x 1 + cp_c x 2 + cp_c x 3 = _
  unfold cp_l
  omega
theorem y_nameLenL {post : Int32 → Prop} {x : Int32} (h : post (nI (cp_l x))) : ∀ d k, k + d = 4 → wY_nameLen_4 post x cap cnt anc up fl ys yf yF yR (cp_a pa 0) (cp_a pa 1) (cp_a pa 2) (cp_a pa 3) (cp_a pa 4) (cp_a pa 5) (cp_a pa 6) (cp_a pa 7) (cp_a pa 8) (cp_a pa 9) (cp_a pa 10) (cp_a pa 11) mp (cp_sp su 0) (cp_sp su 1) ss ns (d + 1) (nI (cp_sm x k)) (nI k) := by
  intro d
  induction d with
  | zero =>
    intro k hk
    obtain rfl : k = 4 := by omega
    rw [cp_sml]
    exact br_t (by decide) h
  | succ d ih =>
    intro k hk
    refine br_f (nI_ge (b := 4) (by omega) (by decide)) ?_
    rw [y_gk]
    by_cases hz : cp_g x k = 0
    · refine br_t hz (nm_r (nI_1 k) ?_)
      have e : cp_sm x k = cp_sm x (k + 1) := by
        show _ = cp_sm x k + cp_c x k
        unfold cp_c
        rw [if_pos hz, Nat.add_zero]
      rw [e]
      exact ih (k + 1) (by omega)
    · refine br_f hz (nm_r (nI_1 _) (nm_r (nI_1 k) ?_))
      have e : cp_sm x k + 1 = cp_sm x (k + 1) := by
        show _ = cp_sm x k + cp_c x k
        unfold cp_c
        rw [if_neg hz]
      rw [e]
      exact ih (k + 1) (by omega)
theorem y_nameLen {post : Int32 → Prop} {x : Int32} (h : post (nI (cp_l x))) : wpY_nameLen post (cap, cnt, anc, up, fl, ys, yf, yF, yR, (cp_a pa 0), (cp_a pa 1), (cp_a pa 2), (cp_a pa 3), (cp_a pa 4), (cp_a pa 5), (cp_a pa 6), (cp_a pa 7), (cp_a pa 8), (cp_a pa 9), (cp_a pa 10), (cp_a pa 11), mp, (cp_sp su 0), (cp_sp su 1), ss, ns) x := ⟨5, y_nameLenL h 4 0 rfl⟩
theorem y_liesL {post : Int32 → Prop} {x s : Int32} {L : Nat} (hL : L ≤ 4) (h1 : (∀ k, k < L → cp_g x k = cp_g s k) → post 1) (h0 : ¬ (∀ k, k < L → cp_g x k = cp_g s k) → post 0) :
    ∀ d k, k + d = L → (∀ j, j < k → cp_g x j = cp_g s j) → wY_lies_20 post x s (nI L) cap cnt anc up fl ys yf yF yR (cp_a pa 0) (cp_a pa 1) (cp_a pa 2) (cp_a pa 3) (cp_a pa 4) (cp_a pa 5) (cp_a pa 6) (cp_a pa 7) (cp_a pa 8) (cp_a pa 9) (cp_a pa 10) (cp_a pa 11) mp (cp_sp su 0) (cp_sp su 1) ss ns (d + 1) (nI k) := by
  intro d
  induction d with
  | zero =>
    intro k hk H
    obtain rfl : k = L := by omega
    exact br_t (nI_le (by omega) (by omega)) (h1 H)
  | succ d ih =>
    intro k hk H
    refine br_f (nI_ge (by omega) (by omega)) ?_
    rw [y_gk, y_gk]
    refine br_c (fun he => nm_r (nI_1 k) (ih (k + 1) (by omega) ?_)) (fun he => h0 (fun z => he (z k (by omega))))
    intro j hj
    by_cases e : j = k
    · subst e; exact he
    · exact H j (by omega)
theorem y_lies {post : Int32 → Prop} {x s : Int32} (hx : cp_nm x) (hs : cp_nm s) (h1 : cp_lie x s → post 1) (h0 : ¬ cp_lie x s → post 0) : wpY_lies post (cap, cnt, anc, up, fl, ys, yf, yF, yR, (cp_a pa 0), (cp_a pa 1), (cp_a pa 2), (cp_a pa 3), (cp_a pa 4), (cp_a pa 5), (cp_a pa 6), (cp_a pa 7), (cp_a pa 8), (cp_a pa 9), (cp_a pa 10), (cp_a pa 11), mp, (cp_sp su 0), (cp_sp su 1), ss, ns) x s := by
  unfold wpY_lies
  have l1 := cp_l4 s
  have l2 := cp_l4 x
  refine y_nameLen (y_nameLen (pk_le (cp_l s) (cp_l x) (fun h => ⟨cp_l s + 1, ?_⟩) (fun h => h0 (fun z => absurd ((cp_lieY hx hs).mp z).1 (by omega)))))
  exact y_liesL l1 (fun z => h1 ((cp_lieY hx hs).mpr ⟨h, z⟩)) (fun z => h0 (fun w => z ((cp_lieY hx hs).mp w).2)) (cp_l s) 0 (by omega) (fun j hj => absurd hj (by omega))
theorem y_inAnyL {post : Int32 → Prop} {x : Int32} {j kd K : Nat} (hx : cp_nm x) (hsu : ∀ j, cp_nm (su j)) (hj : j < 8) (hkd : kd < 2) (hK : K ≤ 4) (hc : pa (12 * j + (10 + kd)) = nI K)
    (h1 : cp_any pa su x j kd → post 1) (h0 : ¬ cp_any pa su x j kd → post 0) : ∀ d k, k + d = K → (∀ q, q < k → ¬ cp_lie x (su (8 * j + 4 * kd + q))) →
    wY_inAny_24 post (nI kd) (nI j) x (nI K) cap cnt anc up fl ys yf yF yR (cp_a pa 0) (cp_a pa 1) (cp_a pa 2) (cp_a pa 3) (cp_a pa 4) (cp_a pa 5) (cp_a pa 6) (cp_a pa 7) (cp_a pa 8) (cp_a pa 9) (cp_a pa 10) (cp_a pa 11) mp (cp_sp su 0) (cp_sp su 1) ss ns (d + 1) (nI k) := by
  intro d
  induction d with
  | zero =>
    intro k hk H
    obtain rfl : k = K := by omega
    refine br_t (nI_le (by omega) (by omega)) (h0 ?_)
    rintro ⟨q, q4, ql, hq⟩
    rw [hc, nI_ltI (by omega) (by omega)] at ql
    exact H q ql hq
  | succ d ih =>
    intro k hk H
    have step : wY_inAny_66 post (wY_inAny_24 post (nI kd) (nI j) x (nI K) cap cnt anc up fl ys yf yF yR (cp_a pa 0) (cp_a pa 1) (cp_a pa 2) (cp_a pa 3) (cp_a pa 4) (cp_a pa 5) (cp_a pa 6) (cp_a pa 7) (cp_a pa 8) (cp_a pa 9) (cp_a pa 10) (cp_a pa 11) mp (cp_sp su 0) (cp_sp su 1) ss ns (d + 1)) (nI kd) (nI j) x (nI K) (nI k) (su (8 * j + 4 * kd + k)) cap cnt anc up fl ys yf yF yR (cp_a pa 0) (cp_a pa 1) (cp_a pa 2) (cp_a pa 3) (cp_a pa 4) (cp_a pa 5) (cp_a pa 6) (cp_a pa 7) (cp_a pa 8) (cp_a pa 9) (cp_a pa 10) (cp_a pa 11) mp (cp_sp su 0) (cp_sp su 1) ss ns := by
      unfold wY_inAny_66
      refine y_lies hx (hsu _) (fun hl => br_f (by decide) (h1 ⟨k, by omega, ?_, hl⟩)) (fun hl => br_t rfl (nm_r (nI_1 k) (ih (k + 1) (by omega) ?_)))
      · rw [hc]; exact nI_lt (by omega) (by omega)
      · intro q hq
        by_cases e : q = k
        · subst e; exact hl
        · exact H q (by omega)
    refine br_f (nI_ge (by omega) (by omega)) (br_f (nI_ge (b := 4) (by omega) (by decide)) ?_)
    have e : nI j * 4 + nI k = nI (4 * j + k) := x_ix
    rw [e, nI_clamp (by omega)]
    have hkd' : kd = 0 ∨ kd = 1 := by omega
    rcases hkd' with rfl | rfl
    · refine br_t rfl ⟨vp_in_nI (by omega) (by omega), ?_⟩
      rw [cp_spk (by omega)]
      exact step
    · refine br_f (by decide) ⟨vp_in_nI (by omega) (by omega), ?_⟩
      rw [cp_spk (by omega)]
      exact step
theorem y_inAny {post : Int32 → Prop} {x : Int32} {j kd : Nat} (hx : cp_nm x) (hsu : ∀ j, cp_nm (su j)) (hj : j < 8) (hkd : kd < 2) (hK : cp_K pa)
    (h1 : cp_any pa su x j kd → post 1) (h0 : ¬ cp_any pa su x j kd → post 0) : wpY_inAny post (cap, cnt, anc, up, fl, ys, yf, yF, yR, (cp_a pa 0), (cp_a pa 1), (cp_a pa 2), (cp_a pa 3), (cp_a pa 4), (cp_a pa 5), (cp_a pa 6), (cp_a pa 7), (cp_a pa 8), (cp_a pa 9), (cp_a pa 10), (cp_a pa 11), mp, (cp_sp su 0), (cp_sp su 1), ss, ns) (nI kd) (nI j) x := by
  unfold wpY_inAny
  dsimp only
  obtain ⟨K, k4, hc⟩ := hK j kd hkd
  have hkd' : kd = 0 ∨ kd = 1 := by omega
  have hl := y_inAnyL (cap := cap) (cnt := cnt) (anc := anc) (up := up) (fl := fl) (ys := ys) (yf := yf) (yF := yF) (yR := yR) (mp := mp) (ss := ss) (ns := ns) hx hsu hj hkd k4 hc h1 h0 K 0 (by omega) (fun q hq => absurd hq (by omega))
  rw [nI_clamp (by omega)]
  rcases hkd' with rfl | rfl
  · exact br_t rfl ⟨vp_in_nI (by omega) (by omega), nm_r hc ⟨K + 1, hl⟩⟩
  · exact br_f (by decide) ⟨vp_in_nI (by omega) (by omega), nm_r hc ⟨K + 1, hl⟩⟩
theorem y_okL {post : Int32 → Prop} {i : Nat} (hi : i < 8) (hnm : ∀ c, cp_nm (pa (12 * c + 1))) (hsu : ∀ j, cp_nm (su j)) (hK : cp_K pa)
    (h0 : (∃ j, j < i ∧ cp_bj pa su (pa (12 * i + 1)) j) → post 0) (h1 : (∀ j, j < i → ¬ cp_bj pa su (pa (12 * i + 1)) j) → post 1) : ∀ d j, j + d = i → (∀ q, q < j → ¬ cp_bj pa su (pa (12 * i + 1)) q) →
    wY_nameOk_2 post (nI i) cap cnt anc up fl ys yf yF yR (cp_a pa 0) (cp_a pa 1) (cp_a pa 2) (cp_a pa 3) (cp_a pa 4) (cp_a pa 5) (cp_a pa 6) (cp_a pa 7) (cp_a pa 8) (cp_a pa 9) (cp_a pa 10) (cp_a pa 11) mp (cp_sp su 0) (cp_sp su 1) ss ns (d + 1) (nI j) := by
  intro d
  induction d with
  | zero =>
    intro j hj H
    obtain rfl : j = i := by omega
    exact br_t (nI_le (by omega) (by omega)) (h1 H)
  | succ d ih =>
    intro j hj H
    have hci : (nI i).toNatClampNeg = i := nI_clamp (by omega)
    have hcj : (nI j).toNatClampNeg = j := nI_clamp (by omega)
    have step : ((0 < pa (12 * j + 10) → cp_any pa su (pa (12 * i + 1)) j 0)) → wY_nameOk_33 post (wY_nameOk_2 post (nI i) cap cnt anc up fl ys yf yF yR (cp_a pa 0) (cp_a pa 1) (cp_a pa 2) (cp_a pa 3) (cp_a pa 4) (cp_a pa 5) (cp_a pa 6) (cp_a pa 7) (cp_a pa 8) (cp_a pa 9) (cp_a pa 10) (cp_a pa 11) mp (cp_sp su 0) (cp_sp su 1) ss ns (d + 1)) (nI i) (nI j) cap cnt anc up fl ys yf yF yR (cp_a pa 0) (cp_a pa 1) (cp_a pa 2) (cp_a pa 3) (cp_a pa 4) (cp_a pa 5) (cp_a pa 6) (cp_a pa 7) (cp_a pa 8) (cp_a pa 9) (cp_a pa 10) (cp_a pa 11) mp (cp_sp su 0) (cp_sp su 1) ss ns := by
      intro hp
      unfold wY_nameOk_33
      rw [hci]
      refine ⟨vp_in_nI (by omega) (by omega), y_inAny (kd := 1) (hnm i) hsu (by omega) (by decide) hK (fun ha => br_f (by decide) (h0 ⟨j, by omega, Or.inr ha⟩)) (fun ha => br_t rfl (nm_r (nI_1 j) (ih (j + 1) (by omega) ?_)))⟩
      intro q hq
      by_cases e : q = j
      · subst e
        rintro (⟨z1, z2⟩ | z)
        · exact z2 (hp z1)
        · exact ha z
      · exact H q (by omega)
    refine br_f (nI_ge (by omega) (by omega)) ⟨vp_in_nI (by omega) (by omega), ?_⟩
    rw [hci, hcj]
    refine br_c (fun hz => step (fun hp => absurd hz (Int32.not_le.mpr hp))) (fun hz => ⟨vp_in_nI (by omega) (by omega), ?_⟩)
    exact y_inAny (kd := 0) (hnm i) hsu (by omega) (by decide) hK (fun ha => br_f (by decide) (step (fun _ => ha))) (fun ha => br_t rfl (h0 ⟨j, by omega, Or.inl ⟨Int32.not_le.mp hz, ha⟩⟩))
theorem y_ok {post : Int32 → Prop} {i : Nat} (hi : i < 8) (hnm : ∀ c, cp_nm (pa (12 * c + 1))) (hsu : ∀ j, cp_nm (su j)) (hK : cp_K pa)
    (h0 : cp_bad pa su i → post 0) (h1 : ¬ cp_bad pa su i → post 1) : wpY_nameOk post (cap, cnt, anc, up, fl, ys, yf, yF, yR, (cp_a pa 0), (cp_a pa 1), (cp_a pa 2), (cp_a pa 3), (cp_a pa 4), (cp_a pa 5), (cp_a pa 6), (cp_a pa 7), (cp_a pa 8), (cp_a pa 9), (cp_a pa 10), (cp_a pa 11), mp, (cp_sp su 0), (cp_sp su 1), ss, ns) (nI i) := by
  unfold wpY_nameOk
  exact ⟨i + 1, y_okL hi hnm hsu hK (fun h => h0 h) (fun h => h1 (fun ⟨j, hj, hb⟩ => h j hj hb)) i 0 (by omega) (fun q hq => absurd hq (by omega))⟩
end YN
