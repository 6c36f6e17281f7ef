section YS
variable {cap cnt anc up fl ys yf yF yR : Int32} {pa mp su ss ns : Nat → Int32}
/-! Y: the policy sets -/
theorem y_v0 : vp_nar .boolean 0 = 0 := by decide
theorem y_v1 : vp_nar .boolean 1 = 1 := by decide
def cy_ad (n0 n1 : Nat → Int32) (P : Nat → Prop) : Prop := ∀ j, j < 256 → (¬ n1 j = 0 ↔ ¬ n0 j = 0 ∨ P j)
theorem cy_ad0 {n0 : Nat → Int32} {P : Nat → Prop} (h : ∀ j, ¬ P j) : cy_ad n0 n0 P := fun j _ => ⟨Or.inl, fun q => q.elim id (fun z => absurd z (h j))⟩
theorem cy_adn {n0 n1 : Nat → Int32} {P P' : Nat → Prop} (h : cy_ad n0 n1 P) (hp : ∀ j, P' j ↔ P j) : cy_ad n0 n1 P' := fun j hj => by rw [hp j]; exact h j hj
theorem cy_adh {n0 n1 : Nat → Int32} {P P' : Nat → Prop} {x : Nat} (h : cy_ad n0 n1 P) (hp : ∀ j, P' j ↔ P j ∨ j = x) : cy_ad n0 (upd n1 x (vp_nar .boolean 1)) P' := by
  intro j hj
  rw [hp j, y_v1]
  by_cases e : j = x
  · subst e
    rw [pk_us]
    exact ⟨fun _ => Or.inr (Or.inr rfl), fun _ => by decide⟩
  · rw [pk_un e, h j hj]
    constructor
    · rintro (a | a)
      · exact Or.inl a
      · exact Or.inr (Or.inl a)
    · rintro (a | a | a)
      · exact Or.inl a
      · exact Or.inr a
      · exact absurd a e
theorem y_17 {q : Nat} : nI q * 17 = nI (17 * q) := by
  have e : nI q * 17 = nI (q * 17) := pk_mul q 17
  rw [e, Nat.mul_comm]
theorem y_147 {post : Int32 → SY → Prop} {J : (Int32 → (Nat → Int32) → (Nat → Int32) → (Nat → Int32) → (Nat → Int32) → (Nat → Int32) → (Nat → Int32) → (Nat → Int32) → (Nat → Int32) → (Nat → Int32) → (Nat → Int32) → (Nat → Int32) → (Nat → Int32) → (Nat → Int32) → (Nat → Int32) → (Nat → Int32) → (Nat → Int32) → (Nat → Int32) → Prop)} {i k n : Nat} (hi : i < 8) {z l p C : Int32} (hl : l = 0 ↔ i + 1 ≠ n) {n0 : Nat → Int32}
    (h : ∀ ns, cy_ad n0 ns (fun j => ∃ q, 1 ≤ q ∧ q < 16 ∧ cp_op n p i ∧ ¬ mp (16 * i + q) = 0 ∧ j = 17 * q) → J (nI (k + 1)) (cp_a pa 0) (cp_a pa 1) (cp_a pa 2) (cp_a pa 3) (cp_a pa 4) (cp_a pa 5) (cp_a pa 6) (cp_a pa 7) (cp_a pa 8) (cp_a pa 9) (cp_a pa 10) (cp_a pa 11) mp (cp_sp su 0) (cp_sp su 1) ss ns) :
    ∀ (d q : Nat) (ns : Nat → Int32), q + d = 16 → 1 ≤ q → cy_ad n0 ns (fun j => ∃ q', 1 ≤ q' ∧ q' < q ∧ cp_op n p i ∧ ¬ mp (16 * i + q') = 0 ∧ j = 17 * q') →
    wY_buildN_147 post J (nI i) z l p C (nI k) cap cnt anc up fl ys yf yF yR (d + 1) (nI q) (cp_a pa 0) (cp_a pa 1) (cp_a pa 2) (cp_a pa 3) (cp_a pa 4) (cp_a pa 5) (cp_a pa 6) (cp_a pa 7) (cp_a pa 8) (cp_a pa 9) (cp_a pa 10) (cp_a pa 11) mp (cp_sp su 0) (cp_sp su 1) ss ns := by
  intro d
  induction d with
  | zero =>
    intro q ns hq q1 H
    obtain rfl : q = 16 := by omega
    exact br_t (by decide) (nm_r (nI_1 k) (h ns H))
  | succ d ih =>
    intro q ns hq q1 H
    have nxt : ¬ (cp_op n p i ∧ ¬ mp (16 * i + q) = 0) → wY_buildN_147 post J (nI i) z l p C (nI k) cap cnt anc up fl ys yf yF yR (d + 1) (nI (q + 1)) (cp_a pa 0) (cp_a pa 1) (cp_a pa 2) (cp_a pa 3) (cp_a pa 4) (cp_a pa 5) (cp_a pa 6) (cp_a pa 7) (cp_a pa 8) (cp_a pa 9) (cp_a pa 10) (cp_a pa 11) mp (cp_sp su 0) (cp_sp su 1) ss ns := by
      intro hn
      refine ih (q + 1) ns (by omega) (by omega) (cy_adn H fun j => ⟨?_, ?_⟩)
      · rintro ⟨q', a, b, c, e, f⟩
        by_cases eq : q' = q
        · subst eq; exact absurd ⟨c, e⟩ hn
        · exact ⟨q', a, by omega, c, e, f⟩
      · rintro ⟨q', a, b, c⟩
        exact ⟨q', a, by omega, c⟩
    refine br_f (nI_ge (b := 16) (by omega) (by decide)) (br_c (fun l0 => br_c (fun p0 => nm_r (nI_1 q) (nxt fun a => absurd a.1.2 (Int32.not_lt.mpr p0))) (fun p0 => ?_)) (fun l0 => nm_r (nI_1 q) (nxt fun a => l0 (hl.mpr a.1.1))))
    have e : nI i * 16 + nI q = nI (16 * i + q) := x_ix
    rw [e, nI_clamp (by omega), y_17, nI_clamp (by omega)]
    refine ⟨vp_in_nI (by omega) (by omega), br_c (fun m0 => nm_r (nI_1 q) (nxt fun a => a.2 m0)) (fun m0 => ⟨vp_in_nI (by omega) (by omega), nm_e (nm_r (nI_1 q) (ih (q + 1) _ (by omega) (by omega) (cy_adh H fun j => ⟨?_, ?_⟩)))⟩)⟩
    · rintro ⟨q', a, b, c, e, f⟩
      by_cases eq : q' = q
      · subst eq; exact Or.inr f
      · exact Or.inl ⟨q', a, by omega, c, e, f⟩
    · rintro (⟨q', a, b, c⟩ | a)
      · exact ⟨q', a, by omega, c⟩
      · exact ⟨q, q1, by omega, ⟨hl.mp l0, Int32.not_le.mp p0⟩, m0, a⟩
theorem y_98 {post : Int32 → SY → Prop} {J : (Int32 → (Nat → Int32) → (Nat → Int32) → (Nat → Int32) → (Nat → Int32) → (Nat → Int32) → (Nat → Int32) → (Nat → Int32) → (Nat → Int32) → (Nat → Int32) → (Nat → Int32) → (Nat → Int32) → (Nat → Int32) → (Nat → Int32) → (Nat → Int32) → (Nat → Int32) → (Nat → Int32) → (Nat → Int32) → Prop)} {i k n : Nat} (hi : i < 8) {z l p C : Int32} {an : Prop} (hz : z = 0 ↔ ¬ an) (hl : l = 0 ↔ i + 1 ≠ n) {n0 : Nat → Int32}
    (h : ∀ ns, cy_ad n0 ns (fun j => (∃ q, 1 ≤ q ∧ q < 16 ∧ bt C q = true ∧ j = 17 * q) ∨ (an ∧ (j = 0 ∨ ∃ q, 1 ≤ q ∧ q < 16 ∧ cp_op n p i ∧ ¬ mp (16 * i + q) = 0 ∧ j = 17 * q))) → J (nI (k + 1)) (cp_a pa 0) (cp_a pa 1) (cp_a pa 2) (cp_a pa 3) (cp_a pa 4) (cp_a pa 5) (cp_a pa 6) (cp_a pa 7) (cp_a pa 8) (cp_a pa 9) (cp_a pa 10) (cp_a pa 11) mp (cp_sp su 0) (cp_sp su 1) ss ns) :
    ∀ (d q : Nat) (ns : Nat → Int32), q + d = 16 → 1 ≤ q → cy_ad n0 ns (fun j => ∃ q', 1 ≤ q' ∧ q' < q ∧ bt C q' = true ∧ j = 17 * q') →
    wY_buildN_98 post J (nI i) z l p C (nI k) cap cnt anc up fl ys yf yF yR (d + 1) (nI q) (cp_a pa 0) (cp_a pa 1) (cp_a pa 2) (cp_a pa 3) (cp_a pa 4) (cp_a pa 5) (cp_a pa 6) (cp_a pa 7) (cp_a pa 8) (cp_a pa 9) (cp_a pa 10) (cp_a pa 11) mp (cp_sp su 0) (cp_sp su 1) ss ns := by
  intro d
  induction d with
  | zero =>
    intro q ns hq q1 H
    obtain rfl : q = 16 := by omega
    refine br_t (by decide) (br_c (fun z0 => nm_r (nI_1 k) (h ns (cy_adn H fun j => ⟨?_, Or.inl⟩))) (fun z0 => nm_e ⟨16, ?_⟩))
    · rintro (a | a)
      · exact a
      · exact absurd a.1 (hz.mp z0)
    · have ha : an := Classical.byContradiction fun c => z0 (hz.mpr c)
      refine y_147 hi hl (n0 := upd ns 0 (vp_nar .boolean 1)) (fun ns' h' => h ns' fun j hj => ?_) 15 1 _ rfl (by omega) (cy_ad0 ?_)
      · rw [h' j hj, y_v1]
        by_cases e : j = 0
        · subst e
          rw [pk_us]
          exact ⟨fun _ => Or.inr (Or.inr ⟨ha, Or.inl rfl⟩), fun _ => Or.inl (by decide)⟩
        · rw [pk_un e, H j hj]
          constructor
          · rintro ((a | a) | a)
            · exact Or.inl a
            · exact Or.inr (Or.inl a)
            · exact Or.inr (Or.inr ⟨ha, Or.inr a⟩)
          · rintro (a | a | ⟨_, a | a⟩)
            · exact Or.inl (Or.inl a)
            · exact Or.inl (Or.inr a)
            · exact absurd a e
            · exact Or.inr a
      · rintro j ⟨q', a, b, _⟩
        omega
  | succ d ih =>
    intro q ns hq q1 H
    refine br_f (nI_ge (b := 16) (by omega) (by decide)) (y_bit (by omega) (fun hb => br_f (by decide) ?_) (fun hb => br_t rfl (nm_r (nI_1 q) (ih (q + 1) ns (by omega) (by omega) (cy_adn H fun j => ⟨?_, ?_⟩)))))
    · rw [y_17, nI_clamp (by omega)]
      refine ⟨vp_in_nI (by omega) (by omega), nm_e (nm_r (nI_1 q) (ih (q + 1) _ (by omega) (by omega) (cy_adh H fun j => ⟨?_, ?_⟩)))⟩
      · rintro ⟨q', a, b, c, f⟩
        by_cases eq : q' = q
        · subst eq; exact Or.inr f
        · exact Or.inl ⟨q', a, by omega, c, f⟩
      · rintro (⟨q', a, b, c⟩ | a)
        · exact ⟨q', a, by omega, c⟩
        · exact ⟨q, q1, by omega, hb, a⟩
    · rintro ⟨q', a, b, c, f⟩
      by_cases eq : q' = q
      · subst eq; rw [hb] at c; exact absurd c (by decide)
      · exact ⟨q', a, by omega, c, f⟩
    · rintro ⟨q', a, b, c⟩
      exact ⟨q', a, by omega, c⟩
theorem y_204 {post : Int32 → SY → Prop} (h1 : (∃ x, x < 256 ∧ ¬ ns x = 0) → post 1 (cap, cnt, anc, up, fl, ys, yf, yF, yR, (cp_a pa 0), (cp_a pa 1), (cp_a pa 2), (cp_a pa 3), (cp_a pa 4), (cp_a pa 5), (cp_a pa 6), (cp_a pa 7), (cp_a pa 8), (cp_a pa 9), (cp_a pa 10), (cp_a pa 11), mp, (cp_sp su 0), (cp_sp su 1), ss, ns)) (h0 : (∀ x, x < 256 → ns x = 0) → post 0 (cap, cnt, anc, up, fl, ys, yf, yF, yR, (cp_a pa 0), (cp_a pa 1), (cp_a pa 2), (cp_a pa 3), (cp_a pa 4), (cp_a pa 5), (cp_a pa 6), (cp_a pa 7), (cp_a pa 8), (cp_a pa 9), (cp_a pa 10), (cp_a pa 11), mp, (cp_sp su 0), (cp_sp su 1), ss, ns)) : ∀ d k, k + d = 256 → (∀ x, x < k → ns x = 0) → wY_buildN_204 post cap cnt anc up fl ys yf yF yR (cp_a pa 0) (cp_a pa 1) (cp_a pa 2) (cp_a pa 3) (cp_a pa 4) (cp_a pa 5) (cp_a pa 6) (cp_a pa 7) (cp_a pa 8) (cp_a pa 9) (cp_a pa 10) (cp_a pa 11) mp (cp_sp su 0) (cp_sp su 1) ss ns (d + 1) (nI k) := by
  intro d
  induction d with
  | zero =>
    intro k hk H
    obtain rfl : k = 256 := by omega
    exact br_t (by decide) (h0 H)
  | succ d ih =>
    intro k hk H
    refine br_f (nI_ge (b := 256) (by omega) (by decide)) ⟨vp_in_nI (by omega) (by omega), ?_⟩
    rw [nI_clamp (by omega)]
    refine br_c (fun hz => nm_r (nI_1 k) (ih (k + 1) (by omega) fun x hx => ?_)) (fun hz => h1 ⟨k, by omega, hz⟩)
    by_cases e : x = k
    · subst e; exact hz
    · exact H x (by omega)
theorem y_m15 {k : Nat} (hk : k < 256) : nI k &&& 15 = nI (k % 16) := pk_andN (by omega) 4 (by decide)
theorem y_s4 {k : Nat} (hk : k < 256) : nI k >>> ((4 : Int32) &&& 31) = nI (k / 16) := pk_shrN (by omega) _ 4 (by decide)
theorem y_36 {post : Int32 → SY → Prop} {i n : Nat} (hi : i < 8) {z l p C : Int32} {an : Prop} (hz : z = 0 ↔ ¬ an) (hl : l = 0 ↔ i + 1 ≠ n)
    (h : ∀ ns, cy_I (cy_A C an (cp_op n p i) (fun v => mp (16 * i + v))) ss 256 ns → ∃ n204 : Nat, wY_buildN_204 post cap cnt anc up fl ys yf yF yR (cp_a pa 0) (cp_a pa 1) (cp_a pa 2) (cp_a pa 3) (cp_a pa 4) (cp_a pa 5) (cp_a pa 6) (cp_a pa 7) (cp_a pa 8) (cp_a pa 9) (cp_a pa 10) (cp_a pa 11) mp (cp_sp su 0) (cp_sp su 1) ss ns n204 0) :
    ∀ (d k : Nat) (ns : Nat → Int32), k + d = 256 → cy_I (cy_A C an (cp_op n p i) (fun v => mp (16 * i + v))) ss k ns → wY_buildN_36 post (nI i) z l p C cap cnt anc up fl ys yf yF yR (d + 1) (nI k) (cp_a pa 0) (cp_a pa 1) (cp_a pa 2) (cp_a pa 3) (cp_a pa 4) (cp_a pa 5) (cp_a pa 6) (cp_a pa 7) (cp_a pa 8) (cp_a pa 9) (cp_a pa 10) (cp_a pa 11) mp (cp_sp su 0) (cp_sp su 1) ss ns := by
  intro d
  induction d with
  | zero =>
    intro k ns hk H
    obtain rfl : k = 256 := by omega
    exact br_t (by decide) (h ns H)
  | succ d ih =>
    intro k ns hk H
    refine br_f (nI_ge (b := 256) (by omega) (by decide)) ⟨vp_in_nI (by omega) (by omega), ?_⟩
    rw [nI_clamp (by omega)]
    refine br_c (fun s0 => nm_r (nI_1 k) (ih (k + 1) ns (by omega) (cy_In H s0))) (fun s0 => nm_r (y_m15 (by omega)) (pk_eq (k % 16) 0 (fun e0 => ?_) (fun e0 => ?_)))
    · refine ⟨16, y_98 hi hz hl (n0 := ns) (fun ns' h' => ih (k + 1) ns' (by omega) (cy_Is H s0 fun j hj => ?_)) 15 1 ns rfl (by omega) (cy_ad0 ?_)⟩
      · rw [h' j hj]
        unfold cy_A
        constructor
        · rintro (a | a)
          · exact Or.inl a
          · exact Or.inr (Or.inr ⟨e0, a⟩)
        · rintro (a | ⟨a, _⟩ | a)
          · exact Or.inl a
          · exact absurd e0 a
          · exact Or.inr a.2
      · rintro j ⟨q', a, b, _⟩
        omega
    · have hit : (bt C (k % 16) = true ∨ an) → wY_buildN_84 post (wY_buildN_36 post (nI i) z l p C cap cnt anc up fl ys yf yF yR (d + 1)) (nI i) z l p C (nI k) cap cnt anc up fl ys yf yF yR (cp_a pa 0) (cp_a pa 1) (cp_a pa 2) (cp_a pa 3) (cp_a pa 4) (cp_a pa 5) (cp_a pa 6) (cp_a pa 7) (cp_a pa 8) (cp_a pa 9) (cp_a pa 10) (cp_a pa 11) mp (cp_sp su 0) (cp_sp su 1) ss ns := by
        intro hq
        unfold wY_buildN_84
        rw [nI_clamp (by omega)]
        refine ⟨vp_in_nI (by omega) (by omega), nm_e (nm_r (nI_1 k) (ih (k + 1) _ (by omega) (cy_Is H s0 (cy_adh (P := fun _ => False) (cy_ad0 fun _ a => a) fun j => ⟨?_, ?_⟩))))⟩
        · rintro (⟨a, b, c⟩ | ⟨a, _⟩)
          · exact Or.inr b
          · exact absurd a e0
        · rintro (a | a)
          · exact absurd a id
          · exact Or.inl ⟨e0, a, hq⟩
      refine y_bit (by omega) (fun hb => br_f (by decide) (hit (Or.inl hb))) (fun hb => br_t rfl (br_c (fun z0 => nm_r (nI_1 k) (ih (k + 1) ns (by omega) (cy_Is H s0 fun j hj => ⟨Or.inl, ?_⟩))) (fun z0 => hit (Or.inr (Classical.byContradiction fun c => z0 (hz.mpr c))))))
      rintro (a | ⟨_, _, a | a⟩ | ⟨a, _⟩)
      · exact a
      · rw [hb] at a; exact absurd a (by decide)
      · exact absurd a (hz.mp z0)
      · exact absurd a e0
theorem y_3 {post : Int32 → SY → Prop} {i : Nat} (hi : i < 8) {z l p : Int32}
    (h : ∀ ns, (∀ j, j < 256 → ns j = 0) → ∃ n36 : Nat, wY_buildN_36 post (nI i) z l p (pa (12 * i + 6)) cap cnt anc up fl ys yf yF yR n36 0 (cp_a pa 0) (cp_a pa 1) (cp_a pa 2) (cp_a pa 3) (cp_a pa 4) (cp_a pa 5) (cp_a pa 6) (cp_a pa 7) (cp_a pa 8) (cp_a pa 9) (cp_a pa 10) (cp_a pa 11) mp (cp_sp su 0) (cp_sp su 1) ss ns) :
    ∀ (d k : Nat) (ns : Nat → Int32), k + d = 256 → (∀ j, j < k → ns j = 0) → wY_buildN_3 post (nI i) z l p cap cnt anc up fl ys yf yF yR (d + 1) (nI k) (cp_a pa 0) (cp_a pa 1) (cp_a pa 2) (cp_a pa 3) (cp_a pa 4) (cp_a pa 5) (cp_a pa 6) (cp_a pa 7) (cp_a pa 8) (cp_a pa 9) (cp_a pa 10) (cp_a pa 11) mp (cp_sp su 0) (cp_sp su 1) ss ns := by
  intro d
  induction d with
  | zero =>
    intro k ns hk H
    obtain rfl : k = 256 := by omega
    exact br_t (by decide) ⟨vp_in_nI (by omega) (by omega), nm_r (by rw [nI_clamp (by omega)]; rfl) (h ns H)⟩
  | succ d ih =>
    intro k ns hk H
    refine br_f (nI_ge (b := 256) (by omega) (by decide)) ⟨vp_in_nI (by omega) (by omega), nm_r (by rw [nI_clamp (by omega)]) (nm_r (nI_1 k) (ih (k + 1) (upd ns k (vp_nar .boolean 0)) (by omega) fun j hj => ?_))⟩
    by_cases e : j = k
    · subst e; rw [pk_us, y_v0]
    · rw [pk_un e]; exact H j (by omega)
theorem y_buildN {post : Int32 → SY → Prop} {i n : Nat} (hi : i < 8) {z l p : Int32} {an : Prop} (hz : z = 0 ↔ ¬ an) (hl : l = 0 ↔ i + 1 ≠ n) {S : Nat → Nat → Prop} (hZ : cp_Z S) (hS : cy_R ss S)
    (h1 : ∀ ns, cy_R ns (cp_N S (pa (12 * i + 6)) an (cp_op n p i) (fun v => mp (16 * i + v))) → ¬ cp_em (cp_N S (pa (12 * i + 6)) an (cp_op n p i) (fun v => mp (16 * i + v))) → post 1 (cap, cnt, anc, up, fl, ys, yf, yF, yR, (cp_a pa 0), (cp_a pa 1), (cp_a pa 2), (cp_a pa 3), (cp_a pa 4), (cp_a pa 5), (cp_a pa 6), (cp_a pa 7), (cp_a pa 8), (cp_a pa 9), (cp_a pa 10), (cp_a pa 11), mp, (cp_sp su 0), (cp_sp su 1), ss, ns))
    (h0 : ∀ ns, cy_R ns (cp_N S (pa (12 * i + 6)) an (cp_op n p i) (fun v => mp (16 * i + v))) → cp_em (cp_N S (pa (12 * i + 6)) an (cp_op n p i) (fun v => mp (16 * i + v))) → post 0 (cap, cnt, anc, up, fl, ys, yf, yF, yR, (cp_a pa 0), (cp_a pa 1), (cp_a pa 2), (cp_a pa 3), (cp_a pa 4), (cp_a pa 5), (cp_a pa 6), (cp_a pa 7), (cp_a pa 8), (cp_a pa 9), (cp_a pa 10), (cp_a pa 11), mp, (cp_sp su 0), (cp_sp su 1), ss, ns)) :
    wpY_buildN post (cap, cnt, anc, up, fl, ys, yf, yF, yR, (cp_a pa 0), (cp_a pa 1), (cp_a pa 2), (cp_a pa 3), (cp_a pa 4), (cp_a pa 5), (cp_a pa 6), (cp_a pa 7), (cp_a pa 8), (cp_a pa 9), (cp_a pa 10), (cp_a pa 11), mp, (cp_sp su 0), (cp_sp su 1), ss, ns) (nI i) z l p := by
  unfold wpY_buildN
  refine ⟨257, y_3 hi (fun ns' h' => ⟨257, y_36 hi hz hl (fun ns2 h2 => ⟨257, ?_⟩) 256 0 ns' rfl (cy_I0 h')⟩) 256 0 ns rfl (fun j hj => absurd hj (by omega))⟩
  have hN := cy_N hZ hS h2
  refine y_204 (fun a => h1 ns2 hN fun b => ?_) (fun a => h0 ns2 hN ((cy_em hN).mpr a)) 256 0 rfl (fun j hj => absurd hj (by omega))
  obtain ⟨x, hx, hn⟩ := a
  exact hn ((cy_em hN).mp b x hx)
theorem y_90 {post : SY → Prop} {J : (Int32 → (Nat → Int32) → (Nat → Int32) → (Nat → Int32) → (Nat → Int32) → (Nat → Int32) → (Nat → Int32) → (Nat → Int32) → (Nat → Int32) → (Nat → Int32) → (Nat → Int32) → (Nat → Int32) → (Nat → Int32) → (Nat → Int32) → (Nat → Int32) → (Nat → Int32) → (Nat → Int32) → (Nat → Int32) → Prop)} {i k : Nat} (hk : k < 256) {p tv : Int32} {n0 : Nat → Int32}
    (h : ∀ ss, cy_ad n0 ss (fun j => 0 < p ∧ ∃ t, 1 ≤ t ∧ t < 16 ∧ bt tv t = true ∧ j = 16 * (k / 16) + t) → J (nI (k + 1)) (cp_a pa 0) (cp_a pa 1) (cp_a pa 2) (cp_a pa 3) (cp_a pa 4) (cp_a pa 5) (cp_a pa 6) (cp_a pa 7) (cp_a pa 8) (cp_a pa 9) (cp_a pa 10) (cp_a pa 11) mp (cp_sp su 0) (cp_sp su 1) ss ns) :
    ∀ (d t : Nat) (ss : Nat → Int32), t + d = 16 → 1 ≤ t → cy_ad n0 ss (fun j => 0 < p ∧ ∃ t', 1 ≤ t' ∧ t' < t ∧ bt tv t' = true ∧ j = 16 * (k / 16) + t') →
    wY_buildS_90 post J (nI i) p (nI k) (nI (k / 16)) tv cap cnt anc up fl ys yf yF yR (d + 1) (nI t) (cp_a pa 0) (cp_a pa 1) (cp_a pa 2) (cp_a pa 3) (cp_a pa 4) (cp_a pa 5) (cp_a pa 6) (cp_a pa 7) (cp_a pa 8) (cp_a pa 9) (cp_a pa 10) (cp_a pa 11) mp (cp_sp su 0) (cp_sp su 1) ss ns := by
  intro d
  induction d with
  | zero =>
    intro t ss ht t1 H
    obtain rfl : t = 16 := by omega
    exact br_t (by decide) (nm_r (nI_1 k) (h ss H))
  | succ d ih =>
    intro t ss ht t1 H
    have nxt : ¬ (0 < p ∧ bt tv t = true) → wY_buildS_90 post J (nI i) p (nI k) (nI (k / 16)) tv cap cnt anc up fl ys yf yF yR (d + 1) (nI (t + 1)) (cp_a pa 0) (cp_a pa 1) (cp_a pa 2) (cp_a pa 3) (cp_a pa 4) (cp_a pa 5) (cp_a pa 6) (cp_a pa 7) (cp_a pa 8) (cp_a pa 9) (cp_a pa 10) (cp_a pa 11) mp (cp_sp su 0) (cp_sp su 1) ss ns := by
      intro hn
      refine ih (t + 1) ss (by omega) (by omega) (cy_adn H fun j => ⟨?_, ?_⟩)
      · rintro ⟨p0, t', a, b, c, f⟩
        by_cases eq : t' = t
        · subst eq; exact absurd ⟨p0, c⟩ hn
        · exact ⟨p0, t', a, by omega, c, f⟩
      · rintro ⟨p0, t', a, b, c⟩
        exact ⟨p0, t', a, by omega, c⟩
    refine br_f (nI_ge (b := 16) (by omega) (by decide)) (br_c (fun p0 => nm_r (nI_1 t) (nxt fun a => absurd a.1 (Int32.not_lt.mpr p0))) (fun p0 => y_bit (by omega) (fun hb => br_f (by decide) ?_) (fun hb => br_t rfl (nm_r (nI_1 t) (nxt fun a => ?_)))))
    · have e : nI (k / 16) * 16 + nI t = nI (16 * (k / 16) + t) := x_ix
      rw [e, nI_clamp (by omega)]
      refine ⟨vp_in_nI (by omega) (by omega), nm_e (nm_r (nI_1 t) (ih (t + 1) _ (by omega) (by omega) (cy_adh H fun j => ⟨?_, ?_⟩)))⟩
      · rintro ⟨p0, t', a, b, c, f⟩
        by_cases eq : t' = t
        · subst eq; exact Or.inr f
        · exact Or.inl ⟨p0, t', a, by omega, c, f⟩
      · rintro (⟨p0, t', a, b, c⟩ | a)
        · exact ⟨p0, t', a, by omega, c⟩
        · exact ⟨Int32.not_le.mp p0, t, t1, by omega, hb, a⟩
    · rw [hb] at a
      exact absurd a.2 (by decide)
theorem y_24 {post : SY → Prop} {i : Nat} (hi : i < 8) {p : Int32}
    (h : ∀ ss, cy_I (cy_B p (fun v => mp (16 * i + v))) ns 256 ss → post (cap, cnt, anc, up, fl, ys, yf, yF, yR, (cp_a pa 0), (cp_a pa 1), (cp_a pa 2), (cp_a pa 3), (cp_a pa 4), (cp_a pa 5), (cp_a pa 6), (cp_a pa 7), (cp_a pa 8), (cp_a pa 9), (cp_a pa 10), (cp_a pa 11), mp, (cp_sp su 0), (cp_sp su 1), ss, ns)) :
    ∀ (d k : Nat) (ss : Nat → Int32), k + d = 256 → cy_I (cy_B p (fun v => mp (16 * i + v))) ns k ss → wY_buildS_24 post (nI i) p cap cnt anc up fl ys yf yF yR (d + 1) (nI k) (cp_a pa 0) (cp_a pa 1) (cp_a pa 2) (cp_a pa 3) (cp_a pa 4) (cp_a pa 5) (cp_a pa 6) (cp_a pa 7) (cp_a pa 8) (cp_a pa 9) (cp_a pa 10) (cp_a pa 11) mp (cp_sp su 0) (cp_sp su 1) ss ns := by
  intro d
  induction d with
  | zero =>
    intro k ss hk H
    obtain rfl : k = 256 := by omega
    exact br_t (by decide) (h ss H)
  | succ d ih =>
    intro k ss hk H
    refine br_f (nI_ge (b := 256) (by omega) (by decide)) ⟨vp_in_nI (by omega) (by omega), ?_⟩
    rw [nI_clamp (by omega)]
    refine br_c (fun s0 => nm_r (nI_1 k) (ih (k + 1) ss (by omega) (cy_In H s0))) (fun s0 => nm_r (y_s4 (by omega)) (nm_r (y_m15 (by omega)) ?_))
    have hit : ¬ (k % 16 ≠ 0 ∧ ¬ mp (16 * i + k % 16) = 0) → wY_buildS_24 post (nI i) p cap cnt anc up fl ys yf yF yR (d + 1) (nI (k + 1)) (cp_a pa 0) (cp_a pa 1) (cp_a pa 2) (cp_a pa 3) (cp_a pa 4) (cp_a pa 5) (cp_a pa 6) (cp_a pa 7) (cp_a pa 8) (cp_a pa 9) (cp_a pa 10) (cp_a pa 11) mp (cp_sp su 0) (cp_sp su 1) (upd ss k (vp_nar .boolean 1)) ns := by
      intro hn
      refine ih (k + 1) _ (by omega) (cy_Is H s0 (cy_adh (P := fun _ => False) (cy_ad0 fun _ a => a) fun j => ⟨?_, ?_⟩))
      · rintro (⟨a, b⟩ | ⟨a, _⟩)
        · exact Or.inr b
        · exact absurd a hn
      · rintro (a | a)
        · exact absurd a id
        · exact Or.inl ⟨hn, a⟩
    refine pk_eq (k % 16) 0 (fun e0 => ?_) (fun e0 => ?_)
    · unfold wY_buildS_75
      rw [nI_clamp (by omega)]
      exact pk_eq (k % 16) 0 (fun _ => ⟨vp_in_nI (by omega) (by omega), nm_e (nm_r (nI_1 k) (hit fun a => a.1 e0))⟩) (fun e1 => absurd e0 e1)
    · have e : nI i * 16 + nI (k % 16) = nI (16 * i + k % 16) := x_ix
      rw [e, nI_clamp (by omega)]
      refine ⟨vp_in_nI (by omega) (by omega), ?_⟩
      unfold wY_buildS_75
      rw [nI_clamp (by omega)]
      refine pk_eq (k % 16) 0 (fun e1 => absurd e1 e0) (fun _ => br_c (fun m0 => ⟨vp_in_nI (by omega) (by omega), nm_e (nm_r (nI_1 k) (hit fun a => a.2 m0))⟩) (fun m0 => ⟨16, y_90 (by omega) (n0 := ss) (fun ss' h' => ih (k + 1) ss' (by omega) (cy_Is H s0 fun j hj => ?_)) 15 1 ss rfl (by omega) (cy_ad0 ?_)⟩))
      · rw [h' j hj]
        unfold cy_B
        constructor
        · rintro (a | a)
          · exact Or.inl a
          · exact Or.inr (Or.inr ⟨⟨e0, m0⟩, a⟩)
        · rintro (a | ⟨a, _⟩ | a)
          · exact Or.inl a
          · exact absurd ⟨e0, m0⟩ a
          · exact Or.inr a.2
      · rintro j ⟨_, q', a, b, _⟩
        omega
theorem y_2 {post : SY → Prop} {i : Nat} {p : Int32}
    (h : ∀ ss, (∀ j, j < 256 → ss j = 0) → ∃ n24 : Nat, wY_buildS_24 post (nI i) p cap cnt anc up fl ys yf yF yR n24 0 (cp_a pa 0) (cp_a pa 1) (cp_a pa 2) (cp_a pa 3) (cp_a pa 4) (cp_a pa 5) (cp_a pa 6) (cp_a pa 7) (cp_a pa 8) (cp_a pa 9) (cp_a pa 10) (cp_a pa 11) mp (cp_sp su 0) (cp_sp su 1) ss ns) :
    ∀ (d k : Nat) (ss : Nat → Int32), k + d = 256 → (∀ j, j < k → ss j = 0) → wY_buildS_2 post (nI i) p cap cnt anc up fl ys yf yF yR (d + 1) (nI k) (cp_a pa 0) (cp_a pa 1) (cp_a pa 2) (cp_a pa 3) (cp_a pa 4) (cp_a pa 5) (cp_a pa 6) (cp_a pa 7) (cp_a pa 8) (cp_a pa 9) (cp_a pa 10) (cp_a pa 11) mp (cp_sp su 0) (cp_sp su 1) ss ns := by
  intro d
  induction d with
  | zero =>
    intro k ss hk H
    obtain rfl : k = 256 := by omega
    exact br_t (by decide) (h ss H)
  | succ d ih =>
    intro k ss hk H
    refine br_f (nI_ge (b := 256) (by omega) (by decide)) ⟨vp_in_nI (by omega) (by omega), nm_r (by rw [nI_clamp (by omega)]) (nm_r (nI_1 k) (ih (k + 1) (upd ss k (vp_nar .boolean 0)) (by omega) fun j hj => ?_))⟩
    by_cases e : j = k
    · subst e; rw [pk_us, y_v0]
    · rw [pk_un e]; exact H j (by omega)
theorem y_buildS {post : SY → Prop} {i : Nat} (hi : i < 8) {p : Int32} {N : Nat → Nat → Prop} (hN : cy_R ns N) (hT : ∀ j, cp_T (mp j))
    (h : ∀ ss, cy_R ss (cp_S N p (fun v => mp (16 * i + v))) → post (cap, cnt, anc, up, fl, ys, yf, yF, yR, (cp_a pa 0), (cp_a pa 1), (cp_a pa 2), (cp_a pa 3), (cp_a pa 4), (cp_a pa 5), (cp_a pa 6), (cp_a pa 7), (cp_a pa 8), (cp_a pa 9), (cp_a pa 10), (cp_a pa 11), mp, (cp_sp su 0), (cp_sp su 1), ss, ns)) : wpY_buildS post (cap, cnt, anc, up, fl, ys, yf, yF, yR, (cp_a pa 0), (cp_a pa 1), (cp_a pa 2), (cp_a pa 3), (cp_a pa 4), (cp_a pa 5), (cp_a pa 6), (cp_a pa 7), (cp_a pa 8), (cp_a pa 9), (cp_a pa 10), (cp_a pa 11), mp, (cp_sp su 0), (cp_sp su 1), ss, ns) (nI i) p := by
  unfold wpY_buildS
  exact ⟨257, y_2 (fun ss' h' => ⟨257, y_24 hi (fun ss2 h2 => h ss2 (cy_S (fun v => hT _) hN h2)) 256 0 ss' rfl (cy_I0 h')⟩) 256 0 ss rfl (fun j hj => absurd hj (by omega))⟩
end YS
