section LR
variable {cap cnt anc up fl ls lf la lr el ml al ll : Int32} {pa mp su ex no : Nat → Int32}
/-! reading the object -/
theorem l_ne {c : Nat} (h : c < 2 ^ 31) : ¬ nI c = -1 := by
  intro e
  have := nI_pos (n := c) h
  rw [e] at this
  exact this (by decide)
theorem l_getF {post : Int32 → Prop} {n c f : Nat} (hn : n ≤ 8) (hc : c < n) (hf : f < 12) (h : post (pa (12 * c + f))) : wpX_getField post (cap, (nI n), anc, up, fl, ls, lf, la, lr, el, ml, al, ll, pa, mp, su, ex, no) (nI c) (nI f) := by
  unfold wpX_getField
  exact br_f (l_ne (by omega)) (x_isCert hn (fun _ => br_f (by decide) (x_inRange (fun _ => br_f (by decide) (x_part (by omega) hf h)) (fun q => absurd ⟨nI_pos' (by omega), nI_le (b := 11) (by omega) (by omega)⟩ q))) (fun q => absurd ⟨nI_pos' (by omega), nI_lt hc (by omega)⟩ q))
theorem l_getMT {post : Int32 → Prop} {n c s : Nat} (hn : n ≤ 8) (hc : c < n) (s1 : 1 ≤ s) (s2 : s < 16) (h : post (mp (16 * c + s))) : wpX_getMappingTargets post (cap, (nI n), anc, up, fl, ls, lf, la, lr, el, ml, al, ll, pa, mp, su, ex, no) (nI c) (nI s) := by
  unfold wpX_getMappingTargets
  exact x_isCert hn (fun _ => br_f (by decide) (x_isSpec (fun _ => br_f (by decide) (x_targets (by omega) s2 h)) (fun q => absurd ⟨nI_le (a := 1) s1 (by omega), nI_le (b := 15) (by omega) (by omega)⟩ q))) (fun q => absurd ⟨nI_pos' (by omega), nI_lt hc (by omega)⟩ q)
theorem l_getSub {post : Int32 → Prop} {n c kd k K : Nat} (hn : n ≤ 8) (hc : c < n) (hkd : kd < 2) (hK : K ≤ 4) (hp : pa (12 * c + (10 + kd)) = nI K) (hk : k < K) (h : post (su (8 * c + 4 * kd + k))) : wpX_getSubtree post (cap, (nI n), anc, up, fl, ls, lf, la, lr, el, ml, al, ll, pa, mp, su, ex, no) (nI c) (nI kd) (nI k) := by
  unfold wpX_getSubtree
  have kk : nI kd = 0 ∨ nI kd = 1 := by
    have : kd = 0 ∨ kd = 1 := by omega
    rcases this with rfl | rfl
    · exact Or.inl rfl
    · exact Or.inr rfl
  refine x_isCert hn (fun _ => br_f (by decide) (x_isKind (fun _ => br_f (by decide) (br_f (nI_pos (by omega)) (x_subCnt (by omega) hkd ?_))) (fun q => absurd kk q))) (fun q => absurd ⟨nI_pos' (by omega), nI_lt hc (by omega)⟩ q)
  rw [hp]
  refine br_t (nI_lt hk (by omega)) (x_first ?_)
  have e : nI (8 * c + 4 * kd) + nI k = nI (8 * c + 4 * kd + k) := nI_add _ _
  rw [e, nI_clamp (by omega)]
  exact ⟨vp_in_nI (by omega) (by omega), h⟩
/-! the law's lies -/
theorem l_b15 : ∀ b, b < 4 → bt 15 b = true := by decide +kernel
theorem l_b15h : ∀ b, b < 32 → 4 ≤ b → bt 15 b = false := by decide +kernel
theorem l_gb {x : Int32} {k b : Nat} (hk : k < 4) (hb : b < 4) : bt (cp_g x k) b = bt x (4 * k + b) := by
  unfold cp_g
  rw [b_and, b_sshr (4 * k) (by omega) x (by omega), if_pos (by omega), l_b15 b hb, Bool.and_true]
theorem l_ge {x y : Int32} {k : Nat} (hk : k < 4) (h : ∀ b, b < 4 → bt x (4 * k + b) = bt y (4 * k + b)) : cp_g x k = cp_g y k := by
  refine b_ext fun b hb => ?_
  by_cases h4 : b < 4
  · rw [l_gb hk h4, l_gb hk h4]; exact h b h4
  · unfold cp_g
    rw [b_and, b_and, l_b15h b hb (by omega), Bool.and_false, Bool.and_false]
theorem l_mask : ∀ l, l < 5 → ∀ i, i < 32 → bt (((1 : Int32) <<< (nI (4 * l) &&& 31)) - 1) i = decide (i < 4 * l) := by decide +kernel
theorem l_hi {s : Int32} (h : 0 ≤ s ∧ s ≤ 65535) {i : Nat} (h16 : 16 ≤ i) (hi : i < 32) : bt s i = false := by
  obtain ⟨j, _, j2, rfl⟩ := x_rng (a := 0) (b := 65535) (by omega) h (by omega)
  show (BitVec.ofNat 32 j).getLsbD i = false
  rw [BitVec.getLsbD_ofNat, Nat.testBit_lt_two_pow (Nat.lt_of_lt_of_le (show j < 2 ^ 16 by omega) (Nat.pow_le_pow_right (by omega) h16)), Bool.and_false]
theorem l_lie {x s : Int32} (hs : cp_nm s) : x &&& (((1 : Int32) <<< (nI (4 * cp_l s) &&& 31)) - 1) = s ↔ cp_lie x s := by
  have l4 := cp_l4 s
  constructor
  · intro e k hk hg
    have kl := (cp_lk hs k hk).mp hg
    refine l_ge hk fun b hb => ?_
    have := congrArg (fun z => bt z (4 * k + b)) e
    rw [b_and, l_mask _ (by omega) _ (by omega), decide_eq_true (by omega), Bool.and_true] at this
    exact this.symm
  · intro h
    refine b_ext fun i hi => ?_
    rw [b_and, l_mask _ (by omega) i hi]
    by_cases c : i < 4 * cp_l s
    · rw [decide_eq_true c, Bool.and_true]
      have hk : i / 4 < 4 := by omega
      have hg := (cp_lk hs (i / 4) hk).mpr (by omega)
      have e := h (i / 4) hk hg
      have := congrArg (fun z => bt z (i % 4)) e
      rw [l_gb hk (by omega), l_gb hk (by omega)] at this
      have ei : 4 * (i / 4) + i % 4 = i := by omega
      rw [ei] at this
      exact this.symm
    · rw [decide_eq_false c, Bool.and_false]
      by_cases h16 : 16 ≤ i
      · exact (l_hi hs.1 h16 hi).symm
      · have hk : i / 4 < 4 := by omega
        have hg : cp_g s (i / 4) = 0 := Classical.byContradiction fun q => absurd ((cp_lk hs (i / 4) hk).mp q) (by omega)
        have := l_gb (x := s) (k := i / 4) (b := i % 4) hk (by omega)
        have ei : 4 * (i / 4) + i % 4 = i := by omega
        rw [hg, b_0, ei] at this
        exact this
theorem l_lies2 {post : Int32 → Prop} {x s : Int32} (hs : cp_nm s) (h : wL_lies_24 post x s (nI (cp_l s))) : ∀ d k, k + d = cp_l s → wL_lies_2 post x s (d + 1) (nI k) := by
  have l4 := cp_l4 s
  intro d
  induction d with
  | zero =>
    intro k hk
    obtain rfl : k = cp_l s := by omega
    refine br_c (fun _ => h) (fun q => ?_)
    have e : 4 * nI (cp_l s) = nI (4 * cp_l s) := pk_mul 4 _
    rw [e]
    refine br_t ?_ h
    by_cases c : cp_l s = 4
    · rw [c] at q; exact absurd (by decide) q
    · exact Classical.byContradiction fun z => absurd ((cp_lk hs (cp_l s) (by omega)).mp z) (by omega)
  | succ d ih =>
    intro k hk
    refine br_f (nI_ge (b := 4) (by omega) (by decide)) ?_
    have e : 4 * nI k = nI (4 * k) := pk_mul 4 _
    rw [e]
    exact br_f ((cp_lk hs k (by omega)).mpr (by omega)) (nm_r (nI_1 k) (ih (k + 1) (by omega)))
theorem l_lies {post : Int32 → Prop} {x s : Int32} (hs : cp_nm s) (h1 : cp_lie x s → post 1) (h0 : ¬ cp_lie x s → post 0) : wpL_lies post () x s := by
  refine ⟨cp_l s + 1, l_lies2 hs ?_ (cp_l s) 0 (by omega)⟩
  unfold wL_lies_24
  have e : 4 * nI (cp_l s) = nI (4 * cp_l s) := pk_mul 4 _
  rw [e]
  exact nm_e (br_c (fun q => h1 ((l_lie hs).mp q)) (fun q => h0 (fun z => q ((l_lie hs).mpr z))))
/-! a flag of the law -/
def cw_b (x : Int32) (P : Prop) : Prop := (x = 1 ∧ P) ∨ (x = 0 ∧ ¬ P)
theorem cw_bt {x : Int32} {P C : Prop} (h : cw_b x P) (c : C) : cw_b x (P ∧ C) := h.elim (fun q => Or.inl ⟨q.1, q.2, c⟩) (fun q => Or.inr ⟨q.1, fun z => q.2 z.1⟩)
theorem cw_bf {P C : Prop} (c : ¬ C) : cw_b 0 (P ∧ C) := Or.inr ⟨rfl, fun z => c z.2⟩
theorem cw_bi {x : Int32} {P P' : Prop} (h : cw_b x P) (e : P ↔ P') : cw_b x P' := h.elim (fun q => Or.inl ⟨q.1, e.mp q.2⟩) (fun q => Or.inr ⟨q.1, fun z => q.2 (e.mpr z)⟩)
theorem cw_b0 {x : Int32} {P : Prop} (h : cw_b x P) : x = 0 ↔ ¬ P := by
  rcases h with ⟨rfl, p⟩ | ⟨rfl, p⟩
  · exact ⟨fun q => absurd q (by decide), fun q => absurd p q⟩
  · exact ⟨fun _ => p, fun _ => rfl⟩
variable {post : Int32 → Prop} {L : Nat} {xs : Nat → Int32} {J : Int32 → Int32 → Int32 → Int32 → Int32 → Prop} {kc ks n i : Nat} {x9 x10 x12 x13 : Int32} {P : Prop}
/-! the leaf's answer -/
theorem l_1690 {x2 x6 x7 x8 R x14 F : Int32} (hb : cw_b x9 P) (h : ∀ y, cw_b y (P ∧ ¬ (x14 = 0 ∧ F = 0)) → J y x10 R F (nI (i + 1))) : wL_law_1690 post L xs J x2 x6 x7 x8 x9 x10 R x14 (nI i) F kc ks cap cnt anc up fl ls lf la lr el ml al ll pa mp su ex no := by
  unfold wL_law_1690
  rw [nI_1]
  exact br_c (fun a => br_c (fun b => nm_e (h 0 (cw_bf (fun q => q ⟨a, b⟩)))) (fun b => nm_e (h x9 (cw_bt hb (fun q => b q.2))))) (fun a => nm_e (h x9 (cw_bt hb (fun q => a q.1))))
theorem l_s2 {k : Nat} (hk : k < 16) : nI k >>> ((2 : Int32) &&& 31) = nI (k / 4) := pk_shrN (by omega) _ 2 (by decide)
theorem l_m3 {k : Nat} (hk : k < 16) : nI k &&& 3 = nI (k % 4) := pk_andN (by omega) 2 (by decide)
theorem l_1625 {x2 x6 x8 m x14 : Int32} {N : Nat → Nat → Prop} (hN : cw_R m N) (hZ : cw_Z N) (hb : cw_b x9 P) (h : ∀ R y, cp_R N R → cw_b y (P ∧ ¬ (x14 = 0 ∧ cp_F up R = 0)) → J y x10 R (cp_F up R) (nI (i + 1))) :
    ∀ (d k : Nat) (R : Int32), k + d = 16 → cw_r m k R → wL_law_1625 post L xs J x2 x6 up x8 x9 x10 m x14 (nI i) kc ks cap cnt anc up fl ls lf la lr el ml al ll pa mp su ex no (d + 1) R (nI k) := by
  intro d
  induction d with
  | zero =>
    intro k R hk H
    obtain rfl : k = 16 := by omega
    have hR := cw_rR H hN hZ
    have h' := fun y => h R y hR
    unfold cp_F at h'
    refine br_t (by decide) (br_c (fun u0 => br_c (fun r0 => ?_) (fun r0 => ?_)) (fun u0 => ?_))
    · rw [if_pos u0, if_pos r0] at h'
      exact l_1690 hb h'
    · rw [if_pos u0, if_neg r0] at h'
      exact l_1690 hb h'
    · rw [if_neg u0] at h'
      exact l_1690 hb h'
  | succ d ih =>
    intro k R hk H
    refine br_f (nI_ge (b := 16) (by omega) (by decide)) ?_
    rw [l_s2 (by omega)]
    exact br_c (fun hz => nm_r (nI_1 k) (ih (k + 1) R (by omega) (cw_rz H ((cq_by m (by omega)).mp hz)))) (fun hz => nm_e (nm_r (nI_1 k) (ih (k + 1) _ (by omega) (cw_rs (by omega) H (cq_nf.mp (mt (cq_by m (by omega)).mpr hz))))))
/-! the next set -/
theorem l_1535 {J2 : Int32 → Int32 → Prop} {x2 x6 x7 x8 x11 x20 tv m0 : Int32} {k : Nat} (hk : k < 16)
    (h : ∀ s, cw_ad m0 s (fun j => ∃ t, 1 ≤ t ∧ t < 4 ∧ bt tv t = true ∧ j = 4 * (k / 4) + t) → J2 s (nI (k + 1))) :
    ∀ (d t : Nat) (s : Int32), t + d = 4 → 1 ≤ t → cw_ad m0 s (fun j => ∃ t', 1 ≤ t' ∧ t' < t ∧ bt tv t' = true ∧ j = 4 * (k / 4) + t') →
    wL_law_1535 post L xs J J2 x2 x6 x7 x8 x9 x11 x12 x13 (nI i) x20 (nI k) (nI (k / 4)) tv kc ks cap cnt anc up fl ls lf la lr el ml al ll pa mp su ex no (d + 1) s (nI t) := by
  intro d
  induction d with
  | zero =>
    intro t s ht t1 H
    obtain rfl : t = 4 := by omega
    exact br_t (by decide) (nm_r (nI_1 k) (h s H))
  | succ d ih =>
    intro t s ht t1 H
    refine br_f (nI_ge (b := 4) (by omega) (by decide)) ?_
    have e : nI (k / 4) * 4 + nI t = nI (4 * (k / 4) + t) := x_ix
    rw [e]
    refine br_c (fun hb => nm_r (nI_1 t) (ih (t + 1) s (by omega) (by omega) (cw_adn H fun j => ⟨?_, ?_⟩))) (fun hb => nm_e (nm_r (nI_1 t) (ih (t + 1) _ (by omega) (by omega) (cw_adh (by omega) H fun j => ⟨?_, ?_⟩))))
    · rintro ⟨t', a, b, c, f⟩
      by_cases eq : t' = t
      · subst eq; rw [(cq_by tv (by omega)).mp hb] at c; exact absurd c (by decide)
      · exact ⟨t', a, by omega, c, f⟩
    · rintro ⟨t', a, b, c⟩
      exact ⟨t', a, by omega, c⟩
    · rintro ⟨t', a, b, c, f⟩
      by_cases eq : t' = t
      · subst eq; exact Or.inr f
      · exact Or.inl ⟨t', a, by omega, c, f⟩
    · rintro (⟨t', a, b, c⟩ | a)
      · exact ⟨t', a, by omega, c⟩
      · exact ⟨t, t1, by omega, cq_nf.mp (mt (cq_by tv (by omega)).mpr hb), a⟩
theorem l_1471 {x2 x6 x7 x8 m p : Int32} (hn : n ≤ 8) (hi : i < n)
    (h : ∀ s, cw_I (cw_B p (fun v => mp (16 * i + v))) m 16 s → J x9 s x12 x13 (nI (i + 1))) :
    ∀ (d k : Nat) (s : Int32), k + d = 16 → cw_I (cw_B p (fun v => mp (16 * i + v))) m k s → wL_law_1471 post L xs J x2 x6 x7 x8 x9 m x12 x13 (nI i) p kc ks cap (nI n) anc up fl ls lf la lr el ml al ll pa mp su ex no (d + 1) s (nI k) := by
  intro d
  induction d with
  | zero =>
    intro k s hk H
    obtain rfl : k = 16 := by omega
    exact br_t (by decide) (nm_r (nI_1 i) (h s H))
  | succ d ih =>
    intro k s hk H
    refine br_f (nI_ge (b := 16) (by omega) (by decide)) (br_c (fun s0 => nm_r (nI_1 k) (ih (k + 1) s (by omega) (cw_In H ((cq_by m (by omega)).mp s0)))) (fun s0 => nm_r (l_s2 (by omega)) (nm_r (l_m3 (by omega)) ?_)))
    have hb := cq_nf.mp (mt (cq_by m (by omega)).mpr s0)
    have hit : ¬ (k % 4 ≠ 0 ∧ ¬ mp (16 * i + k % 4) = 0) → wL_law_1471 post L xs J x2 x6 x7 x8 x9 m x12 x13 (nI i) p kc ks cap (nI n) anc up fl ls lf la lr el ml al ll pa mp su ex no (d + 1) (s ||| ((1 : Int32) <<< (nI k &&& 31))) (nI (k + 1)) := by
      intro hq
      refine ih (k + 1) _ (by omega) (cw_Is H hb (cw_adh (P := fun _ => False) (by omega) (cw_ad0 fun _ a => a) fun j => ⟨?_, ?_⟩))
      · rintro (⟨a, b⟩ | ⟨a, _⟩)
        · exact Or.inr b
        · exact absurd a hq
      · rintro (a | a)
        · exact absurd a id
        · exact Or.inl ⟨hq, a⟩
    refine pk_eq (k % 4) 0 (fun e0 => ?_) (fun e0 => ?_)
    · unfold wL_law_1520
      exact br_t rfl (nm_e (nm_r (nI_1 k) (hit fun a => a.1 e0)))
    · refine l_getMT hn hi (by omega) (by omega) ?_
      unfold wL_law_1520
      refine br_c (fun m0 => nm_e (nm_r (nI_1 k) (hit fun a => a.2 m0))) (fun m0 => br_c (fun p0 => nm_r (nI_1 k) (ih (k + 1) s (by omega) (cw_Is H hb (cw_ad0 fun j => ?_)))) (fun p0 => ⟨4, l_1535 (by omega) (m0 := s) (fun s' h' => ih (k + 1) s' (by omega) (cw_Is H hb (cw_adn h' fun j => ⟨?_, ?_⟩))) 3 1 s rfl (by omega) (cw_ad0 ?_)⟩))
      · rintro (⟨a, _⟩ | ⟨_, a, _⟩)
        · exact a ⟨e0, m0⟩
        · exact absurd a (Int32.not_lt.mpr p0)
      · rintro (⟨a, _⟩ | ⟨_, _, a⟩)
        · exact absurd ⟨e0, m0⟩ a
        · exact a
      · intro a
        exact Or.inr ⟨⟨e0, m0⟩, Int32.not_le.mp p0, a⟩
      · rintro j ⟨t, a, b, _⟩
        omega
theorem l_1460 {x2 x6 x8 m E p lt : Int32} (hn : n ≤ 8) (hi : i < n) (hE : 0 ≤ E) {N : Nat → Nat → Prop} (hN : cw_R m N) (hZ : cw_Z N) (hT : cw_T4 (fun v => mp (16 * i + v))) (hb : cw_b x9 P)
    (hA : lt = 0 → ∀ s, cw_R s (cp_S N p (fun v => mp (16 * i + v))) → J x9 s 0 0 (nI (i + 1)))
    (hB : ¬ lt = 0 → ∀ R y, cp_R N R → cw_b y (P ∧ ¬ ((E ≤ 1 ∨ pa (12 * i + 7) = 0) ∧ cp_F up R = 0)) → J y x10 R (cp_F up R) (nI (i + 1))) :
    wL_law_1460 post L xs J x2 x6 up x8 x9 x10 m 0 0 (nI i) lt E p kc ks cap (nI n) anc up fl ls lf la lr el ml al ll pa mp su ex no := by
  unfold wL_law_1460
  have fin : ¬ lt = 0 → ∀ x14 : Int32, (x14 = 0 ↔ (E ≤ 1 ∨ pa (12 * i + 7) = 0)) → ∃ fu, wL_law_1625 post L xs J x2 x6 up x8 x9 x10 m x14 (nI i) kc ks cap (nI n) anc up fl ls lf la lr el ml al ll pa mp su ex no fu 0 0 := by
    intro hl x14 hx
    refine ⟨17, l_1625 hN hZ hb (fun R y hR hy => hB hl R y hR (cw_bi hy ?_)) 16 0 0 rfl cw_r0⟩
    rw [hx]
  refine br_c (fun l0 => ⟨17, l_1471 hn hi (fun s hs => hA l0 s (cw_S hT hZ hN hs)) 16 0 0 rfl cw_I0⟩) (fun l0 => l_getF (f := 7) hn hi (by decide) (br_c (fun r0 => fin l0 0 ⟨fun _ => Or.inr r0, fun _ => rfl⟩) (fun r0 => ?_)))
  obtain ⟨j, hj, rfl⟩ := nI_of (x := E) (Int32.not_lt.mpr hE)
  refine pk_le j 0 (fun a => fin l0 0 ⟨fun _ => Or.inl ?_, fun _ => rfl⟩) (fun a => nm_e (fin l0 _ ?_))
  · obtain rfl : j = 0 := by omega
    decide
  · obtain ⟨q, rfl⟩ : ∃ q, j = q + 1 := ⟨j - 1, by omega⟩
    rw [nI_pred]
    have a1 : nI q = 0 ↔ q = 0 := nI_eq (b := 0) (by omega) (by omega)
    have a2 : nI (q + 1) ≤ 1 ↔ q + 1 ≤ 1 := nI_leI (b := 1) (by omega) (by omega)
    rw [a1, a2]
    constructor
    · intro z; exact Or.inl (by omega)
    · rintro (z | z)
      · omega
      · exact absurd z r0
end LR
