section LN
variable {cap cnt anc up fl ls lf la lr el ml al ll : Int32} {pa mp su ex no : Nat → Int32}
variable {post : Int32 → Prop} {L : Nat} {xs : Nat → Int32} {J : Int32 → Int32 → Int32 → Int32 → Int32 → Prop} {kc ks n i : Nat} {x9 x10 x12 x13 : Int32} {P : Prop}
theorem l_5 {q : Nat} : nI q * 5 = nI (5 * q) := by
  have e : nI q * 5 = nI (q * 5) := pk_mul q 5
  rw [e, Nat.mul_comm]
/-! the node set -/
theorem l_1407 {J2 : Int32 → Int32 → Prop} {x2 x6 x7 x8 lt E p C z m0 : Int32} {k : Nat} (hn : n ≤ 8) (hi : i < n)
    (h : ∀ m, cw_ad m0 m (fun j => ∃ q, 1 ≤ q ∧ q < 4 ∧ ¬ mp (16 * i + q) = 0 ∧ j = 5 * q) → J2 m (nI (k + 1))) :
    ∀ (d q : Nat) (m : Int32), q + d = 4 → 1 ≤ q → cw_ad m0 m (fun j => ∃ q', 1 ≤ q' ∧ q' < q ∧ ¬ mp (16 * i + q') = 0 ∧ j = 5 * q') →
    wL_law_1407 post L xs J J2 x2 x6 x7 x8 x9 x10 x12 x13 (nI i) lt E p C z (nI k) kc ks cap (nI n) anc up fl ls lf la lr el ml al ll pa mp su ex no (d + 1) m (nI q) := by
  intro d
  induction d with
  | zero =>
    intro q m hq q1 H
    obtain rfl : q = 4 := by omega
    exact br_t (by decide) (nm_r (nI_1 k) (h m H))
  | succ d ih =>
    intro q m hq q1 H
    refine br_f (nI_ge (b := 4) (by omega) (by decide)) (l_getMT hn hi q1 (by omega) ?_)
    rw [l_5]
    refine br_c (fun hb => nm_r (nI_1 q) (ih (q + 1) m (by omega) (by omega) (cw_adn H fun j => ⟨?_, ?_⟩))) (fun hb => nm_e (nm_r (nI_1 q) (ih (q + 1) _ (by omega) (by omega) (cw_adh (by omega) H fun j => ⟨?_, ?_⟩))))
    · rintro ⟨t', a, b, c, f⟩
      by_cases eq : t' = q
      · subst eq; exact absurd hb c
      · exact ⟨t', a, by omega, c, f⟩
    · rintro ⟨t', a, b, c⟩
      exact ⟨t', a, by omega, c⟩
    · rintro ⟨t', a, b, c, f⟩
      by_cases eq : t' = q
      · subst eq; exact Or.inr f
      · exact Or.inl ⟨t', a, by omega, c, f⟩
    · rintro (⟨t', a, b, c⟩ | a)
      · exact ⟨t', a, by omega, c⟩
      · exact ⟨q, q1, by omega, hb, a⟩
theorem l_1350 {J2 : Int32 → Int32 → Prop} {x2 x6 x7 x8 lt E p C z m0 : Int32} {k : Nat} {an : Prop} (hn : n ≤ 8) (hi : i < n) (hz : z = 0 ↔ ¬ an) (hl : lt = 0 ↔ i + 1 ≠ n)
    (h : ∀ m, cw_ad m0 m (fun j => (∃ q, 1 ≤ q ∧ q < 4 ∧ bt C q = true ∧ j = 5 * q) ∨ (an ∧ (j = 0 ∨ (cp_op n p i ∧ ∃ q, 1 ≤ q ∧ q < 4 ∧ ¬ mp (16 * i + q) = 0 ∧ j = 5 * q)))) → J2 m (nI (k + 1))) :
    ∀ (d q : Nat) (m : Int32), q + d = 4 → 1 ≤ q → cw_ad m0 m (fun j => ∃ q', 1 ≤ q' ∧ q' < q ∧ bt C q' = true ∧ j = 5 * q') →
    wL_law_1350 post L xs J J2 x2 x6 x7 x8 x9 x10 x12 x13 (nI i) lt E p C z (nI k) kc ks cap (nI n) anc up fl ls lf la lr el ml al ll pa mp su ex no (d + 1) m (nI q) := by
  intro d
  induction d with
  | zero =>
    intro q m hq q1 H
    obtain rfl : q = 4 := by omega
    refine br_t (by decide) (br_c (fun z0 => nm_r (nI_1 k) (h m (cw_adn H fun j => ⟨?_, Or.inl⟩))) (fun z0 => nm_e ?_))
    · rintro (a | a)
      · exact a
      · exact absurd a.1 (hz.mp z0)
    · have ha : an := Classical.byContradiction fun c => z0 (hz.mpr c)
      have H1 : cw_ad m0 (m ||| 1) (fun j => (∃ q', 1 ≤ q' ∧ q' < 4 ∧ bt C q' = true ∧ j = 5 * q') ∨ j = 0) := cw_ad1 H fun j => Iff.rfl
      have nop : ¬ cp_op n p i → J2 (m ||| 1) (nI (k + 1)) := by
        intro ho
        refine h _ (cw_adn H1 fun j => ⟨?_, ?_⟩)
        · rintro (a | ⟨_, a | a⟩)
          · exact Or.inl a
          · exact Or.inr a
          · exact absurd a.1 ho
        · rintro (a | a)
          · exact Or.inl a
          · exact Or.inr ⟨ha, Or.inl a⟩
      refine br_c (fun l0 => br_c (fun p0 => nm_r (nI_1 k) (nop fun a => absurd a.2 (Int32.not_lt.mpr p0))) (fun p0 => ⟨4, ?_⟩)) (fun l0 => nm_r (nI_1 k) (nop fun a => l0 (hl.mpr a.1)))
      have ho : cp_op n p i := ⟨hl.mp l0, Int32.not_le.mp p0⟩
      refine l_1407 hn hi (m0 := m ||| 1) (fun m' h' => h m' fun j hj => ?_) 3 1 _ rfl (by omega) (cw_ad0 ?_)
      · rw [h' j hj, H1 j hj]
        constructor
        · rintro ((a | a | a) | a)
          · exact Or.inl a
          · exact Or.inr (Or.inl a)
          · exact Or.inr (Or.inr ⟨ha, Or.inl a⟩)
          · exact Or.inr (Or.inr ⟨ha, Or.inr ⟨ho, a⟩⟩)
        · rintro (a | a | ⟨_, a | ⟨_, a⟩⟩)
          · exact Or.inl (Or.inl a)
          · exact Or.inl (Or.inr (Or.inl a))
          · exact Or.inl (Or.inr (Or.inr a))
          · exact Or.inr a
      · rintro j ⟨q', a, b, _⟩
        omega
  | succ d ih =>
    intro q m hq q1 H
    refine br_f (nI_ge (b := 4) (by omega) (by decide)) ?_
    rw [l_5]
    refine br_c (fun hb => nm_r (nI_1 q) (ih (q + 1) m (by omega) (by omega) (cw_adn H fun j => ⟨?_, ?_⟩))) (fun hb => nm_e (nm_r (nI_1 q) (ih (q + 1) _ (by omega) (by omega) (cw_adh (by omega) H fun j => ⟨?_, ?_⟩))))
    · rintro ⟨t', a, b, c, f⟩
      by_cases eq : t' = q
      · subst eq; rw [(cq_by C (by omega)).mp hb] at c; exact absurd c (by decide)
      · exact ⟨t', a, by omega, c, f⟩
    · rintro ⟨t', a, b, c⟩
      exact ⟨t', a, by omega, c⟩
    · rintro ⟨t', a, b, c, f⟩
      by_cases eq : t' = q
      · subst eq; exact Or.inr f
      · exact Or.inl ⟨t', a, by omega, c, f⟩
    · rintro (⟨t', a, b, c⟩ | a)
      · exact ⟨t', a, by omega, c⟩
      · exact ⟨q, q1, by omega, cq_nf.mp (mt (cq_by C (by omega)).mpr hb), a⟩
theorem l_1289 {x2 x6 x7 x8 lt E p C z s : Int32} {an : Prop} (hn : n ≤ 8) (hi : i < n) (hz : z = 0 ↔ ¬ an) (hl : lt = 0 ↔ i + 1 ≠ n) (hb : cw_b x9 P)
    (h : ∀ m y, cw_I (cw_A C an (cp_op n p i) (fun v => mp (16 * i + v))) s 16 m → cw_b y (P ∧ ¬ (E = 0 ∧ m = 0)) → wL_law_1460 post L xs J x2 x6 x7 x8 y s m x12 x13 (nI i) lt E p kc ks cap (nI n) anc up fl ls lf la lr el ml al ll pa mp su ex no) :
    ∀ (d k : Nat) (m : Int32), k + d = 16 → cw_I (cw_A C an (cp_op n p i) (fun v => mp (16 * i + v))) s k m → wL_law_1289 post L xs J x2 x6 x7 x8 x9 s x12 x13 (nI i) lt E p C z kc ks cap (nI n) anc up fl ls lf la lr el ml al ll pa mp su ex no (d + 1) m (nI k) := by
  intro d
  induction d with
  | zero =>
    intro k m hk H
    obtain rfl : k = 16 := by omega
    exact br_t (by decide) (br_c (fun e0 => br_c (fun m0 => h m 0 H (cw_bf fun q => q ⟨e0, m0⟩)) (fun m0 => h m x9 H (cw_bt hb fun q => m0 q.2))) (fun e0 => h m x9 H (cw_bt hb fun q => e0 q.1)))
  | succ d ih =>
    intro k m hk H
    refine br_f (nI_ge (b := 16) (by omega) (by decide)) (br_c (fun s0 => nm_r (nI_1 k) (ih (k + 1) m (by omega) (cw_In H ((cq_by s (by omega)).mp s0)))) (fun s0 => nm_r (l_m3 (by omega)) (pk_eq (k % 4) 0 (fun e0 => ?_) (fun e0 => ?_))))
    · have hs := cq_nf.mp (mt (cq_by s (by omega)).mpr s0)
      refine ⟨4, l_1350 hn hi hz hl (m0 := m) (fun m' h' => ih (k + 1) m' (by omega) (cw_Is H hs (cw_adn h' fun j => ⟨?_, ?_⟩))) 3 1 m rfl (by omega) (cw_ad0 ?_)⟩
      · rintro (⟨a, _⟩ | a)
        · exact absurd e0 a
        · exact a.2
      · intro a; exact Or.inr ⟨e0, a⟩
      · rintro j ⟨q', a, b, _⟩
        omega
    · have hs := cq_nf.mp (mt (cq_by s (by omega)).mpr s0)
      have hit : (bt C (k % 4) = true ∨ an) → wL_law_1335 post L xs J (wL_law_1289 post L xs J x2 x6 x7 x8 x9 s x12 x13 (nI i) lt E p C z kc ks cap (nI n) anc up fl ls lf la lr el ml al ll pa mp su ex no (d + 1)) x2 x6 x7 x8 x9 s m x12 x13 (nI i) lt E p C z (nI k) kc ks cap (nI n) anc up fl ls lf la lr el ml al ll pa mp su ex no := by
        intro hq
        unfold wL_law_1335
        refine nm_e (nm_r (nI_1 k) (ih (k + 1) _ (by omega) (cw_Is H hs (cw_adh (P := fun _ => False) (by omega) (cw_ad0 fun _ a => a) fun j => ⟨?_, ?_⟩))))
        · rintro (⟨a, b, c⟩ | ⟨a, _⟩)
          · exact Or.inr b
          · exact absurd a e0
        · rintro (a | a)
          · exact absurd a id
          · exact Or.inl ⟨e0, a, hq⟩
      refine br_c (fun c0 => br_c (fun z0 => nm_r (nI_1 k) (ih (k + 1) m (by omega) (cw_Is H hs (cw_ad0 fun j => ?_)))) (fun z0 => hit (Or.inr (Classical.byContradiction fun c => z0 (hz.mpr c))))) (fun c0 => hit (Or.inl (cq_nf.mp (mt (cq_by C (by omega)).mpr c0))))
      rintro (⟨_, _, a | a⟩ | ⟨a, _⟩)
      · rw [(cq_by C (by omega)).mp c0] at a; exact absurd a (by decide)
      · exact absurd a (hz.mp z0)
      · exact absurd a e0
theorem l_1244 {x2 x6 x7 x8 lt ns E p a s : Int32} (hn : n ≤ 8) (hi : i < n) (hns : ns = 0 ↔ cp_self pa i) (hl : lt = 0 ↔ i + 1 ≠ n) (hb : cw_b x9 P)
    (h : ∀ m y, cw_I (cw_A (pa (12 * i + 6)) (cp_an pa n a i) (cp_op n p i) (fun v => mp (16 * i + v))) s 16 m → cw_b y (P ∧ ¬ (E = 0 ∧ m = 0)) → wL_law_1460 post L xs J x2 x6 x7 x8 y s m x12 x13 (nI i) lt E p kc ks cap (nI n) anc up fl ls lf la lr el ml al ll pa mp su ex no) :
    wL_law_1244 post L xs J x2 x6 x7 x8 x9 s x12 x13 (nI i) lt ns E p a kc ks cap (nI n) anc up fl ls lf la lr el ml al ll pa mp su ex no := by
  unfold wL_law_1244
  have key : ∀ z : Int32, (z = 0 ↔ ¬ cp_an pa n a i) → ∃ fu, wL_law_1289 post L xs J x2 x6 x7 x8 x9 s x12 x13 (nI i) lt E p (pa (12 * i + 6)) z kc ks cap (nI n) anc up fl ls lf la lr el ml al ll pa mp su ex no fu 0 0 := by
    intro z hz
    exact ⟨17, l_1289 hn hi hz hl hb h 16 0 0 rfl cw_I0⟩
  refine l_getF (f := 6) hn hi (by decide) (br_c (fun b0 => key 0 ⟨fun _ q => ?_, fun _ => rfl⟩) (fun b0 => ?_))
  · have q1 := q.1
    rw [(cq_b0 _).mp b0] at q1
    exact absurd q1 (by decide)
  · have hb1 := cq_nf.mp (mt (cq_b0 _).mpr b0)
    refine br_c (fun a0 => key 1 ⟨fun q => absurd q (by decide), fun q => absurd ⟨hb1, Or.inl a0⟩ q⟩) (fun a0 => br_c (fun s0 => br_c (fun l0 => key 1 ⟨fun q => absurd q (by decide), fun q => absurd ⟨hb1, Or.inr ⟨hns.mp s0, hl.mp l0⟩⟩ q⟩) (fun l0 => key 0 ⟨fun _ q => q.2.elim a0 (fun w => l0 (hl.mpr w.2)), fun _ => rfl⟩)) (fun s0 => key 0 ⟨fun _ q => q.2.elim a0 (fun w => s0 (hns.mpr w.1)), fun _ => rfl⟩))
/-! the counters -/
theorem l_min {Q : Int32 → Prop} {G : Int} {c : Nat} {l : Int32} (g1 : -300 ≤ G) (g2 : G ≤ 300) (hc : c ≤ 8) (hl : -1 ≤ l.toInt ∧ l.toInt ≤ 15)
    (h : Q (iI (if 0 ≤ l.toInt ∧ l.toInt - c < G then l.toInt - c else G))) : (l < 0 → Q (iI G)) ∧ (¬ l < 0 → (iI G ≤ l - nI c → Q (iI G)) ∧ (¬ iI G ≤ l - nI c → Q (l - nI c))) := by
  have e : l - nI c = iI (l.toInt - c) := by
    have e1 := iI_sub (a := l.toInt) (b := (c : Int)) (by omega) (by omega) (by omega) (by omega)
    rw [← iI_of, ← iI_n c (by omega)] at e1
    exact e1
  have z : l < 0 ↔ l.toInt < 0 := by
    rw [Int32.lt_iff_toInt_lt]
    rfl
  rw [e, z, iI_le (by omega) (by omega) (by omega) (by omega)]
  refine ⟨fun a => ?_, fun a => ⟨fun b => ?_, fun b => ?_⟩⟩
  · rw [if_neg (by omega)] at h; exact h
  · rw [if_neg (by omega)] at h; exact h
  · rw [if_pos (by omega)] at h; exact h
theorem l_clamp {Q : Int32 → Prop} {G : Int} (g1 : -300 ≤ G) (g2 : G ≤ 300) (h : Q (iI (cw_m G))) : (0 ≤ iI G → Q (iI G)) ∧ (¬ 0 ≤ iI G → Q 0) := by
  have z : 0 ≤ iI G ↔ 0 ≤ G := by rw [iI_0, iI_le (by omega) (by omega) (by omega) (by omega)]
  rw [z]
  unfold cw_m at h
  refine ⟨fun a => ?_, fun a => ?_⟩
  · rw [if_pos a] at h; exact h
  · rw [if_neg a] at h; exact h
theorem l_1056a {J4 : Int32 → Int32 → Int32 → Int32 → Prop} {x2 x6 x7 x8 lt ns : Int32} {e p a : Int} (he : -20 ≤ e ∧ e ≤ 20) (hp : -20 ≤ p ∧ p ≤ 20) (ha : -20 ≤ a ∧ a ≤ 20) (hn : n ≤ 8) (hi : i < n)
    (h : J4 (iI (e - cw_c pa 0 i)) (iI (p - cw_c pa 0 i)) (iI (a - cw_c pa 0 i)) 0) :
    ∀ d m, m + d = i → wL_law_1056 post L xs J J4 x2 x6 x7 x8 x9 x10 x12 x13 (nI i) lt ns (iI e) (iI p) (iI a) (-1) kc ks cap (nI n) anc up fl ls lf la lr el ml al ll pa mp su ex no (d + 1) (nI (cw_c pa 0 m)) (nI m) := by
  intro d
  induction d with
  | zero =>
    intro m hm
    obtain rfl : m = i := by omega
    have hc := cw_cl (pa := pa) (a := 0) m
    have s : ∀ z : Int, -20 ≤ z ∧ z ≤ 20 → iI z - nI (cw_c pa 0 m) = iI (z - cw_c pa 0 m) := by
      intro z hz
      rw [iI_n _ (by omega)]
      exact iI_sub (by omega) (by omega) (by omega) (by omega)
    exact br_t (nI_le (by omega) (by omega)) (br_f (by decide) (nm_r (s e he) (nm_r (s p hp) (nm_r (s a ha) (nm_r (by decide) h)))))
  | succ d ih =>
    intro m hm
    have hs : cw_c pa 0 (m + 1) = cw_c pa 0 m + cw_v pa m := cw_cs (by omega)
    have h' := ih (m + 1) (by omega)
    refine br_f (nI_ge (by omega) (by omega)) (l_getF (f := 0) hn (by omega) (by decide) (l_getF (f := 1) hn (by omega) (by decide) (br_c (fun q => nm_r (nI_1 m) ?_) (fun q => nm_r (nI_1 _) (nm_r (nI_1 m) ?_)))))
    · have v0 : cw_v pa m = 0 := if_pos q
      rw [hs, v0] at h'
      exact h'
    · have v1 : cw_v pa m = 1 := if_neg q
      rw [hs, v1] at h'
      exact h'
theorem l_1056b {J4 : Int32 → Int32 → Int32 → Int32 → Prop} {x2 x6 x7 x8 lt ns : Int32} {e p a : Int} {k : Nat} (he : -20 ≤ e ∧ e ≤ 20) (hp : -20 ≤ p ∧ p ≤ 20) (ha : -20 ≤ a ∧ a ≤ 20) (hn : n ≤ 8) (hi : i < n) (hk : k < i) (hL : cw_L pa)
    (h : J4 (iI (if 0 ≤ (pa (12 * k + 7)).toInt ∧ (pa (12 * k + 7)).toInt - cw_c pa (k + 1) i < e then (pa (12 * k + 7)).toInt - cw_c pa (k + 1) i else e))
      (iI (if 0 ≤ (pa (12 * k + 8)).toInt ∧ (pa (12 * k + 8)).toInt - cw_c pa (k + 1) i < p then (pa (12 * k + 8)).toInt - cw_c pa (k + 1) i else p))
      (iI (if 0 ≤ (pa (12 * k + 9)).toInt ∧ (pa (12 * k + 9)).toInt - cw_c pa (k + 1) i < a then (pa (12 * k + 9)).toInt - cw_c pa (k + 1) i else a)) (nI (k + 1))) :
    ∀ d m, m + d = i → k + 1 ≤ m → wL_law_1056 post L xs J J4 x2 x6 x7 x8 x9 x10 x12 x13 (nI i) lt ns (iI e) (iI p) (iI a) (nI k) kc ks cap (nI n) anc up fl ls lf la lr el ml al ll pa mp su ex no (d + 1) (nI (cw_c pa (k + 1) m)) (nI m) := by
  intro d
  induction d with
  | zero =>
    intro m hm km
    obtain rfl : m = i := by omega
    have hc := cw_cl (pa := pa) (a := k + 1) m
    refine br_t (nI_le (by omega) (by omega)) (br_t (nI_pos' (by omega)) (l_getF (f := 7) hn (by omega) (by decide) (l_getF (f := 8) hn (by omega) (by decide) (l_getF (f := 9) hn (by omega) (by decide) ?_))))
    have k1192 : ∀ y w, J4 y w (iI (if 0 ≤ (pa (12 * k + 9)).toInt ∧ (pa (12 * k + 9)).toInt - cw_c pa (k + 1) m < a then (pa (12 * k + 9)).toInt - cw_c pa (k + 1) m else a)) (nI (k + 1)) → wL_law_1192 post L xs J J4 x2 x6 x7 x8 x9 x10 x12 x13 (nI m) lt ns y w (iI a) (nI k) (nI (cw_c pa (k + 1) m)) (pa (12 * k + 9)) kc ks cap (nI n) anc up fl ls lf la lr el ml al ll pa mp su ex no := by
      intro y w hj
      unfold wL_law_1192
      rw [nI_1]
      have t := l_min (Q := fun q => J4 y w q (nI (k + 1))) (G := a) (by omega) (by omega) (show cw_c pa (k + 1) m ≤ 8 by omega) (hL k 9 (by decide)) hj
      exact ⟨fun q => nm_e (t.1 q), fun q => ⟨fun r => nm_e ((t.2 q).1 r), fun r => nm_e (nm_e ((t.2 q).2 r))⟩⟩
    have k1170 : ∀ y, J4 y (iI (if 0 ≤ (pa (12 * k + 8)).toInt ∧ (pa (12 * k + 8)).toInt - cw_c pa (k + 1) m < p then (pa (12 * k + 8)).toInt - cw_c pa (k + 1) m else p)) (iI (if 0 ≤ (pa (12 * k + 9)).toInt ∧ (pa (12 * k + 9)).toInt - cw_c pa (k + 1) m < a then (pa (12 * k + 9)).toInt - cw_c pa (k + 1) m else a)) (nI (k + 1)) → wL_law_1170 post L xs J J4 x2 x6 x7 x8 x9 x10 x12 x13 (nI m) lt ns y (iI p) (iI a) (nI k) (nI (cw_c pa (k + 1) m)) (pa (12 * k + 8)) (pa (12 * k + 9)) kc ks cap (nI n) anc up fl ls lf la lr el ml al ll pa mp su ex no := by
      intro y hj
      unfold wL_law_1170
      have t := l_min (Q := fun q => J4 y q (iI (if 0 ≤ (pa (12 * k + 9)).toInt ∧ (pa (12 * k + 9)).toInt - cw_c pa (k + 1) m < a then (pa (12 * k + 9)).toInt - cw_c pa (k + 1) m else a)) (nI (k + 1))) (G := p) (by omega) (by omega) (show cw_c pa (k + 1) m ≤ 8 by omega) (hL k 8 (by decide)) hj
      exact ⟨fun q => k1192 _ _ (t.1 q), fun q => ⟨fun r => k1192 _ _ ((t.2 q).1 r), fun r => nm_e (k1192 _ _ ((t.2 q).2 r))⟩⟩
    have t := l_min (Q := fun q => J4 q (iI (if 0 ≤ (pa (12 * k + 8)).toInt ∧ (pa (12 * k + 8)).toInt - cw_c pa (k + 1) m < p then (pa (12 * k + 8)).toInt - cw_c pa (k + 1) m else p)) (iI (if 0 ≤ (pa (12 * k + 9)).toInt ∧ (pa (12 * k + 9)).toInt - cw_c pa (k + 1) m < a then (pa (12 * k + 9)).toInt - cw_c pa (k + 1) m else a)) (nI (k + 1))) (G := e) (by omega) (by omega) (show cw_c pa (k + 1) m ≤ 8 by omega) (hL k 7 (by decide)) h
    exact ⟨fun q => k1170 _ (t.1 q), fun q => ⟨fun r => k1170 _ ((t.2 q).1 r), fun r => nm_e (k1170 _ ((t.2 q).2 r))⟩⟩
  | succ d ih =>
    intro m hm km
    have hs : cw_c pa (k + 1) (m + 1) = cw_c pa (k + 1) m + cw_v pa m := cw_cs (by omega)
    have h' := ih (m + 1) (by omega) (by omega)
    refine br_f (nI_ge (by omega) (by omega)) (l_getF (f := 0) hn (by omega) (by decide) (l_getF (f := 1) hn (by omega) (by decide) (br_c (fun q => nm_r (nI_1 m) ?_) (fun q => nm_r (nI_1 _) (nm_r (nI_1 m) ?_)))))
    · have v0 : cw_v pa m = 0 := if_pos q
      rw [hs, v0] at h'
      exact h'
    · have v1 : cw_v pa m = 1 := if_neg q
      rw [hs, v1] at h'
      exact h'
def cw_G (pa : Nat → Int32) (f : Nat) (e : Int) (i k : Nat) : Int := cw_g (fun k => (pa (12 * k + f)).toInt) (cw_c pa) e i k
theorem cw_Gb {e : Int} {f k : Nat} (h0 : 0 ≤ e ∧ e ≤ 9) (hi : i ≤ 8) : -8 ≤ cw_G pa f e i k ∧ cw_G pa f e i k ≤ 9 :=
  cw_gb h0 (fun _ => Nat.le_trans (cw_cl i) hi) k
theorem l_1040 {x2 x6 x7 x8 lt ns : Int32} {e p a : Int} (he : 0 ≤ e ∧ e ≤ 9) (hp : 0 ≤ p ∧ p ≤ 9) (ha : 0 ≤ a ∧ a ≤ 9) (hn : n ≤ 8) (hi : i < n) (hL : cw_L pa)
    (h : wL_law_1244 post L xs J x2 x6 x7 x8 x9 x10 x12 x13 (nI i) lt ns (iI (cw_m (cw_G pa 7 e i i))) (iI (cw_m (cw_G pa 8 p i i))) (iI (cw_m (cw_G pa 9 a i i))) kc ks cap (nI n) anc up fl ls lf la lr el ml al ll pa mp su ex no) :
    ∀ d k, k + d = i → wL_law_1040 post L xs J x2 x6 x7 x8 x9 x10 x12 x13 (nI i) lt ns kc ks cap (nI n) anc up fl ls lf la lr el ml al ll pa mp su ex no (d + 1) (iI (cw_G pa 7 e i k)) (iI (cw_G pa 8 p i k)) (iI (cw_G pa 9 a i k)) (nI k) := by
  intro d
  induction d with
  | zero =>
    intro k hk
    obtain rfl : k = i := by omega
    have b7 := cw_Gb (pa := pa) (i := k) (f := 7) (k := k) he (by omega)
    have b8 := cw_Gb (pa := pa) (i := k) (f := 8) (k := k) hp (by omega)
    have b9 := cw_Gb (pa := pa) (i := k) (f := 9) (k := k) ha (by omega)
    have k1236 : ∀ y w, wL_law_1244 post L xs J x2 x6 x7 x8 x9 x10 x12 x13 (nI k) lt ns y w (iI (cw_m (cw_G pa 9 a k k))) kc ks cap (nI n) anc up fl ls lf la lr el ml al ll pa mp su ex no → wL_law_1236 post L xs J x2 x6 x7 x8 x9 x10 x12 x13 (nI k) lt ns y w (iI (cw_G pa 9 a k k)) kc ks cap (nI n) anc up fl ls lf la lr el ml al ll pa mp su ex no := by
      intro y w hj
      unfold wL_law_1236
      exact l_clamp (Q := fun q => wL_law_1244 post L xs J x2 x6 x7 x8 x9 x10 x12 x13 (nI k) lt ns y w q kc ks cap (nI n) anc up fl ls lf la lr el ml al ll pa mp su ex no) (by omega) (by omega) hj
    have k1228 : ∀ y, wL_law_1244 post L xs J x2 x6 x7 x8 x9 x10 x12 x13 (nI k) lt ns y (iI (cw_m (cw_G pa 8 p k k))) (iI (cw_m (cw_G pa 9 a k k))) kc ks cap (nI n) anc up fl ls lf la lr el ml al ll pa mp su ex no → wL_law_1228 post L xs J x2 x6 x7 x8 x9 x10 x12 x13 (nI k) lt ns y (iI (cw_G pa 8 p k k)) (iI (cw_G pa 9 a k k)) kc ks cap (nI n) anc up fl ls lf la lr el ml al ll pa mp su ex no := by
      intro y hj
      unfold wL_law_1228
      exact l_clamp (Q := fun q => wL_law_1236 post L xs J x2 x6 x7 x8 x9 x10 x12 x13 (nI k) lt ns y q (iI (cw_G pa 9 a k k)) kc ks cap (nI n) anc up fl ls lf la lr el ml al ll pa mp su ex no) (by omega) (by omega) (k1236 _ _ hj)
    exact br_t (nI_le (by omega) (by omega)) (l_clamp (Q := fun q => wL_law_1228 post L xs J x2 x6 x7 x8 x9 x10 x12 x13 (nI k) lt ns q (iI (cw_G pa 8 p k k)) (iI (cw_G pa 9 a k k)) kc ks cap (nI n) anc up fl ls lf la lr el ml al ll pa mp su ex no) (by omega) (by omega) (k1228 _ h))
  | succ d ih =>
    intro k hk
    have b7 := cw_Gb (pa := pa) (i := i) (f := 7) (k := k) he (by omega)
    have b8 := cw_Gb (pa := pa) (i := i) (f := 8) (k := k) hp (by omega)
    have b9 := cw_Gb (pa := pa) (i := i) (f := 9) (k := k) ha (by omega)
    have t := l_1056b (cap := cap) (anc := anc) (up := up) (fl := fl) (ls := ls) (lf := lf) (la := la) (lr := lr) (el := el) (ml := ml) (al := al) (ll := ll) (pa := pa) (mp := mp) (su := su) (ex := ex) (no := no) (post := post) (L := L) (xs := xs) (J := J) (kc := kc) (ks := ks) (x9 := x9) (x10 := x10) (x12 := x12) (x13 := x13) (x2 := x2) (x6 := x6) (x7 := x7) (x8 := x8) (lt := lt) (ns := ns) (e := cw_G pa 7 e i k) (p := cw_G pa 8 p i k) (a := cw_G pa 9 a i k) (k := k) ⟨by omega, by omega⟩ ⟨by omega, by omega⟩ ⟨by omega, by omega⟩ hn hi (by omega) hL (ih (k + 1) (by omega)) (i - (k + 1)) (k + 1) (by omega) (Nat.le_refl _)
    rw [cw_c0 (k + 1) (Nat.le_refl _)] at t
    exact br_f (nI_ge (by omega) (by omega)) (nm_r (nI_1 k) ⟨_, t⟩)
theorem l_1040s {x2 x6 x7 x8 lt ns : Int32} {e p a : Int} (he : 0 ≤ e ∧ e ≤ 9) (hp : 0 ≤ p ∧ p ≤ 9) (ha : 0 ≤ a ∧ a ≤ 9) (hn : n ≤ 8) (hi : i < n) (hL : cw_L pa)
    (h : wL_law_1244 post L xs J x2 x6 x7 x8 x9 x10 x12 x13 (nI i) lt ns (iI (cw_m (cw_G pa 7 e i i))) (iI (cw_m (cw_G pa 8 p i i))) (iI (cw_m (cw_G pa 9 a i i))) kc ks cap (nI n) anc up fl ls lf la lr el ml al ll pa mp su ex no) :
    ∃ fu, wL_law_1040 post L xs J x2 x6 x7 x8 x9 x10 x12 x13 (nI i) lt ns kc ks cap (nI n) anc up fl ls lf la lr el ml al ll pa mp su ex no fu (iI e) (iI p) (iI a) (-1) := by
  refine ⟨i + 2, br_f ?_ (nm_r (show (-1 : Int32) + 1 = nI 0 by decide) ⟨i + 1, ?_⟩)⟩
  · intro q
    have := Int32.le_trans (nI_pos' (n := i) (by omega)) q
    exact absurd this (by decide)
  · exact l_1056a ⟨by omega, by omega⟩ ⟨by omega, by omega⟩ ⟨by omega, by omega⟩ hn hi (l_1040 he hp ha hn hi hL h i 0 (by omega)) i 0 (by omega)
theorem l_c0 {b : Int32} : cp_c0 fl b n = iI (if fl &&& b = 0 then ((n + 1 : Nat) : Int) else 0) ∨ 1000 < n := by
  by_cases h : n ≤ 900
  · left
    unfold cp_c0
    split
    · rw [nI_1]; exact iI_n (n + 1) (by omega)
    · exact iI_0
  · by_cases h2 : 1000 < n
    · exact Or.inr h2
    · left
      unfold cp_c0
      split
      · rw [nI_1]
        by_cases h3 : n + 1 ≤ 1000
        · exact iI_n (n + 1) h3
        · have : n = 1000 := by omega
          subst this
          decide
      · exact iI_0
theorem l_989 {x6 x7 lt ns : Int32} (hn : n ≤ 8) (hi : i < n) (hL : cw_L pa)
    (h : wL_law_1244 post L xs J (nI n) x6 x7 fl x9 x10 x12 x13 (nI i) lt ns (cw_e pa (cp_c0 fl 1 n) 7 i) (cw_e pa (cp_c0 fl 2 n) 8 i) (cw_e pa (cp_c0 fl 4 n) 9 i) kc ks cap (nI n) anc up fl ls lf la lr el ml al ll pa mp su ex no) :
    wL_law_989 post L xs J (nI n) x6 x7 fl x9 x10 x12 x13 (nI i) lt ns kc ks cap (nI n) anc up fl ls lf la lr el ml al ll pa mp su ex no := by
  have cc : ∀ b : Int32, ∃ e : Int, (0 ≤ e ∧ e ≤ 9) ∧ cp_c0 fl b n = iI e := by
    intro b
    refine ⟨if fl &&& b = 0 then ((n + 1 : Nat) : Int) else 0, by split <;> omega, ?_⟩
    rcases l_c0 (fl := fl) (n := n) (b := b) with q | q
    · exact q
    · omega
  obtain ⟨e, he, e1⟩ := cc 1
  obtain ⟨p, hp, e2⟩ := cc 2
  obtain ⟨a, ha, e3⟩ := cc 4
  rw [e1, e2, e3, cw_eg hL he (by decide) i (by omega), cw_eg hL hp (by decide) i (by omega), cw_eg hL ha (by decide) i (by omega)] at h
  have key := l_1040s (post := post) (L := L) (xs := xs) (J := J) (kc := kc) (ks := ks) (x9 := x9) (x10 := x10) (x12 := x12) (x13 := x13) he hp ha hn hi hL h
  rw [← e1, ← e2, ← e3] at key
  have k1019 : ∀ y w : Int32, y = cp_c0 fl 1 n → w = cp_c0 fl 2 n → wL_law_1019 post L xs J (nI n) x6 x7 fl x9 x10 x12 x13 (nI i) lt ns y w kc ks cap (nI n) anc up fl ls lf la lr el ml al ll pa mp su ex no := by
    rintro y w rfl rfl
    unfold wL_law_1019
    refine br_c (fun q => nm_e ?_) (fun q => ?_)
    · have : cp_c0 fl 4 n = nI n + 1 := if_pos q
      rw [this] at key; exact key
    · have : cp_c0 fl 4 n = 0 := if_neg q
      rw [this] at key; exact key
  have k1003 : ∀ y : Int32, y = cp_c0 fl 1 n → wL_law_1003 post L xs J (nI n) x6 x7 fl x9 x10 x12 x13 (nI i) lt ns y kc ks cap (nI n) anc up fl ls lf la lr el ml al ll pa mp su ex no := by
    intro y hy
    unfold wL_law_1003
    exact br_c (fun q => k1019 _ _ hy (if_pos q).symm) (fun q => k1019 _ _ hy (if_neg q).symm)
  unfold wL_law_989
  exact br_c (fun q => k1003 _ (if_pos q).symm) (fun q => k1003 _ (if_neg q).symm)
end LN
