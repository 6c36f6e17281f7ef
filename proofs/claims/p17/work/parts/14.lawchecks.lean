section LC
variable {cap cnt anc up fl ls lf la lr el ml al ll : Int32} {pa mp su ex no : Nat → Int32}
variable {post : Int32 → Prop} {L : Nat} {xs : Nat → Int32} {J : Int32 → Int32 → Int32 → Int32 → Int32 → Prop} {kc ks n i : Nat} {x9 x10 x12 x13 : Int32} {P : Prop}
/-! path length, basic flags -/
def cw_p7 (pa : Nat → Int32) (n j : Nat) : Prop := 0 ≤ (pa (12 * j + 5)).toInt → (cw_c pa (j + 1) (n - 1) : Int) ≤ (pa (12 * j + 5)).toInt
theorem l_940 {x6 x7 x8 lt ns : Int32} (hn : n ≤ 8) (hi : i + 1 < n) (hb : cw_b x9 P)
    (h : ∀ y, cw_b y (P ∧ cw_p7 pa n i) → wL_law_989 post L xs J (nI n) x6 x7 x8 y x10 x12 x13 (nI i) lt ns kc ks cap (nI n) anc up fl ls lf la lr el ml al ll pa mp su ex no) :
    ∀ d m, m + d = n - 1 → i + 1 ≤ m → wL_law_940 post L xs J (nI n) x6 x7 x8 x9 x10 x12 x13 (nI i) lt ns (pa (12 * i + 5)) kc ks cap (nI n) anc up fl ls lf la lr el ml al ll pa mp su ex no (d + 1) (nI (cw_c pa (i + 1) m)) (nI m) := by
  have e1 : nI n - 1 = nI (n - 1) := by
    obtain ⟨k, rfl⟩ : ∃ k, n = k + 1 := ⟨n - 1, by omega⟩
    exact nI_pred k
  intro d
  induction d with
  | zero =>
    intro m hm im
    obtain rfl : m = n - 1 := by omega
    have hc := cw_cl (pa := pa) (a := i + 1) (n - 1)
    have z : pa (12 * i + 5) < 0 ↔ (pa (12 * i + 5)).toInt < 0 := by
      rw [Int32.lt_iff_toInt_lt]
      rfl
    have z2 : nI (cw_c pa (i + 1) (n - 1)) ≤ pa (12 * i + 5) ↔ (cw_c pa (i + 1) (n - 1) : Int) ≤ (pa (12 * i + 5)).toInt := by
      rw [Int32.le_iff_toInt_le, nI_toInt (by omega)]
    unfold wL_law_940
    rw [e1]
    refine br_t (nI_le (by omega) (by omega)) (br_c (fun a => h x9 (cw_bt hb fun q => ?_)) (fun a => br_c (fun b => h x9 (cw_bt hb fun _ => z2.mp b)) (fun b => h 0 (cw_bf fun q => b (z2.mpr (q ?_))))))
    · have := z.mp a
      omega
    · have := mt z.mpr a
      omega
  | succ d ih =>
    intro m hm im
    have hs : cw_c pa (i + 1) (m + 1) = cw_c pa (i + 1) m + cw_v pa m := cw_cs (by omega)
    have h' := ih (m + 1) (by omega) (by omega)
    unfold wL_law_940
    rw [e1]
    refine br_f (nI_ge (by omega) (by omega)) (l_getF (f := 0) hn (by omega) (by decide) (l_getF (f := 1) hn (by omega) (by decide) (br_c (fun q => nm_r (nI_1 m) ?_) (fun q => nm_r (nI_1 _) (nm_r (nI_1 m) ?_)))))
    · have v0 : cw_v pa m = 0 := if_pos q
      rw [hs, v0] at h'
      exact h'
    · have v1 : cw_v pa m = 1 := if_neg q
      rw [hs, v1] at h'
      exact h'
theorem l_884 {x6 x7 x8 lt ns : Int32} (hn : n ≤ 8) (hi : i < n) (hl : lt = 0 ↔ i + 1 ≠ n) (hb : cw_b x9 P)
    (h : ∀ y, cw_b y (P ∧ (i + 1 ≠ n → cw_o6 pa i ∧ cw_p7 pa n i)) → wL_law_989 post L xs J (nI n) x6 x7 x8 y x10 x12 x13 (nI i) lt ns kc ks cap (nI n) anc up fl ls lf la lr el ml al ll pa mp su ex no) :
    wL_law_884 post L xs J (nI n) x6 x7 x8 x9 x10 x12 x13 (nI i) lt ns kc ks cap (nI n) anc up fl ls lf la lr el ml al ll pa mp su ex no := by
  unfold wL_law_884
  refine br_c (fun l0 => l_getF (f := 4) hn hi (by decide) (l_getF (f := 5) hn hi (by decide) ?_)) (fun l0 => h x9 (cw_bt hb fun q => absurd (hl.mpr q) l0))
  have hl' := hl.mp l0
  have key : ∀ y, cw_b y (P ∧ cw_o6 pa i) → ∃ fu, wL_law_940 post L xs J (nI n) x6 x7 x8 y x10 x12 x13 (nI i) lt ns (pa (12 * i + 5)) kc ks cap (nI n) anc up fl ls lf la lr el ml al ll pa mp su ex no fu 0 (nI (i + 1)) := by
    intro y hy
    have t := l_940 (cap := cap) (anc := anc) (up := up) (fl := fl) (ls := ls) (lf := lf) (la := la) (lr := lr) (el := el) (ml := ml) (al := al) (ll := ll) (pa := pa) (mp := mp) (su := su) (ex := ex) (no := no) (post := post) (L := L) (xs := xs) (J := J) (kc := kc) (ks := ks) (x9 := y) (x10 := x10) (x12 := x12) (x13 := x13) (x6 := x6) (x7 := x7) (x8 := x8) (lt := lt) (ns := ns) hn (by omega) hy (fun w hw => h w (cw_bi hw ⟨fun q => ⟨q.1.1, fun _ => ⟨q.1.2, q.2⟩⟩, fun q => ⟨⟨q.1, (q.2 hl').1⟩, (q.2 hl').2⟩⟩)) (n - 1 - (i + 1)) (i + 1) (by omega) (Nat.le_refl _)
    rw [cw_c0 (i + 1) (Nat.le_refl _)] at t
    exact ⟨_, t⟩
  exact br_c (fun a => nm_r (nI_1 i) (key 0 (cw_bf fun q => q.1 a))) (fun a => br_c (fun b => nm_r (nI_1 i) (key x9 (cw_bt hb ⟨a, fun q => q.1 b⟩))) (fun b => br_c (fun c => nm_r (nI_1 i) (key 0 (cw_bf fun q => q.2 ⟨b, c⟩))) (fun c => nm_r (nI_1 i) (key x9 (cw_bt hb ⟨a, fun q => c q.2⟩)))))
/-! names -/
theorem l_831 {J2 : Int32 → Int32 → Prop} {x6 x7 x8 lt ns y : Int32} {j K : Nat} {A : Prop} (hn : n ≤ 8) (hj : j < n) (hsu : ∀ j, cp_nm (su j)) (hK : K ≤ 4) (hp : pa (12 * j + (10 + 1)) = nI K)
    (h0 : ¬ (A ∧ ∀ q, q < K → ¬ cp_lie y (su (8 * j + 4 * 1 + q))) → J2 0 (nI (j + 1))) (h1 : (A ∧ ∀ q, q < K → ¬ cp_lie y (su (8 * j + 4 * 1 + q))) → J2 x9 (nI (j + 1))) :
    ∀ (d k : Nat) (f : Int32), k + d = K → cw_b f (A ∧ ∀ q, q < k → ¬ cp_lie y (su (8 * j + 4 * 1 + q))) → wL_law_831 post L xs J J2 (nI n) x6 x7 x8 x9 x10 x12 x13 (nI i) lt y ns (nI j) kc ks cap (nI n) anc up fl ls lf la lr el ml al ll pa mp su ex no (d + 1) f (nI k) := by
  intro d
  induction d with
  | zero =>
    intro k f hk hf
    obtain rfl : k = K := by omega
    refine l_getF (f := 11) hn hj (by decide) ?_
    have hp' : pa (12 * j + 11) = nI k := hp
    rw [hp']
    exact br_t (nI_le (by omega) (by omega)) (br_c (fun a => nm_r (nI_1 j) (h0 ((cw_b0 hf).mp a))) (fun a => nm_r (nI_1 j) (h1 (Classical.byContradiction fun q => a ((cw_b0 hf).mpr q)))))
  | succ d ih =>
    intro k f hk hf
    refine l_getF (f := 11) hn hj (by decide) ?_
    have hp' : pa (12 * j + 11) = nI K := hp
    rw [hp']
    refine br_f (nI_ge (by omega) (by omega)) (l_getSub (kd := 1) hn hj (by decide) hK hp (by omega) (l_lies (hsu _) (fun hl => br_f (by decide) (nm_r (nI_1 k) (ih (k + 1) 0 (by omega) (cw_bf fun q => q k (by omega) hl)))) (fun hl => br_t rfl (nm_r (nI_1 k) (ih (k + 1) f (by omega) (cw_bi hf ⟨fun q => ⟨q.1, fun r hr => ?_⟩, fun q => ⟨q.1, fun r hr => q.2 r (by omega)⟩⟩))))))
    by_cases e : r = k
    · subst e; exact hl
    · exact q.2 r (by omega)
theorem l_795 {J2 : Int32 → Int32 → Prop} {x6 x7 x8 lt ns y : Int32} {j K : Nat} (hn : n ≤ 8) (hj : j < n) (hsu : ∀ j, cp_nm (su j)) (hK : K ≤ 4) (hp : pa (12 * j + (10 + 0)) = nI K)
    (h : ∀ f, cw_b f (K = 0 ∨ ∃ q, q < K ∧ cp_lie y (su (8 * j + 4 * 0 + q))) → ∃ fu, wL_law_831 post L xs J J2 (nI n) x6 x7 x8 x9 x10 x12 x13 (nI i) lt y ns (nI j) kc ks cap (nI n) anc up fl ls lf la lr el ml al ll pa mp su ex no fu f 0) :
    ∀ (d k : Nat) (f : Int32), k + d = K → cw_b f (K = 0 ∨ ∃ q, q < k ∧ cp_lie y (su (8 * j + 4 * 0 + q))) → wL_law_795 post L xs J J2 (nI n) x6 x7 x8 x9 x10 x12 x13 (nI i) lt y ns (nI j) (nI K) kc ks cap (nI n) anc up fl ls lf la lr el ml al ll pa mp su ex no (d + 1) f (nI k) := by
  intro d
  induction d with
  | zero =>
    intro k f hk hf
    obtain rfl : k = K := by omega
    exact br_t (nI_le (by omega) (by omega)) (h f hf)
  | succ d ih =>
    intro k f hk hf
    refine br_f (nI_ge (by omega) (by omega)) (l_getSub (kd := 0) hn hj (by decide) hK hp (by omega) (l_lies (hsu _) (fun hl => br_f (by decide) (nm_r (nI_1 k) (ih (k + 1) 1 (by omega) (Or.inl ⟨rfl, Or.inr ⟨k, by omega, hl⟩⟩)))) (fun hl => br_t rfl (nm_r (nI_1 k) (ih (k + 1) f (by omega) (cw_bi hf ⟨?_, ?_⟩))))))
    · rintro (a | ⟨q, a, b⟩)
      · exact Or.inl a
      · exact Or.inr ⟨q, by omega, b⟩
    · rintro (a | ⟨q, a, b⟩)
      · exact Or.inl a
      · by_cases e : q = k
        · subst e; exact absurd b hl
        · exact Or.inr ⟨q, by omega, b⟩
theorem l_bj {y : Int32} {j K0 K1 : Nat} (k0 : K0 ≤ 4) (k1 : K1 ≤ 4) (p0 : pa (12 * j + (10 + 0)) = nI K0) (p1 : pa (12 * j + (10 + 1)) = nI K1) :
    ((K0 = 0 ∨ ∃ q, q < K0 ∧ cp_lie y (su (8 * j + 4 * 0 + q))) ∧ ∀ q, q < K1 → ¬ cp_lie y (su (8 * j + 4 * 1 + q))) ↔ ¬ cp_bj pa su y j := by
  have a0 : cp_any pa su y j 0 ↔ ∃ q, q < K0 ∧ cp_lie y (su (8 * j + 4 * 0 + q)) := by
    unfold cp_any
    rw [p0]
    constructor
    · rintro ⟨q, q4, ql, h⟩
      exact ⟨q, (nI_ltI (by omega) (by omega)).mp ql, h⟩
    · rintro ⟨q, ql, h⟩
      exact ⟨q, by omega, nI_lt ql (by omega), h⟩
  have a1 : cp_any pa su y j 1 ↔ ∃ q, q < K1 ∧ cp_lie y (su (8 * j + 4 * 1 + q)) := by
    unfold cp_any
    rw [p1]
    constructor
    · rintro ⟨q, q4, ql, h⟩
      exact ⟨q, (nI_ltI (by omega) (by omega)).mp ql, h⟩
    · rintro ⟨q, ql, h⟩
      exact ⟨q, by omega, nI_lt ql (by omega), h⟩
  have p0' : pa (12 * j + 10) = nI K0 := p0
  have z : (0 : Int32) < nI K0 ↔ 0 < K0 := nI_ltI (a := 0) (by omega) (by omega)
  unfold cp_bj
  rw [a0, a1, p0', z]
  constructor
  · rintro ⟨h, h'⟩ (⟨b, c⟩ | ⟨q, b, c⟩)
    · rcases h with h | h
      · omega
      · exact c h
    · exact h' q b c
  · intro h
    refine ⟨?_, fun q hq hl => h (Or.inr ⟨q, hq, hl⟩)⟩
    apply Classical.byContradiction
    intro hn
    exact h (Or.inl ⟨Nat.pos_of_ne_zero fun q => hn (Or.inl q), fun q => hn (Or.inr q)⟩)
theorem l_763 {x6 x7 x8 lt ns y : Int32} (hn : n ≤ 8) (hi : i < n) (hsu : ∀ j, cp_nm (su j)) (hK : cp_K pa)
    (h : ∀ w, cw_b w (P ∧ ∀ j, j < i → ¬ cp_bj pa su y j) → wL_law_884 post L xs J (nI n) x6 x7 x8 w x10 x12 x13 (nI i) lt ns kc ks cap (nI n) anc up fl ls lf la lr el ml al ll pa mp su ex no) :
    ∀ (d j : Nat) (w : Int32), j + d = i → cw_b w (P ∧ ∀ q, q < j → ¬ cp_bj pa su y q) → wL_law_763 post L xs J (nI n) x6 x7 x8 x10 x12 x13 (nI i) lt y ns kc ks cap (nI n) anc up fl ls lf la lr el ml al ll pa mp su ex no (d + 1) w (nI j) := by
  intro d
  induction d with
  | zero =>
    intro j w hj hw
    obtain rfl : j = i := by omega
    exact br_t (nI_le (by omega) (by omega)) (h w hw)
  | succ d ih =>
    intro j w hj hw
    obtain ⟨K0, k0, p0⟩ := hK j 0 (by decide)
    obtain ⟨K1, k1, p1⟩ := hK j 1 (by decide)
    have bj := l_bj (su := su) (y := y) k0 k1 p0 p1
    have key : ∀ f, cw_b f (K0 = 0 ∨ ∃ q, q < 0 ∧ cp_lie y (su (8 * j + 4 * 0 + q))) → ∃ fu, wL_law_795 post L xs J (wL_law_763 post L xs J (nI n) x6 x7 x8 x10 x12 x13 (nI i) lt y ns kc ks cap (nI n) anc up fl ls lf la lr el ml al ll pa mp su ex no (d + 1)) (nI n) x6 x7 x8 w x10 x12 x13 (nI i) lt y ns (nI j) (nI K0) kc ks cap (nI n) anc up fl ls lf la lr el ml al ll pa mp su ex no fu f 0 := by
      intro f hf
      refine ⟨K0 + 1, l_795 hn (by omega) hsu k0 p0 (fun f' hf' => ⟨K1 + 1, l_831 hn (by omega) hsu k1 p1 (fun q => ih (j + 1) 0 (by omega) ?_) (fun q => ih (j + 1) w (by omega) ?_) K1 0 f' (by omega) (cw_bi hf' ⟨fun a => ⟨a, fun r hr => absurd hr (by omega)⟩, fun a => a.1⟩)⟩) K0 0 f (by omega) hf⟩
      · refine Or.inr ⟨rfl, fun a => q (bj.mpr (a.2 j (by omega)))⟩
      · refine cw_bi hw ⟨fun a => ⟨a.1, fun r hr => ?_⟩, fun a => ⟨a.1, fun r hr => a.2 r (by omega)⟩⟩
        by_cases e : r = j
        · subst e; exact bj.mp q
        · exact a.2 r (by omega)
    refine br_f (nI_ge (by omega) (by omega)) (l_getF (f := 10) hn (by omega) (by decide) ?_)
    have p0' : pa (12 * j + 10) = nI K0 := p0
    rw [p0']
    refine pk_eq K0 0 (fun a => key 1 (Or.inl ⟨rfl, Or.inl a⟩)) (fun a => key 0 (Or.inr ⟨rfl, ?_⟩))
    rintro (b | ⟨q, b, _⟩)
    · exact a b
    · omega
theorem l_750 {x6 x7 x8 lt ns : Int32} (hn : n ≤ 8) (hi : i < n) (hsu : ∀ j, cp_nm (su j)) (hK : cp_K pa) (hns : ns = 0 ↔ cp_self pa i) (hl : lt = 0 ↔ i + 1 ≠ n) (hb : cw_b x9 P)
    (h : ∀ w, cw_b w (P ∧ cw_o3 pa su n i) → wL_law_884 post L xs J (nI n) x6 x7 x8 w x10 x12 x13 (nI i) lt ns kc ks cap (nI n) anc up fl ls lf la lr el ml al ll pa mp su ex no) :
    wL_law_750 post L xs J (nI n) x6 x7 x8 x9 x10 x12 x13 (nI i) lt (pa (12 * i + 1)) ns kc ks cap (nI n) anc up fl ls lf la lr el ml al ll pa mp su ex no := by
  unfold wL_law_750
  have key : ¬ cp_ex pa n i → ∃ fu, wL_law_763 post L xs J (nI n) x6 x7 x8 x10 x12 x13 (nI i) lt (pa (12 * i + 1)) ns kc ks cap (nI n) anc up fl ls lf la lr el ml al ll pa mp su ex no fu x9 0 := by
    intro hx
    refine ⟨i + 1, l_763 hn hi hsu hK (fun w hw => h w (cw_bi hw ⟨fun q => ⟨q.1, fun r => ?_⟩, fun q => ⟨q.1, fun j hj hb => q.2 ⟨hx, j, hj, hb⟩⟩⟩)) i 0 x9 (by omega) (cw_bt hb fun q hq => absurd hq (by omega))⟩
    obtain ⟨_, j, hj, hbj⟩ := r
    exact q.2 j hj hbj
  exact br_c (fun l0 => br_c (fun s0 => h x9 (cw_bt hb fun q => q.1 ⟨hns.mp s0, hl.mp l0⟩)) (fun s0 => key fun q => s0 (hns.mpr q.1))) (fun l0 => key fun q => l0 (hl.mpr q.2))
/-- one certificate, up to its node set -/
theorem l_661 {x7 x8 lt : Int32} (hn : n ≤ 8) (hi : i < n) (hsu : ∀ j, cp_nm (su j)) (hK : cp_K pa) (hl : lt = 0 ↔ i + 1 ≠ n) (hb : cw_b x9 P)
    (h : ∀ (w ns : Int32), (ns = 0 ↔ cp_self pa i) → cw_b w ((((P ∧ cw_o1 pa 10 i) ∧ cw_o2 pa anc i) ∧ cw_o3 pa su n i) ∧ (i + 1 ≠ n → cw_o6 pa i ∧ cw_p7 pa n i)) → wL_law_989 post L xs J (nI n) anc x7 x8 w x10 x12 x13 (nI i) lt ns kc ks cap (nI n) anc up fl ls lf la lr el ml al ll pa mp su ex no) :
    wL_law_661 post L xs J (nI n) anc x7 x8 x9 x10 x12 x13 (nI i) lt kc ks cap (nI n) anc up fl ls lf la lr el ml al ll pa mp su ex no := by
  have k718 : ∀ w ns : Int32, (ns = 0 ↔ cp_self pa i) → cw_b w (P ∧ cw_o1 pa 10 i) → wL_law_718 post L xs J (nI n) anc x7 x8 w x10 x12 x13 (nI i) lt (pa (12 * i + 1)) ns kc ks cap (nI n) anc up fl ls lf la lr el ml al ll pa mp su ex no := by
    intro w ns hns hw
    have k744 : ∀ z : Int32, z = cp_want pa anc i → wL_law_744 post L xs J (nI n) anc x7 x8 w x10 x12 x13 (nI i) lt (pa (12 * i + 1)) ns z (pa (12 * i)) kc ks cap (nI n) anc up fl ls lf la lr el ml al ll pa mp su ex no := by
      rintro z rfl
      unfold wL_law_744
      exact br_c (fun q => l_750 hn hi hsu hK hns hl (cw_bt hw (C := cw_o2 pa anc i) q) (fun v hv => l_884 hn hi hl hv (fun u hu => h u ns hns hu))) (fun q => l_750 hn hi hsu hK hns hl (cw_bf (P := P ∧ cw_o1 pa 10 i) (C := cw_o2 pa anc i) q) (fun v hv => l_884 hn hi hl hv (fun u hu => h u ns hns hu)))
    unfold wL_law_718
    refine l_getF (f := 0) hn hi (by decide) (pk_eq i 0 (fun e0 => k744 _ (by rw [e0]; rfl)) (fun e0 => ?_))
    obtain ⟨q, rfl⟩ : ∃ q, i = q + 1 := ⟨i - 1, by omega⟩
    rw [nI_pred]
    exact l_getF (f := 1) hn (by omega) (by decide) (k744 _ rfl)
  have k689 : ∀ ns : Int32, (ns = 0 ↔ cp_self pa i) → wL_law_689 post L xs J (nI n) anc x7 x8 x9 x10 x12 x13 (nI i) lt (pa (12 * i + 1)) ns kc ks cap (nI n) anc up fl ls lf la lr el ml al ll pa mp su ex no := by
    intro ns hns
    unfold wL_law_689
    exact l_getF (f := 2) hn hi (by decide) (br_c (fun q => k718 0 ns hns (cw_bf fun r => r (Or.inl q))) (fun q => l_getF (f := 3) hn hi (by decide) (br_c (fun r => k718 x9 ns hns (cw_bt hb fun s => s.elim q (Int32.not_lt.mpr r))) (fun r => k718 0 ns hns (cw_bf fun s => s (Or.inr (Int32.not_le.mp r)))))))
  unfold wL_law_661
  exact l_getF (f := 1) hn hi (by decide) (l_getF (f := 0) hn hi (by decide) (br_c (fun q => k689 0 ⟨fun _ => q, fun _ => rfl⟩) (fun q => k689 1 ⟨fun z => absurd z (by decide), fun z => absurd z q⟩)))
end LC
