/-! X's masks: one int a policy -/
def cx_R (ex : Nat → Int32) (S : Nat → Nat → Prop) : Prop := ∀ d, d < 16 → ∀ v, v < 32 → (bt (ex d) v = true ↔ v < 16 ∧ S d v)
def cx_k (an : Prop) (C kept : Int32) : Prop := (an ∧ kept = 65535) ∨ (¬ an ∧ kept = C)
theorem cx_f1 {ex : Nat → Int32} {S : Nat → Nat → Prop} {an : Prop} {C kept : Int32} (h : cx_R ex S) (hk : cx_k an C kept) {d v : Nat} (hd : d < 16) (hv : v < 32) :
    bt ((ex d &&& kept) &&& (-2)) v = true ↔ v < 16 ∧ v ≠ 0 ∧ S d v ∧ (bt C v = true ∨ an) := by
  rw [b_and, b_and, cq_m2 v hv, Bool.and_eq_true, Bool.and_eq_true, h d hd v hv, decide_eq_true_eq]
  rcases hk with ⟨ha, rfl⟩ | ⟨ha, rfl⟩
  · rw [b_65535, decide_eq_true_eq]
    constructor
    · rintro ⟨⟨⟨a, b⟩, c⟩, d⟩; exact ⟨a, d, b, Or.inr ha⟩
    · rintro ⟨a, b, c, _⟩; exact ⟨⟨⟨a, c⟩, a⟩, b⟩
  · constructor
    · rintro ⟨⟨⟨a, b⟩, c⟩, d⟩; exact ⟨a, d, b, Or.inl c⟩
    · rintro ⟨a, b, c, d | d⟩
      · exact ⟨⟨⟨a, c⟩, d⟩, b⟩
      · exact absurd d ha
/-- what the pair (0, 0) adds at policy d -/
def cx_o (S : Nat → Nat → Prop) (C : Int32) (an op : Prop) (T : Nat → Int32) (d : Nat) : Prop :=
  S 0 0 ∧ ((d ≠ 0 ∧ (bt C d = true ∨ (an ∧ op ∧ ¬ T d = 0))) ∨ (d = 0 ∧ an))
def cx_u (no no' : Nat → Int32) (o : Nat → Prop) : Prop := ∀ d, d < 16 → ∀ v, v < 32 → (bt (no' d) v = true ↔ bt (no d) v = true ∨ (v = d ∧ o d))
theorem cx_N {ex no no' : Nat → Int32} {S : Nat → Nat → Prop} {an op : Prop} {C kept : Int32} {T : Nat → Int32} (h : cx_R ex S) (hk : cx_k an C kept)
    (h1 : ∀ d, d < 16 → no d = (ex d &&& kept) &&& (-2)) (h2 : cx_u no no' (cx_o S C an op T)) : cx_R no' (cp_N S C an op T) := by
  intro d hd v hv
  rw [h2 d hd v hv, h1 d hd, cx_f1 h hk hd hv]
  unfold cp_N cx_o
  constructor
  · rintro (⟨a, b, c⟩ | ⟨rfl, c, e⟩)
    · exact ⟨a, Or.inl ⟨b, c⟩⟩
    · exact ⟨by omega, Or.inr ⟨rfl, c, e⟩⟩
  · rintro ⟨a, ⟨b, c⟩ | ⟨rfl, c, e⟩⟩
    · exact Or.inl ⟨a, b, c⟩
    · exact Or.inr ⟨rfl, c, e⟩
theorem cx_or1 {x : Int32} {p v : Nat} (hp : p < 32) (hv : v < 32) : bt (x ||| ((1 : Int32) <<< (nI p &&& 31))) v = true ↔ bt x v = true ∨ v = p := by
  rw [b_or, Bool.or_eq_true, cq_one p hp v hv, decide_eq_true_eq]
theorem cx_or0 {x : Int32} {v : Nat} (hv : v < 32) : bt (x ||| 1) v = true ↔ bt x v = true ∨ v = 0 := by
  rw [b_or, Bool.or_eq_true, cq_1 v hv, decide_eq_true_eq]
/-- the mask of the first k policies that have a pair -/
def cx_m (no : Nat → Int32) (k : Nat) (m : Int32) : Prop := ∀ d, d < 32 → (bt m d = true ↔ d < k ∧ ¬ no d = 0)
theorem cx_m0 {no : Nat → Int32} : cx_m no 0 0 := fun d _ => by rw [b_0]; simp
theorem cx_ms {no : Nat → Int32} {k : Nat} {m : Int32} (hk : k < 32) (h : cx_m no k m) (hz : ¬ no k = 0) : cx_m no (k + 1) (m ||| ((1 : Int32) <<< (nI k &&& 31))) := by
  intro d hd
  rw [cx_or1 hk hd, h d hd]
  constructor
  · rintro (⟨a, b⟩ | rfl)
    · exact ⟨by omega, b⟩
    · exact ⟨by omega, hz⟩
  · rintro ⟨a, b⟩
    by_cases e : d = k
    · exact Or.inr e
    · exact Or.inl ⟨by omega, b⟩
theorem cx_mz {no : Nat → Int32} {k : Nat} {m : Int32} (h : cx_m no k m) (hz : no k = 0) : cx_m no (k + 1) m := by
  intro d hd
  rw [h d hd]
  constructor
  · rintro ⟨a, b⟩; exact ⟨by omega, b⟩
  · rintro ⟨a, b⟩
    by_cases e : d = k
    · subst e; exact absurd hz b
    · exact ⟨by omega, b⟩
theorem cx_mR {no : Nat → Int32} {N : Nat → Nat → Prop} {m : Int32} (h : cx_m no 16 m) (hN : cx_R no N) : cp_R N m := by
  intro d hd
  rw [h d hd]
  constructor
  · rintro ⟨a, b⟩
    obtain ⟨v, hv, hb⟩ := cq_nz.mp b
    obtain ⟨c, e⟩ := (hN d a v hv).mp hb
    exact ⟨a, v, c, e⟩
  · rintro ⟨a, v, hv, hb⟩
    exact ⟨a, cq_nz.mpr ⟨v, by omega, (hN d a v (by omega)).mpr ⟨hv, hb⟩⟩⟩
/-- the mapped mask of one policy, by the first k labels -/
def cx_t (p : Int32) (T : Nat → Int32) (held : Int32) (k : Nat) (r : Int32) : Prop :=
  ∀ t, t < 32 → (bt r t = true ↔ (t = 0 ∧ bt held 0 = true) ∨ ∃ v, v < k ∧ v ≠ 0 ∧ bt held v = true ∧ ((T v = 0 ∧ t = v) ∨ (¬ T v = 0 ∧ 0 < p ∧ bt (T v) t = true)))
theorem cx_t1 {p : Int32} {T : Nat → Int32} {held : Int32} : cx_t p T held 1 (held &&& 1) := by
  intro t ht
  rw [b_and, cq_1 t ht, Bool.and_eq_true, decide_eq_true_eq]
  constructor
  · rintro ⟨a, rfl⟩; exact Or.inl ⟨rfl, a⟩
  · rintro (⟨rfl, a⟩ | ⟨v, a, b, _⟩)
    · exact ⟨a, rfl⟩
    · omega
theorem cx_tn {p : Int32} {T : Nat → Int32} {held r : Int32} {k : Nat} (h : cx_t p T held k r) (hn : bt held k = true → ¬ T k = 0 ∧ ¬ 0 < p) : cx_t p T held (k + 1) r := by
  intro t ht
  rw [h t ht]
  constructor
  · rintro (a | ⟨v, a, b⟩)
    · exact Or.inl a
    · exact Or.inr ⟨v, by omega, b⟩
  · rintro (a | ⟨v, a, b, c, d⟩)
    · exact Or.inl a
    · by_cases e : v = k
      · subst e
        obtain ⟨h1, h2⟩ := hn c
        rcases d with d | d
        · exact absurd d.1 h1
        · exact absurd d.2.1 h2
      · exact Or.inr ⟨v, by omega, b, c, d⟩
theorem cx_tv {p : Int32} {T : Nat → Int32} {held r : Int32} {k : Nat} (hk : k < 32) (h0 : k ≠ 0) (h : cx_t p T held k r) (hb : bt held k = true) (hT : T k = 0) : cx_t p T held (k + 1) (r ||| ((1 : Int32) <<< (nI k &&& 31))) := by
  intro t ht
  rw [cx_or1 hk ht, h t ht]
  constructor
  · rintro ((a | ⟨v, a, b⟩) | rfl)
    · exact Or.inl a
    · exact Or.inr ⟨v, by omega, b⟩
    · exact Or.inr ⟨t, by omega, h0, hb, Or.inl ⟨hT, rfl⟩⟩
  · rintro (a | ⟨v, a, b, c, d⟩)
    · exact Or.inl (Or.inl a)
    · by_cases e : v = k
      · subst e
        rcases d with d | d
        · exact Or.inr d.2
        · exact absurd hT d.1
      · exact Or.inl (Or.inr ⟨v, by omega, b, c, d⟩)
theorem cx_tt {p : Int32} {T : Nat → Int32} {held r : Int32} {k : Nat} (h0 : k ≠ 0) (h : cx_t p T held k r) (hb : bt held k = true) (hT : ¬ T k = 0) (hp : 0 < p) : cx_t p T held (k + 1) (r ||| T k) := by
  intro t ht
  rw [b_or, Bool.or_eq_true, h t ht]
  constructor
  · rintro ((a | ⟨v, a, b⟩) | a)
    · exact Or.inl a
    · exact Or.inr ⟨v, by omega, b⟩
    · exact Or.inr ⟨k, by omega, h0, hb, Or.inr ⟨hT, hp, a⟩⟩
  · rintro (a | ⟨v, a, b, c, d⟩)
    · exact Or.inl (Or.inl a)
    · by_cases e : v = k
      · subst e
        rcases d with d | d
        · exact absurd d.1 hT
        · exact Or.inr d.2.2
      · exact Or.inl (Or.inr ⟨v, by omega, b, c, d⟩)
/-- a mapping's targets: labels 1 to 15 -/
def cp_T (x : Int32) : Prop := ∀ t, t < 32 → bt x t = true → 1 ≤ t ∧ t < 16
theorem cp_T0 {x : Int32} (h : cp_T x) : bt x 0 = false := by
  cases hb : bt x 0 with
  | false => rfl
  | true => have := h 0 (by omega) hb; omega
theorem cx_S {no ex : Nat → Int32} {N : Nat → Nat → Prop} {p : Int32} {T : Nat → Int32} (hT : ∀ v, cp_T (T v)) (h : cx_R no N) (h1 : ∀ d, d < 16 → cx_t p T (no d) 16 (ex d)) : cx_R ex (cp_S N p T) := by
  intro d hd t ht
  rw [h1 d hd t ht]
  unfold cp_S
  constructor
  · rintro (⟨rfl, a⟩ | ⟨v, a, b, c, ⟨e, rfl⟩ | ⟨e, f, g⟩⟩)
    · exact ⟨by omega, Or.inl ⟨((h d hd 0 (by omega)).mp a).2, Or.inl rfl⟩⟩
    · exact ⟨a, Or.inl ⟨((h d hd t ht).mp c).2, Or.inr e⟩⟩
    · exact ⟨(hT v t ht g).2, Or.inr ⟨f, v, a, b, ((h d hd v (by omega)).mp c).2, e, g⟩⟩
  · rintro ⟨a, ⟨b, c⟩ | ⟨f, v, a', b, c, e, g⟩⟩
    · by_cases z : t = 0
      · subst z; exact Or.inl ⟨rfl, (h d hd 0 (by omega)).mpr ⟨a, b⟩⟩
      · rcases c with c | c
        · exact absurd c z
        · exact Or.inr ⟨t, a, z, (h d hd t ht).mpr ⟨a, b⟩, Or.inl ⟨c, rfl⟩⟩
    · exact Or.inr ⟨v, a', b, (h d hd v (by omega)).mpr ⟨a', c⟩, Or.inr ⟨e, f, g⟩⟩
theorem cx_R0 {ex : Nat → Int32} (h0 : ex 0 = 1) (h : ∀ d, d < 16 → d ≠ 0 → ex d = 0) : cx_R ex cp_S0 := by
  intro d hd v hv
  unfold cp_S0
  by_cases e : d = 0
  · subst e
    rw [h0, cq_1 v hv, decide_eq_true_eq]
    omega
  · rw [h d hd e, b_0]
    simp [e]

/-! Y's sets: one cell a pair -/
def cy_R (ss : Nat → Int32) (S : Nat → Nat → Prop) : Prop := ∀ x, x < 256 → (¬ ss x = 0 ↔ S (x / 16) (x % 16))
def cy_A (C : Int32) (an op : Prop) (T : Nat → Int32) (x j : Nat) : Prop :=
  (x % 16 ≠ 0 ∧ j = x ∧ (bt C (x % 16) = true ∨ an)) ∨ (x % 16 = 0 ∧ ((∃ q, 1 ≤ q ∧ q < 16 ∧ bt C q = true ∧ j = 17 * q) ∨ (an ∧ (j = 0 ∨ ∃ q, 1 ≤ q ∧ q < 16 ∧ op ∧ ¬ T q = 0 ∧ j = 17 * q))))
def cy_I (A : Nat → Nat → Prop) (ss : Nat → Int32) (k : Nat) (ns : Nat → Int32) : Prop := ∀ j, j < 256 → (¬ ns j = 0 ↔ ∃ x, x < k ∧ ¬ ss x = 0 ∧ A x j)
theorem cy_I0 {A : Nat → Nat → Prop} {ss ns : Nat → Int32} (h : ∀ j, j < 256 → ns j = 0) : cy_I A ss 0 ns := by
  intro j hj
  rw [h j hj]
  constructor
  · intro z; exact absurd rfl z
  · rintro ⟨x, a, _⟩; omega
theorem cy_In {A : Nat → Nat → Prop} {ss ns : Nat → Int32} {k : Nat} (h : cy_I A ss k ns) (hz : ss k = 0) : cy_I A ss (k + 1) ns := by
  intro j hj
  rw [h j hj]
  constructor
  · rintro ⟨x, a, b⟩; exact ⟨x, by omega, b⟩
  · rintro ⟨x, a, b, c⟩
    by_cases e : x = k
    · subst e; exact absurd hz b
    · exact ⟨x, by omega, b, c⟩
theorem cy_Is {A : Nat → Nat → Prop} {ss ns ns' : Nat → Int32} {k : Nat} (h : cy_I A ss k ns) (hz : ¬ ss k = 0) (hn : ∀ j, j < 256 → (¬ ns' j = 0 ↔ ¬ ns j = 0 ∨ A k j)) : cy_I A ss (k + 1) ns' := by
  intro j hj
  rw [hn j hj, h j hj]
  constructor
  · rintro (⟨x, a, b⟩ | a)
    · exact ⟨x, by omega, b⟩
    · exact ⟨k, by omega, hz, a⟩
  · rintro ⟨x, a, b, c⟩
    by_cases e : x = k
    · subst e; exact Or.inr c
    · exact Or.inl ⟨x, by omega, b, c⟩
theorem cy_N {ss ns : Nat → Int32} {S : Nat → Nat → Prop} {C : Int32} {an op : Prop} {T : Nat → Int32} (hZ : cp_Z S) (h : cy_R ss S) (hI : cy_I (cy_A C an op T) ss 256 ns) : cy_R ns (cp_N S C an op T) := by
  intro j hj
  rw [hI j hj]
  unfold cp_N cy_A
  constructor
  · rintro ⟨x, hx, hs, ⟨a, rfl, b⟩ | ⟨a, b⟩⟩
    · exact Or.inl ⟨a, (h j hx).mp hs, b⟩
    · have h0 := (h x hx).mp hs
      rw [a] at h0
      have h1 := hZ _ h0
      rw [h1] at h0
      rcases b with ⟨q, q1, q2, q3, rfl⟩ | ⟨c, rfl | ⟨q, q1, q2, q3, q4, rfl⟩⟩
      · have e1 : 17 * q / 16 = q := by omega
        have e2 : 17 * q % 16 = q := by omega
        rw [e1, e2]
        exact Or.inr ⟨rfl, h0, Or.inl ⟨by omega, Or.inl q3⟩⟩
      · exact Or.inr ⟨rfl, h0, Or.inr ⟨rfl, c⟩⟩
      · have e1 : 17 * q / 16 = q := by omega
        have e2 : 17 * q % 16 = q := by omega
        rw [e1, e2]
        exact Or.inr ⟨rfl, h0, Or.inl ⟨by omega, Or.inr ⟨c, q3, q4⟩⟩⟩
  · rintro (⟨a, b, c⟩ | ⟨a, b, c⟩)
    · exact ⟨j, hj, (h j hj).mpr b, Or.inl ⟨a, rfl, c⟩⟩
    · refine ⟨0, by omega, (h 0 (by omega)).mpr b, Or.inr ⟨rfl, ?_⟩⟩
      have hj17 : j = 17 * (j % 16) := by omega
      rcases c with ⟨c1, c2 | ⟨c2, c3, c4⟩⟩ | ⟨c1, c2⟩
      · exact Or.inl ⟨j % 16, by omega, by omega, c2, hj17⟩
      · exact Or.inr ⟨c2, Or.inr ⟨j % 16, by omega, by omega, c3, c4, hj17⟩⟩
      · exact Or.inr ⟨c2, Or.inl (by omega)⟩
def cy_B (p : Int32) (T : Nat → Int32) (x j : Nat) : Prop :=
  (¬ (x % 16 ≠ 0 ∧ ¬ T (x % 16) = 0) ∧ j = x) ∨ ((x % 16 ≠ 0 ∧ ¬ T (x % 16) = 0) ∧ 0 < p ∧ ∃ t, 1 ≤ t ∧ t < 16 ∧ bt (T (x % 16)) t = true ∧ j = 16 * (x / 16) + t)
theorem cy_S {ss ns : Nat → Int32} {N : Nat → Nat → Prop} {p : Int32} {T : Nat → Int32} (hT : ∀ v, cp_T (T v)) (h : cy_R ns N) (hI : cy_I (cy_B p T) ns 256 ss) : cy_R ss (cp_S N p T) := by
  intro j hj
  rw [hI j hj]
  unfold cp_S cy_B
  constructor
  · rintro ⟨x, hx, hs, ⟨a, rfl⟩ | ⟨⟨a, b⟩, c, t, t1, t2, t3, rfl⟩⟩
    · refine Or.inl ⟨(h j hx).mp hs, ?_⟩
      by_cases z : j % 16 = 0
      · exact Or.inl z
      · refine Or.inr (Classical.byContradiction fun hn => a ⟨z, hn⟩)
    · have e1 : (16 * (x / 16) + t) / 16 = x / 16 := by omega
      have e2 : (16 * (x / 16) + t) % 16 = t := by omega
      rw [e1, e2]
      exact Or.inr ⟨c, x % 16, by omega, a, (h x hx).mp hs, b, t3⟩
  · rintro (⟨a, b⟩ | ⟨a, v, v1, v2, v3, v4, v5⟩)
    · refine ⟨j, hj, (h j hj).mpr a, Or.inl ⟨?_, rfl⟩⟩
      rintro ⟨c, d⟩
      rcases b with b | b
      · exact c b
      · exact d b
    · have e1 : (16 * (j / 16) + v) / 16 = j / 16 := by omega
      have e2 : (16 * (j / 16) + v) % 16 = v := by omega
      have ht := hT v (j % 16) (by omega) v5
      refine ⟨16 * (j / 16) + v, by omega, (h _ (by omega)).mpr ?_, Or.inr ?_⟩
      · rw [e1, e2]; exact v3
      · rw [e1, e2]; exact ⟨⟨v2, v4⟩, a, j % 16, ht.1, ht.2, v5, by omega⟩
theorem cy_R0 {ss : Nat → Int32} (h0 : ¬ ss 0 = 0) (h : ∀ x, x < 256 → x ≠ 0 → ss x = 0) : cy_R ss cp_S0 := by
  intro x hx
  unfold cp_S0
  by_cases e : x = 0
  · subst e
    exact ⟨fun _ => ⟨rfl, rfl⟩, fun _ => h0⟩
  · constructor
    · intro z; exact absurd (h x hx e) z
    · rintro ⟨a, b⟩; omega
theorem cy_em {ns : Nat → Int32} {N : Nat → Nat → Prop} (h : cy_R ns N) : cp_em N ↔ ∀ x, x < 256 → ns x = 0 := by
  constructor
  · intro he x hx
    apply Classical.byContradiction
    intro hz
    exact he _ _ (by omega) (by omega) ((h x hx).mp hz)
  · intro hz d v hd hv hN
    have e1 : (16 * d + v) / 16 = d := by omega
    have e2 : (16 * d + v) % 16 = v := by omega
    refine (h (16 * d + v) (by omega)).mpr ?_ (hz _ (by omega))
    rw [e1, e2]
    exact hN
def cy_m (ns : Nat → Int32) (k : Nat) (m : Int32) : Prop := ∀ d, d < 32 → (bt m d = true ↔ ∃ x, x < k ∧ ¬ ns x = 0 ∧ x / 16 = d)
theorem cy_m0 {ns : Nat → Int32} : cy_m ns 0 0 := fun d _ => by rw [b_0]; simp
theorem cy_mz {ns : Nat → Int32} {k : Nat} {m : Int32} (h : cy_m ns k m) (hz : ns k = 0) : cy_m ns (k + 1) m := by
  intro d hd
  rw [h d hd]
  constructor
  · rintro ⟨x, a, b⟩; exact ⟨x, by omega, b⟩
  · rintro ⟨x, a, b, c⟩
    by_cases e : x = k
    · subst e; exact absurd hz b
    · exact ⟨x, by omega, b, c⟩
theorem cy_ms {ns : Nat → Int32} {k : Nat} {m : Int32} (hk : k < 256) (h : cy_m ns k m) (hz : ¬ ns k = 0) : cy_m ns (k + 1) (m ||| ((1 : Int32) <<< (nI (k / 16) &&& 31))) := by
  intro d hd
  rw [cx_or1 (by omega) hd, h d hd]
  constructor
  · rintro (⟨x, a, b⟩ | rfl)
    · exact ⟨x, by omega, b⟩
    · exact ⟨k, by omega, hz, rfl⟩
  · rintro ⟨x, a, b, c⟩
    by_cases e : x = k
    · subst e; exact Or.inr c.symm
    · exact Or.inl ⟨x, by omega, b, c⟩
theorem cy_mR {ns : Nat → Int32} {N : Nat → Nat → Prop} {m : Int32} (h : cy_m ns 256 m) (hN : cy_R ns N) : cp_R N m := by
  intro d hd
  rw [h d hd]
  constructor
  · rintro ⟨x, a, b, rfl⟩
    exact ⟨by omega, x % 16, by omega, (hN x a).mp b⟩
  · rintro ⟨a, v, hv, hb⟩
    have e1 : (16 * d + v) / 16 = d := by omega
    have e2 : (16 * d + v) % 16 = v := by omega
    refine ⟨16 * d + v, by omega, (hN _ (by omega)).mpr ?_, e1⟩
    rw [e1, e2]
    exact hb
