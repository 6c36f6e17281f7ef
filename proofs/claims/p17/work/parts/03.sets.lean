/-! X's masks: one int a policy -/
def cx_R (ex : Nat → Int32) (S : Nat → Nat → Prop) : Prop := ∀ d, d < 16 → ∀ v, v < 32 → (bt (ex d) v = true ↔ v < 16 ∧ S d v)
def cx_k (an : Prop) (C kept : Int32) : Prop := (an ∧ kept = 65535) ∨ (¬ an ∧ kept = C)
theorem cx_f1 {ex : Nat → Int32} {S : Nat → Nat → Prop} {an : Prop} {C kept : Int32} (h : cx_R ex S) (hk : cx_k an C kept) {d v : Nat} (hd : d < 16) (hv : v < 32) :
    bt ((ex d &&& kept) &&& (-2)) v = true ↔ v < 16 ∧ v ≠ 0 ∧ S d v ∧ (bt C v = true ∨ an) := by
  rw [b_and, b_and, cq_m2 v hv, Bool.and_eq_true, Bool.and_eq_true, h d hd v hv, decide_eq_true_eq]
  rcases hk with ⟨ha, rfl⟩ | ⟨ha, rfl⟩
  · rw [b_65535, decide_eq_true_eq]
    constructor
    · rintro ⟨⟨⟨a, b⟩, c⟩, d⟩; exact ⟨a, d, b, Or.inr ha⟩
    · rintro ⟨a, b, c, _⟩; exact ⟨⟨⟨a, c⟩, a⟩, b⟩
  · constructor
    · rintro ⟨⟨⟨a, b⟩, c⟩, d⟩; exact ⟨a, d, b, Or.inl c⟩
    · rintro ⟨a, b, c, d | d⟩
      · exact ⟨⟨⟨a, c⟩, d⟩, b⟩
      · exact absurd d ha
/-- what the pair (0, 0) adds at policy d -/
def cx_o (S : Nat → Nat → Prop) (C : Int32) (an op : Prop) (T : Nat → Int32) (d : Nat) : Prop :=
  S 0 0 ∧ ((d ≠ 0 ∧ (bt C d = true ∨ (an ∧ op ∧ ¬ T d = 0))) ∨ (d = 0 ∧ an))
def cx_u (no no' : Nat → Int32) (o : Nat → Prop) : Prop := ∀ d, d < 16 → ∀ v, v < 32 → (bt (no' d) v = true ↔ bt (no d) v = true ∨ (v = d ∧ o d))
theorem cx_N {ex no no' : Nat → Int32} {S : Nat → Nat → Prop} {an op : Prop} {C kept : Int32} {T : Nat → Int32} (h : cx_R ex S) (hk : cx_k an C kept)
    (h1 : ∀ d, d < 16 → no d = (ex d &&& kept) &&& (-2)) (h2 : cx_u no no' (cx_o S C an op T)) : cx_R no' (cp_N S C an op T) := by
  intro d hd v hv
  rw [h2 d hd v hv, h1 d hd, cx_f1 h hk hd hv]
  unfold cp_N cx_o
  constructor
  · rintro (⟨a, b, c⟩ | ⟨rfl, c, e⟩)
    · exact ⟨a, Or.inl ⟨b, c⟩⟩
    · exact ⟨by omega, Or.inr ⟨rfl, c, e⟩⟩
  · rintro ⟨a, ⟨b, c⟩ | ⟨rfl, c, e⟩⟩
    · exact Or.inl ⟨a, b, c⟩
    · exact Or.inr ⟨rfl, c, e⟩
theorem cx_or1 {x : Int32} {p v : Nat} (hp : p < 32) (hv : v < 32) : bt (x ||| ((1 : Int32) <<< (nI p &&& 31))) v = true ↔ bt x v = true ∨ v = p := by
  rw [b_or, Bool.or_eq_true, cq_one p hp v hv, decide_eq_true_eq]
theorem cx_or0 {x : Int32} {v : Nat} (hv : v < 32) : bt (x ||| 1) v = true ↔ bt x v = true ∨ v = 0 := by
  rw [b_or, Bool.or_eq_true, cq_1 v hv, decide_eq_true_eq]
/-- the mask of the first k policies that have a pair -/
def cx_m (no : Nat → Int32) (k : Nat) (m : Int32) : Prop := ∀ d, d < 32 → (bt m d = true ↔ d < k ∧ ¬ no d = 0)
theorem cx_m0 {no : Nat → Int32} : cx_m no 0 0 := fun d _ => by rw [b_0]; simp
theorem cx_ms {no : Nat → Int32} {k : Nat} {m : Int32} (hk : k < 32) (h : cx_m no k m) (hz : ¬ no k = 0) : cx_m no (k + 1) (m ||| ((1 : Int32) <<< (nI k &&& 31))) := by
  intro d hd
  rw [cx_or1 hk hd, h d hd]
  constructor
  · rintro (⟨a, b⟩ | rfl)
    · exact ⟨by omega, b⟩
    · exact ⟨by omega, hz⟩
  · rintro ⟨a, b⟩
    by_cases e : d = k
    · exact Or.inr e
    · exact Or.inl ⟨by omega, b⟩
theorem cx_mz {no : Nat → Int32} {k : Nat} {m : Int32} (h : cx_m no k m) (hz : no k = 0) : cx_m no (k + 1) m := by
  intro d hd
  rw [h d hd]
  constructor
  · rintro ⟨a, b⟩; exact ⟨by omega, b⟩
  · rintro ⟨a, b⟩
    by_cases e : d = k
    · subst e; exact absurd hz b
    · exact ⟨by omega, b⟩
theorem cx_mR {no : Nat → Int32} {N : Nat → Nat → Prop} {m : Int32} (h : cx_m no 16 m) (hN : cx_R no N) : cp_R N m := by
  intro d hd
  rw [h d hd]
  constructor
  · rintro ⟨a, b⟩
    obtain ⟨v, hv, hb⟩ := cq_nz.mp b
    obtain ⟨c, e⟩ := (hN d a v hv).mp hb
    exact ⟨a, v, c, e⟩
  · rintro ⟨a, v, hv, hb⟩
    exact ⟨a, cq_nz.mpr ⟨v, by omega, (hN d a v (by omega)).mpr ⟨hv, hb⟩⟩⟩
/-- the mapped mask of one policy, by the first k labels -/
def cx_t (p : Int32) (T : Nat → Int32) (held : Int32) (k : Nat) (r : Int32) : Prop :=
  ∀ t, t < 32 → (bt r t = true ↔ (t = 0 ∧ bt held 0 = true) ∨ ∃ v, v < k ∧ v ≠ 0 ∧ bt held v = true ∧ ((T v = 0 ∧ t = v) ∨ (¬ T v = 0 ∧ 0 < p ∧ bt (T v) t = true)))
theorem cx_t1 {p : Int32} {T : Nat → Int32} {held : Int32} : cx_t p T held 1 (held &&& 1) := by
  intro t ht
  rw [b_and, cq_1 t ht, Bool.and_eq_true, decide_eq_true_eq]
  constructor
  · rintro ⟨a, rfl⟩; exact Or.inl ⟨rfl, a⟩
  · rintro (⟨rfl, a⟩ | ⟨v, a, b, _⟩)
    · exact ⟨a, rfl⟩
    · omega
theorem cx_tn {p : Int32} {T : Nat → Int32} {held r : Int32} {k : Nat} (h : cx_t p T held k r) (hn : bt held k = true → ¬ T k = 0 ∧ ¬ 0 < p) : cx_t p T held (k + 1) r := by
  intro t ht
  rw [h t ht]
  constructor
  · rintro (a | ⟨v, a, b⟩)
    · exact Or.inl a
    · exact Or.inr ⟨v, by omega, b⟩
  · rintro (a | ⟨v, a, b, c, d⟩)
    · exact Or.inl a
    · by_cases e : v = k
      · subst e
        obtain ⟨h1, h2⟩ := hn c
        rcases d with d | d
        · exact absurd d.1 h1
        · exact absurd d.2.1 h2
      · exact Or.inr ⟨v, by omega, b, c, d⟩
theorem cx_tv {p : Int32} {T : Nat → Int32} {held r : Int32} {k : Nat} (hk : k < 32) (h0 : k ≠ 0) (h : cx_t p T held k r) (hb : bt held k = true) (hT : T k = 0) : cx_t p T held (k + 1) (r ||| ((1 : Int32) <<< (nI k &&& 31))) := by
  intro t ht
  rw [cx_or1 hk ht, h t ht]
  constructor
  · rintro ((a | ⟨v, a, b⟩) | rfl)
    · exact Or.inl a
    · exact Or.inr ⟨v, by omega, b⟩
    · exact Or.inr ⟨t, by omega, h0, hb, Or.inl ⟨hT, rfl⟩⟩
  · rintro (a | ⟨v, a, b, c, d⟩)
    · exact Or.inl (Or.inl a)
    · by_cases e : v = k
      · subst e
        rcases d with d | d
        · exact Or.inr d.2
        · exact absurd hT d.1
      · exact Or.inl (Or.inr ⟨v, by omega, b, c, d⟩)
theorem cx_tt {p : Int32} {T : Nat → Int32} {held r : Int32} {k : Nat} (h0 : k ≠ 0) (h : cx_t p T held k r) (hb : bt held k = true) (hT : ¬ T k = 0) (hp : 0 < p) : cx_t p T held (k + 1) (r ||| T k) := by
  intro t ht
  rw [b_or, Bool.or_eq_true, h t ht]
  constructor
  · rintro ((a | ⟨v, a, b⟩) | a)
    · exact Or.inl a
    · exact Or.inr ⟨v, by omega, b⟩
    · exact Or.inr ⟨k, by omega, h0, hb, Or.inr ⟨hT, hp, a⟩⟩
  · rintro (a | ⟨v, a, b, c, d⟩)
    · exact Or.inl (Or.inl a)
    · by_cases e : v = k
      · subst e
        rcases d with d | d
        · exact absurd d.1 hT
        · exact Or.inr d.2.2
      · exact Or.inl (Or.inr ⟨v, by omega, b, c, d⟩)
/-- a mapping's targets: labels 1 to 15 -/
def cp_T (x : Int32) : Prop := ∀ t, t < 32 → bt x t = true → 1 ≤ t ∧ t < 16
theorem cp_T0 {x : Int32} (h : cp_T x) : bt x 0 = false := by
  cases hb : bt x 0 with
  | false => rfl
  | true => have := h 0 (by omega) hb; omega
theorem cx_S {no ex : Nat → Int32} {N : Nat → Nat → Prop} {p : Int32} {T : Nat → Int32} (hT : ∀ v, cp_T (T v)) (h : cx_R no N) (h1 : ∀ d, d < 16 → cx_t p T (no d) 16 (ex d)) : cx_R ex (cp_S N p T) := by
  intro d hd t ht
  rw [h1 d hd t ht]
  unfold cp_S
  constructor
  · rintro (⟨rfl, a⟩ | ⟨v, a, b, c, ⟨e, rfl⟩ | ⟨e, f, g⟩⟩)
    · exact ⟨by omega, Or.inl ⟨((h d hd 0 (by omega)).mp a).2, Or.inl rfl⟩⟩
    · exact ⟨a, Or.inl ⟨((h d hd t ht).mp c).2, Or.inr e⟩⟩
    · exact ⟨(hT v t ht g).2, Or.inr ⟨f, v, a, b, ((h d hd v (by omega)).mp c).2, e, g⟩⟩
  · rintro ⟨a, ⟨b, c⟩ | ⟨f, v, a', b, c, e, g⟩⟩
    · by_cases z : t = 0
      · subst z; exact Or.inl ⟨rfl, (h d hd 0 (by omega)).mpr ⟨a, b⟩⟩
      · rcases c with c | c
        · exact absurd c z
        · exact Or.inr ⟨t, a, z, (h d hd t ht).mpr ⟨a, b⟩, Or.inl ⟨c, rfl⟩⟩
    · exact Or.inr ⟨v, a', b, (h d hd v (by omega)).mpr ⟨a', c⟩, Or.inr ⟨e, f, g⟩⟩
theorem cx_R0 {ex : Nat → Int32} (h0 : ex 0 = 1) (h : ∀ d, d < 16 → d ≠ 0 → ex d = 0) : cx_R ex cp_S0 := by
  intro d hd v hv
  unfold cp_S0
  by_cases e : d = 0
  · subst e
    rw [h0, cq_1 v hv, decide_eq_true_eq]
    omega
  · rw [h d hd e, b_0]
    simp [e]

