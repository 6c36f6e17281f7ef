/-! small whole numbers as ints -/
def iI (z : Int) : Int32 := Int32.ofInt z
theorem iI_ti {z : Int} (h1 : -1000 ≤ z) (h2 : z ≤ 1000) : (iI z).toInt = z := Int32.toInt_ofInt_of_le (by omega) (by omega)
theorem iI_le {a b : Int} (a1 : -1000 ≤ a) (a2 : a ≤ 1000) (b1 : -1000 ≤ b) (b2 : b ≤ 1000) : iI a ≤ iI b ↔ a ≤ b := by
  rw [Int32.le_iff_toInt_le, iI_ti a1 a2, iI_ti b1 b2]
theorem iI_lt {a b : Int} (a1 : -1000 ≤ a) (a2 : a ≤ 1000) (b1 : -1000 ≤ b) (b2 : b ≤ 1000) : iI a < iI b ↔ a < b := by
  rw [Int32.lt_iff_toInt_lt, iI_ti a1 a2, iI_ti b1 b2]
theorem iI_eq {a b : Int} (a1 : -1000 ≤ a) (a2 : a ≤ 1000) (b1 : -1000 ≤ b) (b2 : b ≤ 1000) : iI a = iI b ↔ a = b := by
  constructor
  · intro h
    have := congrArg Int32.toInt h
    rw [iI_ti a1 a2, iI_ti b1 b2] at this
    exact this
  · intro h; rw [h]
theorem iI_sub {a b : Int} (a1 : -400 ≤ a) (a2 : a ≤ 400) (b1 : -400 ≤ b) (b2 : b ≤ 400) : iI a - iI b = iI (a - b) := by
  apply Int32.toInt_inj.mp
  rw [Int32.toInt_sub, iI_ti (by omega) (by omega), iI_ti (by omega) (by omega), iI_ti (by omega) (by omega)]
  exact Int.bmod_eq_of_le (by omega) (by omega)
theorem iI_n (n : Nat) (h : n ≤ 1000) : nI n = iI n := by
  apply Int32.toInt_inj.mp
  rw [nI_toInt (by omega), iI_ti (by omega) (by omega)]
theorem iI_of (x : Int32) : x = iI x.toInt := Int32.toInt_inj.mp (by
  show _ = (Int32.ofInt x.toInt).toInt
  rw [Int32.ofInt_toInt])
theorem iI_0 : (0 : Int32) = iI 0 := by decide
/-! how many certificates of [a, i) are not self-issued -/
def cw_v (pa : Nat → Int32) (m : Nat) : Nat := if pa (12 * m) = pa (12 * m + 1) then 0 else 1
def cw_c (pa : Nat → Int32) (a : Nat) : Nat → Nat
  | 0 => 0
  | i + 1 => cw_c pa a i + (if a ≤ i then cw_v pa i else 0)
theorem cw_v1 (pa : Nat → Int32) (m : Nat) : cw_v pa m ≤ 1 := by unfold cw_v; split <;> omega
theorem cw_cs {pa : Nat → Int32} {a i : Nat} (h : a ≤ i) : cw_c pa a (i + 1) = cw_c pa a i + cw_v pa i := by
  show cw_c pa a i + (if a ≤ i then cw_v pa i else 0) = _
  rw [if_pos h]
theorem cw_c0 {pa : Nat → Int32} {a : Nat} : ∀ i, i ≤ a → cw_c pa a i = 0 := by
  intro i
  induction i with
  | zero => intro _; rfl
  | succ i ih =>
    intro h
    show cw_c pa a i + (if a ≤ i then cw_v pa i else 0) = 0
    rw [ih (by omega), if_neg (by omega)]
theorem cw_cl {pa : Nat → Int32} {a : Nat} : ∀ i, cw_c pa a i ≤ i := by
  intro i
  induction i with
  | zero => exact Nat.le_refl 0
  | succ i ih =>
    show cw_c pa a i + (if a ≤ i then cw_v pa i else 0) ≤ i + 1
    have := cw_v1 pa i
    split <;> omega
theorem cw_ch {pa : Nat → Int32} {a : Nat} : ∀ i, a < i → cw_c pa a i = cw_v pa a + cw_c pa (a + 1) i := by
  intro i
  induction i with
  | zero => intro h; omega
  | succ i ih =>
    intro h
    rw [cw_cs (by omega)]
    by_cases e : a = i
    · subst e
      rw [cw_c0 a (Nat.le_refl a), cw_c0 (a + 1) (Nat.le_refl _)]
      omega
    · rw [ih (by omega), cw_cs (by omega)]
      omega
/-! a counter of the walk, and the law's reckoning of it -/
def cw_e (pa : Nat → Int32) (e0 : Int32) (f : Nat) : Nat → Int32
  | 0 => e0
  | i + 1 => cp_nx (pa (12 * i)) (pa (12 * i + 1)) (cw_e pa e0 f i) (pa (12 * i + f))
def cw_g (l : Nat → Int) (c : Nat → Nat → Nat) (e0 : Int) (i : Nat) : Nat → Int
  | 0 => e0 - c 0 i
  | k + 1 => if 0 ≤ l k ∧ l k - c (k + 1) i < cw_g l c e0 i k then l k - c (k + 1) i else cw_g l c e0 i k
theorem cw_gs {l : Nat → Int} {c : Nat → Nat → Nat} {v : Nat → Nat} {e0 : Int} {i : Nat} (hc : ∀ a, a ≤ i → c a (i + 1) = c a i + v i) : ∀ k, k ≤ i → cw_g l c e0 (i + 1) k = cw_g l c e0 i k - v i := by
  intro k
  induction k with
  | zero =>
    intro _
    show e0 - (c 0 (i + 1) : Int) = e0 - (c 0 i : Int) - v i
    rw [hc 0 (by omega)]
    omega
  | succ k ih =>
    intro hk
    have h1 := ih (by omega)
    have h2 := hc (k + 1) (by omega)
    show (if 0 ≤ l k ∧ l k - (c (k + 1) (i + 1) : Int) < cw_g l c e0 (i + 1) k then l k - (c (k + 1) (i + 1) : Int) else cw_g l c e0 (i + 1) k) = (if 0 ≤ l k ∧ l k - (c (k + 1) i : Int) < cw_g l c e0 i k then l k - (c (k + 1) i : Int) else cw_g l c e0 i k) - v i
    rw [h1, h2]
    split <;> split <;> omega
theorem cw_gb {l : Nat → Int} {c : Nat → Nat → Nat} {e0 : Int} {i : Nat} (h0 : 0 ≤ e0 ∧ e0 ≤ 9) (hc : ∀ a, c a i ≤ 8) : ∀ k, -8 ≤ cw_g l c e0 i k ∧ cw_g l c e0 i k ≤ 9 := by
  intro k
  induction k with
  | zero =>
    show -8 ≤ e0 - (c 0 i : Int) ∧ e0 - (c 0 i : Int) ≤ 9
    have := hc 0
    omega
  | succ k ih =>
    show -8 ≤ (if 0 ≤ l k ∧ l k - (c (k + 1) i : Int) < cw_g l c e0 i k then l k - (c (k + 1) i : Int) else cw_g l c e0 i k) ∧ (if 0 ≤ l k ∧ l k - (c (k + 1) i : Int) < cw_g l c e0 i k then l k - (c (k + 1) i : Int) else cw_g l c e0 i k) ≤ 9
    have := hc (k + 1)
    split <;> omega
def cw_m (z : Int) : Int := if 0 ≤ z then z else 0
/-- the limits are small -/
def cw_L (pa : Nat → Int32) : Prop := ∀ c f, f = 5 ∨ f = 7 ∨ f = 8 ∨ f = 9 → -1 ≤ (pa (12 * c + f)).toInt ∧ (pa (12 * c + f)).toInt ≤ 15
theorem cw_step {G L : Int} {v : Nat} {is su : Int32} (hv : v = if is = su then 0 else 1) (g1 : -8 ≤ G) (g2 : G ≤ 9) (l1 : -1 ≤ L) (l2 : L ≤ 15) :
    cp_nx is su (iI (cw_m G)) (iI L) = iI (cw_m (if 0 ≤ L ∧ L < G - v then L else G - v)) := by
  have m1 : 0 ≤ cw_m G ∧ cw_m G ≤ 9 := by unfold cw_m; split <;> omega
  have e1 : (if 0 < iI (cw_m G) ∧ ¬ is = su then iI (cw_m G) - 1 else iI (cw_m G)) = iI (cw_m (G - v)) := by
    by_cases h : is = su
    · rw [if_neg (fun q => q.2 h), hv, if_pos h]
      simp
    · rw [hv, if_neg h]
      have z : (0 : Int32) < iI (cw_m G) ↔ 0 < cw_m G := by rw [iI_0, iI_lt (by omega) (by omega) (by omega) (by omega)]
      by_cases hp : 0 < cw_m G
      · rw [if_pos ⟨z.mpr hp, h⟩]
        have o : (1 : Int32) = iI 1 := by decide
        rw [o, iI_sub (by omega) (by omega) (by omega) (by omega)]
        apply congrArg iI
        unfold cw_m at hp ⊢
        split at hp
        · rw [if_pos (by omega), if_pos (by omega)]; rfl
        · omega
      · rw [if_neg (fun q => hp (z.mp q.1))]
        apply congrArg iI
        unfold cw_m at hp ⊢
        split at hp
        · rw [if_pos (by omega)]
          split <;> omega
        · rw [if_neg (by omega)]
          split <;> omega
  have m2 : 0 ≤ cw_m (G - v) ∧ cw_m (G - v) ≤ 9 := by unfold cw_m; split <;> omega
  unfold cp_nx
  rw [e1]
  have a1 : (0 : Int32) ≤ iI L ↔ 0 ≤ L := by rw [iI_0, iI_le (by omega) (by omega) (by omega) (by omega)]
  have a2 : iI L < iI (cw_m (G - v)) ↔ L < cw_m (G - v) := iI_lt (by omega) (by omega) (by omega) (by omega)
  by_cases h : 0 ≤ L ∧ L < G - v
  · have h' : 0 ≤ L ∧ L < cw_m (G - v) := ⟨h.1, by unfold cw_m; rw [if_pos (by omega)]; exact h.2⟩
    rw [if_pos ⟨a1.mpr h'.1, a2.mpr h'.2⟩, if_pos h]
    apply congrArg iI
    unfold cw_m
    rw [if_pos h.1]
  · have h' : ¬ (0 ≤ L ∧ L < cw_m (G - v)) := by
      rintro ⟨q1, q2⟩
      unfold cw_m at q2
      split at q2
      · exact h ⟨q1, q2⟩
      · omega
    rw [if_neg (fun q => h' ⟨a1.mp q.1, a2.mp q.2⟩), if_neg h]
theorem cw_eg {pa : Nat → Int32} (hL : cw_L pa) {e0 : Int} (h0 : 0 ≤ e0 ∧ e0 ≤ 9) {f : Nat} (hf : f = 5 ∨ f = 7 ∨ f = 8 ∨ f = 9) : ∀ i, i ≤ 8 →
    cw_e pa (iI e0) f i = iI (cw_m (cw_g (fun k => (pa (12 * k + f)).toInt) (cw_c pa) e0 i i)) := by
  intro i
  induction i with
  | zero =>
    intro _
    show iI e0 = iI (cw_m (e0 - (cw_c pa 0 0 : Int)))
    rw [cw_c0 0 (Nat.le_refl 0)]
    apply congrArg iI
    unfold cw_m
    rw [if_pos (by omega)]
    omega
  | succ i ih =>
    intro hi
    have hb := cw_gb (l := fun k => (pa (12 * k + f)).toInt) (c := cw_c pa) (i := i) h0 (fun a => Nat.le_trans (cw_cl i) (by omega)) i
    have hs := cw_gs (l := fun k => (pa (12 * k + f)).toInt) (c := cw_c pa) (v := cw_v pa) (e0 := e0) (i := i) (fun a ha => cw_cs ha) i (Nat.le_refl i)
    have hl := hL i f hf
    show cp_nx (pa (12 * i)) (pa (12 * i + 1)) (cw_e pa (iI e0) f i) (pa (12 * i + f)) = iI (cw_m (if 0 ≤ (pa (12 * i + f)).toInt ∧ (pa (12 * i + f)).toInt - (cw_c pa (i + 1) (i + 1) : Int) < cw_g (fun k => (pa (12 * k + f)).toInt) (cw_c pa) e0 (i + 1) i then (pa (12 * i + f)).toInt - (cw_c pa (i + 1) (i + 1) : Int) else cw_g (fun k => (pa (12 * k + f)).toInt) (cw_c pa) e0 (i + 1) i))
    rw [ih (by omega), hs, cw_c0 (i + 1) (Nat.le_refl _)]
    have key := cw_step (G := cw_g (fun k => (pa (12 * k + f)).toInt) (cw_c pa) e0 i i) (L := (pa (12 * i + f)).toInt) (v := cw_v pa i) (is := pa (12 * i)) (su := pa (12 * i + 1)) rfl hb.1 hb.2 hl.1 hl.2
    rw [← iI_of] at key
    rw [key]
    simp
/-! the path length -/
theorem cw_len {pa : Nat → Int32} (hL : cw_L pa) {n : Nat} (hn : n ≤ 8) (h1 : 1 ≤ n) :
    (∀ j, j + 1 < n → ¬ (¬ cp_self pa j ∧ cw_e pa (nI n) 5 j = 0)) ↔ (∀ j, j + 1 < n → 0 ≤ (pa (12 * j + 5)).toInt → (cw_c pa (j + 1) (n - 1) : Int) ≤ (pa (12 * j + 5)).toInt) := by
  have hM : ∀ i, i ≤ 8 → ∃ M : Int, 0 ≤ M ∧ M ≤ 9 ∧ cw_e pa (nI n) 5 i = iI M := by
    intro i hi
    rw [iI_n n (by omega), cw_eg hL (by omega) (Or.inl rfl) i hi]
    have hb := cw_gb (l := fun k => (pa (12 * k + 5)).toInt) (c := cw_c pa) (e0 := (n : Int)) (i := i) (by omega) (fun a => Nat.le_trans (cw_cl i) (by omega)) i
    refine ⟨_, ?_, ?_, rfl⟩ <;> (unfold cw_m; split <;> omega)
  have hS : ∀ i, i + 1 ≤ 8 → ∀ M M' : Int, 0 ≤ M → M ≤ 9 → 0 ≤ M' → M' ≤ 9 → cw_e pa (nI n) 5 i = iI M → cw_e pa (nI n) 5 (i + 1) = iI M' → M' = cw_m (if 0 ≤ (pa (12 * i + 5)).toInt ∧ (pa (12 * i + 5)).toInt < M - cw_v pa i then (pa (12 * i + 5)).toInt else M - cw_v pa i) := by
    intro i hi M M' a1 a2 b1 b2 e1 e2
    have hl := hL i 5 (Or.inl rfl)
    have hv := cw_v1 pa i
    have key := cw_step (G := M) (L := (pa (12 * i + 5)).toInt) (v := cw_v pa i) (is := pa (12 * i)) (su := pa (12 * i + 1)) rfl (by omega) a2 hl.1 hl.2
    rw [← iI_of] at key
    have em : cw_m M = M := if_pos a1
    rw [em, ← e1] at key
    have k2 : iI M' = _ := e2.symm.trans key
    refine (iI_eq (by omega) (by omega) ?_ ?_).mp k2 <;> (unfold cw_m; split <;> (try split) <;> omega)
  have ns : ∀ j, ¬ cp_self pa j → cw_v pa j = 1 := fun j h => if_neg h
  have ss : ∀ j, cp_self pa j → cw_v pa j = 0 := fun j h => if_pos h
  constructor
  · intro H
    have inv : ∀ i, i + 1 ≤ n → ∀ k, k < i → 0 ≤ (pa (12 * k + 5)).toInt → ∀ M, 0 ≤ M → M ≤ 9 → cw_e pa (nI n) 5 i = iI M → M + (cw_c pa (k + 1) i : Int) ≤ (pa (12 * k + 5)).toInt := by
      intro i
      induction i with
      | zero => intro _ k hk; omega
      | succ i ih =>
        intro hi k hk hp M' b1 b2 e2
        obtain ⟨M, a1, a2, e1⟩ := hM i (by omega)
        have hs := hS i (by omega) M M' a1 a2 b1 b2 e1 e2
        have hv := cw_v1 pa i
        have hpos : cw_v pa i = 1 → 0 < M := by
          intro hv1
          have hns : ¬ cp_self pa i := fun q => by rw [ss i q] at hv1; omega
          have := H i (by omega)
          rw [e1, iI_0] at this
          have : ¬ M = 0 := fun q => this ⟨hns, by rw [q]⟩
          omega
        by_cases ek : k = i
        · subst ek
          rw [cw_c0 (k + 1) (Nat.le_refl _)]
          rw [hs]
          unfold cw_m
          split <;> split at * <;> omega
        · have hk' := ih (by omega) k (by omega) hp M a1 a2 e1
          rw [cw_cs (by omega), hs]
          unfold cw_m
          split <;> split at * <;> omega
    intro j hj hp
    obtain ⟨M, a1, a2, e1⟩ := hM (n - 1) (by omega)
    have := inv (n - 1) (by omega) j (by omega) hp M a1 a2 e1
    omega
  · intro H
    have inv : ∀ i, i + 1 ≤ n → ∀ M, 0 ≤ M → M ≤ 9 → cw_e pa (nI n) 5 i = iI M → (cw_c pa i (n - 1) : Int) ≤ M := by
      intro i
      induction i with
      | zero =>
        intro _ M a1 a2 e1
        have e1' : iI (n : Int) = iI M := by rw [← iI_n n (by omega)]; exact e1
        have : (n : Int) = M := (iI_eq (by omega) (by omega) (by omega) (by omega)).mp e1'
        have := cw_cl (pa := pa) (a := 0) (n - 1)
        omega
      | succ i ih =>
        intro hi M' b1 b2 e2
        obtain ⟨M, a1, a2, e1⟩ := hM i (by omega)
        have hs := hS i (by omega) M M' a1 a2 b1 b2 e1 e2
        have h2 := ih (by omega) M a1 a2 e1
        rw [cw_ch (n - 1) (by omega)] at h2
        have h3 := H i (by omega)
        rw [hs]
        unfold cw_m
        split <;> split at * <;> omega
    intro j hj
    rintro ⟨q1, q2⟩
    obtain ⟨M, a1, a2, e1⟩ := hM j (by omega)
    have h2 := inv j (by omega) M a1 a2 e1
    rw [cw_ch (n - 1) (by omega), ns j q1] at h2
    rw [e1, iI_0] at q2
    have := (iI_eq (by omega) (by omega) (by omega) (by omega)).mp q2
    omega
