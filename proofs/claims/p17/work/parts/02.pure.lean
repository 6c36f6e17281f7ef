/-! bits of an int -/
theorem cq_1 : ∀ i, i < 32 → bt 1 i = decide (i = 0) := by decide +kernel
theorem cq_m2 : ∀ i, i < 32 → bt (-2) i = decide (i ≠ 0) := by decide +kernel
theorem cq_one : ∀ p, p < 32 → ∀ i, i < 32 → bt ((1 : Int32) <<< (nI p &&& 31)) i = decide (i = p) := by decide +kernel
theorem cq_z {x : Int32} : x = 0 ↔ ∀ i, i < 32 → bt x i = false :=
  ⟨fun h i _ => by rw [h]; exact b_0 i, fun h => b_ext (fun i hi => (h i hi).trans (b_0 i).symm)⟩
theorem cq_nz {x : Int32} : ¬ x = 0 ↔ ∃ i, i < 32 ∧ bt x i = true := by
  constructor
  · intro h
    apply Classical.byContradiction
    intro hn
    refine h (cq_z.mpr fun i hi => ?_)
    cases hb : bt x i with
    | false => rfl
    | true => exact absurd ⟨i, hi, hb⟩ hn
  · rintro ⟨i, hi, hb⟩ h
    rw [h, b_0] at hb
    exact absurd hb (by decide)
theorem cq_bx (x : Int32) {p : Nat} (hp : p < 32) : x &&& ((1 : Int32) <<< (nI p &&& 31)) = 0 ↔ bt x p = false := by
  rw [cq_z]
  constructor
  · intro h
    have := h p hp
    rw [b_and, cq_one p hp p hp] at this
    simpa using this
  · intro h i hi
    rw [b_and, cq_one p hp i hi]
    by_cases e : i = p
    · subst e; simp [h]
    · simp [e]
theorem cq_by (x : Int32) {p : Nat} (hp : p < 32) : (x >>> (nI p &&& 31)) &&& 1 = 0 ↔ bt x p = false := by
  rw [cq_z]
  constructor
  · intro h
    have := h 0 (by omega)
    rw [b_and, b_sshr p hp x (by omega), if_pos (by omega), cq_1 0 (by omega)] at this
    simpa using this
  · intro h i hi
    rw [b_and, cq_1 i hi]
    by_cases e : i = 0
    · subst e
      rw [b_sshr p hp x (by omega), if_pos (by omega)]
      simp [h]
    · simp [e]
theorem cq_b0 (x : Int32) : x &&& 1 = 0 ↔ bt x 0 = false := by
  rw [cq_z]
  constructor
  · intro h
    have := h 0 (by omega)
    rw [b_and, cq_1 0 (by omega)] at this
    simpa using this
  · intro h i hi
    rw [b_and, cq_1 i hi]
    by_cases e : i = 0
    · subst e; simp [h]
    · simp [e]
theorem cq_nf {b : Bool} : ¬ b = false ↔ b = true := by cases b <;> decide
theorem cq_mk (P : Nat → Prop) : ∀ k, k ≤ 32 → ∃ R : Int32, ∀ d, d < 32 → (bt R d = true ↔ d < k ∧ P d) := by
  intro k
  induction k with
  | zero => intro _; exact ⟨0, fun d _ => by rw [b_0]; simp⟩
  | succ k ih =>
    intro hk
    obtain ⟨R, hR⟩ := ih (by omega)
    by_cases h : P k
    · refine ⟨R ||| ((1 : Int32) <<< (nI k &&& 31)), fun d hd => ?_⟩
      rw [b_or, cq_one k (by omega) d hd, Bool.or_eq_true, hR d hd, decide_eq_true_eq]
      constructor
      · rintro (⟨a, b⟩ | rfl)
        · exact ⟨by omega, b⟩
        · exact ⟨by omega, h⟩
      · rintro ⟨a, b⟩
        by_cases e : d = k
        · exact Or.inr e
        · exact Or.inl ⟨by omega, b⟩
    · refine ⟨R, fun d hd => ?_⟩
      rw [hR d hd]
      constructor
      · rintro ⟨a, b⟩
        exact ⟨by omega, b⟩
      · rintro ⟨a, b⟩
        refine ⟨?_, b⟩
        by_cases e : d = k
        · subst e; exact absurd b h
        · omega

/-! names -/
def cp_g (x : Int32) (k : Nat) : Int32 := (x >>> (nI (4 * k) &&& 31)) &&& 15
def cp_nm (x : Int32) : Prop := (0 ≤ x ∧ x ≤ 65535) ∧ ∀ k, k < 3 → ¬ cp_g x (k + 1) = 0 → ¬ cp_g x k = 0
def cp_lie (x s : Int32) : Prop := ∀ k, k < 4 → ¬ cp_g s k = 0 → cp_g s k = cp_g x k
def cp_c (x : Int32) (k : Nat) : Nat := if cp_g x k = 0 then 0 else 1
def cp_l (x : Int32) : Nat := cp_c x 0 + cp_c x 1 + cp_c x 2 + cp_c x 3
theorem cp_nm0 : cp_nm 0 := by
  refine ⟨by decide, ?_⟩
  decide +kernel
theorem cp_lk {x : Int32} (h : cp_nm x) : ∀ k, k < 4 → (¬ cp_g x k = 0 ↔ k < cp_l x) := by
  have h0 := h.2 0 (by omega)
  have h1 := h.2 1 (by omega)
  have h2 := h.2 2 (by omega)
  intro k hk
  unfold cp_l cp_c
  have hc : k = 0 ∨ k = 1 ∨ k = 2 ∨ k = 3 := by omega
  rcases hc with rfl | rfl | rfl | rfl <;> by_cases a0 : cp_g x 0 = 0 <;> by_cases a1 : cp_g x 1 = 0 <;> by_cases a2 : cp_g x 2 = 0 <;> by_cases a3 : cp_g x 3 = 0 <;> simp_all
theorem cp_l4 (x : Int32) : cp_l x ≤ 4 := by
  unfold cp_l cp_c
  split <;> split <;> split <;> split <;> omega
theorem cp_lieY {x s : Int32} (hx : cp_nm x) (hs : cp_nm s) : cp_lie x s ↔ cp_l s ≤ cp_l x ∧ ∀ k, k < cp_l s → cp_g x k = cp_g s k := by
  have l4 := cp_l4 s
  constructor
  · intro h
    refine ⟨?_, fun k hk => (h k (by omega) ((cp_lk hs k (by omega)).mpr hk)).symm⟩
    apply Classical.byContradiction
    intro hn
    have hk : cp_l x < cp_l s := by omega
    have h1 := (cp_lk hs (cp_l x) (by omega)).mpr hk
    have h2 := h _ (by omega) h1
    have h3 := mt (cp_lk hx (cp_l x) (by omega)).mp (by omega)
    rw [h2] at h1
    exact h3 h1
  · rintro ⟨_, h⟩ k hk hg
    exact (h k ((cp_lk hs k hk).mp hg)).symm

/-! the picture of a walk -/
def cp_self (pa : Nat → Int32) (i : Nat) : Prop := pa (12 * i) = pa (12 * i + 1)
def cp_want (pa : Nat → Int32) (anc : Int32) (i : Nat) : Int32 := if i = 0 then anc else pa (12 * (i - 1) + 1)
def cp_ex (pa : Nat → Int32) (n i : Nat) : Prop := cp_self pa i ∧ i + 1 ≠ n
def cp_any (pa su : Nat → Int32) (x : Int32) (j kd : Nat) : Prop := ∃ k, k < 4 ∧ nI k < pa (12 * j + (10 + kd)) ∧ cp_lie x (su (8 * j + 4 * kd + k))
def cp_bad (pa su : Nat → Int32) (i : Nat) : Prop := ∃ j, j < i ∧ ((0 < pa (12 * j + 10) ∧ ¬ cp_any pa su (pa (12 * i + 1)) j 0) ∨ cp_any pa su (pa (12 * i + 1)) j 1)
def cp_an (pa : Nat → Int32) (n : Nat) (a : Int32) (i : Nat) : Prop := bt (pa (12 * i + 6)) 0 = true ∧ (0 < a ∨ cp_ex pa n i)
def cp_op (n : Nat) (p : Int32) (i : Nat) : Prop := i + 1 ≠ n ∧ 0 < p
def cp_N (S : Nat → Nat → Prop) (C : Int32) (an op : Prop) (T : Nat → Int32) (d v : Nat) : Prop :=
  (v ≠ 0 ∧ S d v ∧ (bt C v = true ∨ an)) ∨ (d = v ∧ S 0 0 ∧ ((v ≠ 0 ∧ (bt C v = true ∨ (an ∧ op ∧ ¬ T v = 0))) ∨ (v = 0 ∧ an)))
def cp_S (N : Nat → Nat → Prop) (p : Int32) (T : Nat → Int32) (d t : Nat) : Prop :=
  (N d t ∧ (t = 0 ∨ T t = 0)) ∨ (0 < p ∧ ∃ v, v < 16 ∧ v ≠ 0 ∧ N d v ∧ ¬ T v = 0 ∧ bt (T v) t = true)
def cp_em (N : Nat → Nat → Prop) : Prop := ∀ d v, d < 16 → v < 16 → ¬ N d v
def cp_R (N : Nat → Nat → Prop) (R : Int32) : Prop := ∀ d, d < 32 → (bt R d = true ↔ d < 16 ∧ ∃ v, v < 16 ∧ N d v)
def cp_F (up R : Int32) : Int32 := if up &&& 1 = 0 then (R &&& up) ||| (if R &&& 1 = 0 then 0 else up) else R
def cp_nx (is su c lim : Int32) : Int32 :=
  if 0 ≤ lim ∧ lim < (if 0 < c ∧ ¬ is = su then c - 1 else c) then lim else (if 0 < c ∧ ¬ is = su then c - 1 else c)
def cp_NN (pa mp : Nat → Int32) (n : Nat) (i : Nat) (p a : Int32) (S : Nat → Nat → Prop) : Nat → Nat → Prop :=
  cp_N S (pa (12 * i + 6)) (cp_an pa n a i) (cp_op n p i) (fun v => mp (16 * i + v))
def cp_W (pa : Nat → Int32) (up : Int32) (n : Nat) (post : Int32 → Int32 → Int32 → Int32 → Prop) (e : Int32) (N : Nat → Nat → Prop) : Prop :=
  ∀ R, cp_R N R → ((((e ≤ 1 ∨ pa (12 * (n - 1) + 7) = 0) ∧ cp_F up R = 0) → post 5 (nI (n - 1)) 0 0) ∧ (¬ ((e ≤ 1 ∨ pa (12 * (n - 1) + 7) = 0) ∧ cp_F up R = 0) → post 0 (-1) (cp_F up R) R))
def cp_V (pa mp su : Nat → Int32) (anc up tm : Int32) (n : Nat) (post : Int32 → Int32 → Int32 → Int32 → Prop) : Nat → Nat → Int32 → Int32 → Int32 → Int32 → (Nat → Nat → Prop) → Prop
  | 0 => fun _ _ _ _ _ _ => False
  | f + 1 => fun i e p a m S =>
    ((tm < pa (12 * i + 2) ∨ pa (12 * i + 3) < tm) → post 2 (nI i) 0 0) ∧ (¬ (tm < pa (12 * i + 2) ∨ pa (12 * i + 3) < tm) →
    ((¬ pa (12 * i) = cp_want pa anc i) → post 3 (nI i) 0 0) ∧ (¬ (¬ pa (12 * i) = cp_want pa anc i) →
    ((¬ cp_ex pa n i ∧ cp_bad pa su i) → post 4 (nI i) 0 0) ∧ (¬ (¬ cp_ex pa n i ∧ cp_bad pa su i) →
    ((e = 0 ∧ cp_em (cp_NN pa mp n i p a S)) → post 5 (nI i) 0 0) ∧ (¬ (e = 0 ∧ cp_em (cp_NN pa mp n i p a S)) →
    (i + 1 = n → cp_W pa up n post e (cp_NN pa mp n i p a S)) ∧ (¬ i + 1 = n →
    (pa (12 * i + 4) &&& 1 = 0 → post 6 (nI i) 0 0) ∧ (¬ pa (12 * i + 4) &&& 1 = 0 →
    ((¬ cp_self pa i ∧ m = 0) → post 7 (nI i) 0 0) ∧ (¬ (¬ cp_self pa i ∧ m = 0) →
    ((¬ pa (12 * i + 4) &&& 2 = 0 ∧ pa (12 * i + 4) &&& 4 = 0) → post 8 (nI i) 0 0) ∧ (¬ (¬ pa (12 * i + 4) &&& 2 = 0 ∧ pa (12 * i + 4) &&& 4 = 0) →
      cp_V pa mp su anc up tm n post f (i + 1) (cp_nx (pa (12 * i)) (pa (12 * i + 1)) e (pa (12 * i + 7))) (cp_nx (pa (12 * i)) (pa (12 * i + 1)) p (pa (12 * i + 8)))
        (cp_nx (pa (12 * i)) (pa (12 * i + 1)) a (pa (12 * i + 9))) (cp_nx (pa (12 * i)) (pa (12 * i + 1)) m (pa (12 * i + 5))) (cp_S (cp_NN pa mp n i p a S) p (fun v => mp (16 * i + v)))))))))))
def cp_S0 (d v : Nat) : Prop := d = 0 ∧ v = 0
theorem cp_Run {N : Nat → Nat → Prop} {R R' : Int32} (h : cp_R N R) (h' : cp_R N R') : R = R' := by
  refine b_ext fun i hi => ?_
  have a := h i hi
  have b := h' i hi
  cases hR : bt R i <;> cases hR' : bt R' i
  · rfl
  · rw [hR] at a; rw [hR'] at b; exact absurd (a.mpr (b.mp rfl)) (by decide)
  · rw [hR] at a; rw [hR'] at b; exact absurd (b.mpr (a.mp rfl)) (by decide)
  · rfl
theorem cp_Rex (N : Nat → Nat → Prop) : ∃ R, cp_R N R := cq_mk (fun d => ∃ v, v < 16 ∧ N d v) 16 (by omega)
theorem cp_R0 {N : Nat → Nat → Prop} {R : Int32} (h : cp_R N R) : R = 0 ↔ cp_em N := by
  constructor
  · rintro rfl d v hd hv hN
    have := (h d (by omega)).mpr ⟨hd, v, hv, hN⟩
    rw [b_0] at this
    exact absurd this (by decide)
  · intro he
    refine cq_z.mpr fun i hi => ?_
    cases hb : bt R i with
    | false => rfl
    | true =>
      obtain ⟨a, v, hv, hN⟩ := (h i hi).mp hb
      exact absurd hN (he i v a hv)
theorem cp_tot {pa mp su : Nat → Int32} {anc up tm : Int32} {n : Nat} : ∀ (f i : Nat) (e p a m : Int32) (S : Nat → Nat → Prop), i < n → n - i ≤ f →
    ∃ s x F R : Int32, ∀ post : Int32 → Int32 → Int32 → Int32 → Prop, post s x F R → cp_V pa mp su anc up tm n post f i e p a m S := by
  intro f
  induction f with
  | zero => intro i e p a m S h1 h2; omega
  | succ f ih =>
    intro i e p a m S h1 h2
    unfold cp_V
    by_cases c1 : (tm < pa (12 * i + 2) ∨ pa (12 * i + 3) < tm)
    · exact ⟨_, _, _, _, fun post hp => br_t c1 hp⟩
    by_cases c2 : (¬ pa (12 * i) = cp_want pa anc i)
    · exact ⟨_, _, _, _, fun post hp => br_f c1 (br_t c2 hp)⟩
    by_cases c3 : (¬ cp_ex pa n i ∧ cp_bad pa su i)
    · exact ⟨_, _, _, _, fun post hp => br_f c1 (br_f c2 (br_t c3 hp))⟩
    by_cases c4 : (e = 0 ∧ cp_em (cp_NN pa mp n i p a S))
    · exact ⟨_, _, _, _, fun post hp => br_f c1 (br_f c2 (br_f c3 (br_t c4 hp)))⟩
    by_cases c5 : i + 1 = n
    · obtain ⟨R, hR⟩ := cp_Rex (cp_NN pa mp n i p a S)
      by_cases c6 : ((e ≤ 1 ∨ pa (12 * (n - 1) + 7) = 0) ∧ cp_F up R = 0)
      · refine ⟨5, nI (n - 1), 0, 0, fun post hp => br_f c1 (br_f c2 (br_f c3 (br_f c4 (br_t c5 fun R' hR' => ?_))))⟩
        cases cp_Run hR hR'
        exact br_t c6 hp
      · refine ⟨0, -1, cp_F up R, R, fun post hp => br_f c1 (br_f c2 (br_f c3 (br_f c4 (br_t c5 fun R' hR' => ?_))))⟩
        cases cp_Run hR hR'
        exact br_f c6 hp
    by_cases c6 : pa (12 * i + 4) &&& 1 = 0
    · exact ⟨_, _, _, _, fun post hp => br_f c1 (br_f c2 (br_f c3 (br_f c4 (br_f c5 (br_t c6 hp)))))⟩
    by_cases c7 : (¬ cp_self pa i ∧ m = 0)
    · exact ⟨_, _, _, _, fun post hp => br_f c1 (br_f c2 (br_f c3 (br_f c4 (br_f c5 (br_f c6 (br_t c7 hp))))))⟩
    by_cases c8 : (¬ pa (12 * i + 4) &&& 2 = 0 ∧ pa (12 * i + 4) &&& 4 = 0)
    · exact ⟨_, _, _, _, fun post hp => br_f c1 (br_f c2 (br_f c3 (br_f c4 (br_f c5 (br_f c6 (br_f c7 (br_t c8 hp)))))))⟩
    obtain ⟨s, x, F, R, h⟩ := ih (i + 1) (cp_nx (pa (12 * i)) (pa (12 * i + 1)) e (pa (12 * i + 7))) (cp_nx (pa (12 * i)) (pa (12 * i + 1)) p (pa (12 * i + 8)))
        (cp_nx (pa (12 * i)) (pa (12 * i + 1)) a (pa (12 * i + 9))) (cp_nx (pa (12 * i)) (pa (12 * i + 1)) m (pa (12 * i + 5))) (cp_S (cp_NN pa mp n i p a S) p (fun v => mp (16 * i + v))) (by omega) (by omega)
    exact ⟨s, x, F, R, fun post hp => br_f c1 (br_f c2 (br_f c3 (br_f c4 (br_f c5 (br_f c6 (br_f c7 (br_f c8 (h post hp))))))))⟩
theorem cp_nx0 {is su c lim : Int32} (h : 0 ≤ c) : 0 ≤ cp_nx is su c lim := by
  have h1 : 0 ≤ (if 0 < c ∧ ¬ is = su then c - 1 else c) := by
    split
    · rename_i hc
      have h0 := hc.1
      rw [Int32.lt_iff_toInt_lt] at h0
      rw [Int32.le_iff_toInt_le]
      obtain ⟨j, hj, rfl⟩ := nI_of (x := c) (Int32.not_lt.mpr h)
      rw [nI_toInt hj] at h0
      have z : (0 : Int32).toInt = 0 := by decide
      rw [z] at h0
      have e : nI j - 1 = nI (j - 1) := by
        obtain ⟨k, rfl⟩ : ∃ k, j = k + 1 := ⟨j - 1, by omega⟩
        exact nI_pred k
      rw [e, z, nI_toInt (by omega)]
      omega
    · exact h
  unfold cp_nx
  by_cases hc : 0 ≤ lim ∧ lim < (if 0 < c ∧ ¬ is = su then c - 1 else c)
  · rw [if_pos hc]; exact hc.1
  · rw [if_neg hc]; exact h1
/-- no pair (d, 0) but (0, 0) -/
def cp_Z (S : Nat → Nat → Prop) : Prop := ∀ d, S d 0 → d = 0
theorem cp_ZN {S : Nat → Nat → Prop} {C : Int32} {an op : Prop} {T : Nat → Int32} : cp_Z (cp_N S C an op T) := by
  rintro d (⟨h, _⟩ | ⟨h, _⟩)
  · exact absurd rfl h
  · exact h
theorem cp_ZS {N : Nat → Nat → Prop} {p : Int32} {T : Nat → Int32} (h : cp_Z N) (hT : ∀ v, bt (T v) 0 = false) : cp_Z (cp_S N p T) := by
  rintro d (⟨h1, _⟩ | ⟨_, v, _, _, _, _, h1⟩)
  · exact h d h1
  · rw [hT v] at h1; exact absurd h1 (by decide)
theorem cp_ZS0 : cp_Z cp_S0 := fun _ h => h.1
/-! Y's arrays out of X's -/
def cp_a (pa : Nat → Int32) (k c : Nat) : Int32 := pa (12 * c + k)
def cp_sp (su : Nat → Int32) (kd j : Nat) : Int32 := su (8 * (j / 4) + 4 * kd + j % 4)
theorem cp_spk {su : Nat → Int32} {kd c k : Nat} (hk : k < 4) : cp_sp su kd (4 * c + k) = su (8 * c + 4 * kd + k) := by
  unfold cp_sp
  exact congrArg su (by omega)
def cp_K (pa : Nat → Int32) : Prop := ∀ c kd, kd < 2 → ∃ K, K ≤ 4 ∧ pa (12 * c + (10 + kd)) = nI K
