section
/-! the bt family of BITS -/
def bt (x : Int32) (i : Nat) : Bool := x.toBitVec.getLsbD i
theorem b_ext {x y : Int32} (h : ∀ i, i < 32 → bt x i = bt y i) : x = y := Int32.toBitVec_inj.mp (BitVec.eq_of_getLsbD_eq (fun i hi => h i hi))
theorem b_or (x y : Int32) (i : Nat) : bt (x ||| y) i = (bt x i || bt y i) := by unfold bt; rw [Int32.toBitVec_or, BitVec.getLsbD_or]
theorem b_and (x y : Int32) (i : Nat) : bt (x &&& y) i = (bt x i && bt y i) := by unfold bt; rw [Int32.toBitVec_and, BitVec.getLsbD_and]
theorem b_xor (x y : Int32) (i : Nat) : bt (x ^^^ y) i = (bt x i ^^ bt y i) := by unfold bt; rw [Int32.toBitVec_xor, BitVec.getLsbD_xor]
theorem b_big {x : Int32} {i : Nat} (h : 32 ≤ i) : bt x i = false := BitVec.getLsbD_of_ge _ _ h
theorem b_255 (i : Nat) : bt 255 i = decide (i < 8) := by
  rcases Nat.lt_or_ge i 32 with h | h
  · exact (by decide +kernel : ∀ i, i < 32 → bt 255 i = decide (i < 8)) i h
  · rw [b_big h, decide_eq_false (by omega)]
theorem b_65535 (i : Nat) : bt 65535 i = decide (i < 16) := by
  rcases Nat.lt_or_ge i 32 with h | h
  · exact (by decide +kernel : ∀ i, i < 32 → bt 65535 i = decide (i < 16)) i h
  · rw [b_big h, decide_eq_false (by omega)]
theorem b_m1 : ∀ i, i < 32 → bt (-1) i = true := by decide +kernel
theorem b_0 (i : Nat) : bt 0 i = false := BitVec.getLsbD_zero
theorem s_l : ∀ n, n < 32 → ((nI n &&& 31).toBitVec.smod 32).toNat = n := by decide +kernel
theorem s_u : ∀ n, n < 32 → (((nI n).toUInt32 &&& Int32.toUInt32 31).toBitVec % 32).toNat = n := by decide +kernel
theorem b_shl (n : Nat) (hn : n < 32) (x : Int32) {i : Nat} (hi : i < 32) : bt (x <<< (nI n &&& 31)) i = (decide (n ≤ i) && bt x (i - n)) := by
  unfold bt
  rw [Int32.toBitVec_shiftLeft]
  show (x.toBitVec <<< ((nI n &&& 31).toBitVec.smod 32).toNat).getLsbD i = _
  rw [s_l n hn, BitVec.getLsbD_shiftLeft]
  rcases Nat.lt_or_ge i n with h | h
  · simp [h, Nat.not_le.mpr h]
  · simp [hi, h, Nat.not_lt.mpr h]
theorem b_ushr (n : Nat) (hn : n < 32) (x : Int32) (i : Nat) : bt ((x.toUInt32 >>> ((nI n).toUInt32 &&& Int32.toUInt32 31)).toInt32) i = bt x (n + i) := by
  show (x.toUInt32 >>> ((nI n).toUInt32 &&& Int32.toUInt32 31)).toBitVec.getLsbD i = x.toUInt32.toBitVec.getLsbD (n + i)
  rw [UInt32.toBitVec_shiftRight]
  show (x.toUInt32.toBitVec >>> (((nI n).toUInt32 &&& Int32.toUInt32 31).toBitVec % 32).toNat).getLsbD i = _
  rw [s_u n hn, BitVec.getLsbD_ushiftRight]
theorem b_sshr (n : Nat) (hn : n < 32) (x : Int32) {i : Nat} (hi : i < 32) : bt (x >>> (nI n &&& 31)) i = if n + i < 32 then bt x (n + i) else bt x 31 := by
  unfold bt
  rw [Int32.toBitVec_shiftRight]
  show (x.toBitVec.sshiftRight ((nI n &&& 31).toBitVec.smod 32).toNat).getLsbD i = _
  rw [s_l n hn, BitVec.getLsbD_sshiftRight, BitVec.msb_eq_getLsbD_last]
  simp [hi]
theorem b_shl8 (x : Int32) {i : Nat} (hi : i < 32) : bt (x <<< ((8 : Int32) &&& 31)) i = (decide (8 ≤ i) && bt x (i - 8)) := b_shl 8 (by omega) x hi
theorem b_shl16 (x : Int32) {i : Nat} (hi : i < 32) : bt (x <<< ((16 : Int32) &&& 31)) i = (decide (16 ≤ i) && bt x (i - 16)) := b_shl 16 (by omega) x hi
theorem b_shl24 (x : Int32) {i : Nat} (hi : i < 32) : bt (x <<< ((24 : Int32) &&& 31)) i = (decide (24 ≤ i) && bt x (i - 24)) := b_shl 24 (by omega) x hi
theorem b_sshr8 (x : Int32) {i : Nat} (hi : i < 32) : bt (x >>> ((8 : Int32) &&& 31)) i = if 8 + i < 32 then bt x (8 + i) else bt x 31 := b_sshr 8 (by omega) x hi
end
section
/-! bits of an int -/
theorem cq_1 : ∀ i, i < 32 → bt 1 i = decide (i = 0) := by decide +kernel
theorem cq_m2 : ∀ i, i < 32 → bt (-2) i = decide (i ≠ 0) := by decide +kernel
theorem cq_one : ∀ p, p < 32 → ∀ i, i < 32 → bt ((1 : Int32) <<< (nI p &&& 31)) i = decide (i = p) := by decide +kernel
theorem cq_z {x : Int32} : x = 0 ↔ ∀ i, i < 32 → bt x i = false :=
  ⟨fun h i _ => by rw [h]; exact b_0 i, fun h => b_ext (fun i hi => (h i hi).trans (b_0 i).symm)⟩
theorem cq_nz {x : Int32} : ¬ x = 0 ↔ ∃ i, i < 32 ∧ bt x i = true := by
  constructor
  · intro h
    apply Classical.byContradiction
    intro hn
    refine h (cq_z.mpr fun i hi => ?_)
    cases hb : bt x i with
    | false => rfl
    | true => exact absurd ⟨i, hi, hb⟩ hn
  · rintro ⟨i, hi, hb⟩ h
    rw [h, b_0] at hb
    exact absurd hb (by decide)
theorem cq_bx (x : Int32) {p : Nat} (hp : p < 32) : x &&& ((1 : Int32) <<< (nI p &&& 31)) = 0 ↔ bt x p = false := by
  rw [cq_z]
  constructor
  · intro h
    have := h p hp
    rw [b_and, cq_one p hp p hp] at this
    simpa using this
  · intro h i hi
    rw [b_and, cq_one p hp i hi]
    by_cases e : i = p
    · subst e; simp [h]
    · simp [e]
theorem cq_by (x : Int32) {p : Nat} (hp : p < 32) : (x >>> (nI p &&& 31)) &&& 1 = 0 ↔ bt x p = false := by
  rw [cq_z]
  constructor
  · intro h
    have := h 0 (by omega)
    rw [b_and, b_sshr p hp x (by omega), if_pos (by omega), cq_1 0 (by omega)] at this
    simpa using this
  · intro h i hi
    rw [b_and, cq_1 i hi]
    by_cases e : i = 0
    · subst e
      rw [b_sshr p hp x (by omega), if_pos (by omega)]
      simp [h]
    · simp [e]
theorem cq_b0 (x : Int32) : x &&& 1 = 0 ↔ bt x 0 = false := by
  rw [cq_z]
  constructor
  · intro h
    have := h 0 (by omega)
    rw [b_and, cq_1 0 (by omega)] at this
    simpa using this
  · intro h i hi
    rw [b_and, cq_1 i hi]
    by_cases e : i = 0
    · subst e; simp [h]
    · simp [e]
theorem cq_nf {b : Bool} : ¬ b = false ↔ b = true := by cases b <;> decide
theorem cq_mk (P : Nat → Prop) : ∀ k, k ≤ 32 → ∃ R : Int32, ∀ d, d < 32 → (bt R d = true ↔ d < k ∧ P d) := by
  intro k
  induction k with
  | zero => intro _; exact ⟨0, fun d _ => by rw [b_0]; simp⟩
  | succ k ih =>
    intro hk
    obtain ⟨R, hR⟩ := ih (by omega)
    by_cases h : P k
    · refine ⟨R ||| ((1 : Int32) <<< (nI k &&& 31)), fun d hd => ?_⟩
      rw [b_or, cq_one k (by omega) d hd, Bool.or_eq_true, hR d hd, decide_eq_true_eq]
      constructor
      · rintro (⟨a, b⟩ | rfl)
        · exact ⟨by omega, b⟩
        · exact ⟨by omega, h⟩
      · rintro ⟨a, b⟩
        by_cases e : d = k
        · exact Or.inr e
        · exact Or.inl ⟨by omega, b⟩
    · refine ⟨R, fun d hd => ?_⟩
      rw [hR d hd]
      constructor
      · rintro ⟨a, b⟩
        exact ⟨by omega, b⟩
      · rintro ⟨a, b⟩
        refine ⟨?_, b⟩
        by_cases e : d = k
        · subst e; exact absurd b h
        · omega

/-! names -/
def cp_g (x : Int32) (k : Nat) : Int32 := (x >>> (nI (4 * k) &&& 31)) &&& 15
def cp_nm (x : Int32) : Prop := (0 ≤ x ∧ x ≤ 65535) ∧ ∀ k, k < 3 → ¬ cp_g x (k + 1) = 0 → ¬ cp_g x k = 0
def cp_lie (x s : Int32) : Prop := ∀ k, k < 4 → ¬ cp_g s k = 0 → cp_g s k = cp_g x k
def cp_c (x : Int32) (k : Nat) : Nat := if cp_g x k = 0 then 0 else 1
def cp_l (x : Int32) : Nat := cp_c x 0 + cp_c x 1 + cp_c x 2 + cp_c x 3
theorem cp_nm0 : cp_nm 0 := by
  refine ⟨by decide, ?_⟩
  decide +kernel
theorem cp_lk {x : Int32} (h : cp_nm x) : ∀ k, k < 4 → (¬ cp_g x k = 0 ↔ k < cp_l x) := by
  have h0 := h.2 0 (by omega)
  have h1 := h.2 1 (by omega)
  have h2 := h.2 2 (by omega)
  intro k hk
  unfold cp_l cp_c
  have hc : k = 0 ∨ k = 1 ∨ k = 2 ∨ k = 3 := by omega
  rcases hc with rfl | rfl | rfl | rfl <;> by_cases a0 : cp_g x 0 = 0 <;> by_cases a1 : cp_g x 1 = 0 <;> by_cases a2 : cp_g x 2 = 0 <;> by_cases a3 : cp_g x 3 = 0 <;> simp_all
theorem cp_l4 (x : Int32) : cp_l x ≤ 4 := by
  unfold cp_l cp_c
  split <;> split <;> split <;> split <;> omega
theorem cp_lieY {x s : Int32} (hx : cp_nm x) (hs : cp_nm s) : cp_lie x s ↔ cp_l s ≤ cp_l x ∧ ∀ k, k < cp_l s → cp_g x k = cp_g s k := by
  have l4 := cp_l4 s
  constructor
  · intro h
    refine ⟨?_, fun k hk => (h k (by omega) ((cp_lk hs k (by omega)).mpr hk)).symm⟩
    apply Classical.byContradiction
    intro hn
    have hk : cp_l x < cp_l s := by omega
    have h1 := (cp_lk hs (cp_l x) (by omega)).mpr hk
    have h2 := h _ (by omega) h1
    have h3 := mt (cp_lk hx (cp_l x) (by omega)).mp (by omega)
    rw [h2] at h1
    exact h3 h1
  · rintro ⟨_, h⟩ k hk hg
    exact (h k ((cp_lk hs k hk).mp hg)).symm

/-! the picture of a walk -/
def cp_self (pa : Nat → Int32) (i : Nat) : Prop := pa (12 * i) = pa (12 * i + 1)
def cp_want (pa : Nat → Int32) (anc : Int32) (i : Nat) : Int32 := if i = 0 then anc else pa (12 * (i - 1) + 1)
def cp_ex (pa : Nat → Int32) (n i : Nat) : Prop := cp_self pa i ∧ i + 1 ≠ n
def cp_any (pa su : Nat → Int32) (x : Int32) (j kd : Nat) : Prop := ∃ k, k < 4 ∧ nI k < pa (12 * j + (10 + kd)) ∧ cp_lie x (su (8 * j + 4 * kd + k))
def cp_bad (pa su : Nat → Int32) (i : Nat) : Prop := ∃ j, j < i ∧ ((0 < pa (12 * j + 10) ∧ ¬ cp_any pa su (pa (12 * i + 1)) j 0) ∨ cp_any pa su (pa (12 * i + 1)) j 1)
def cp_an (pa : Nat → Int32) (n : Nat) (a : Int32) (i : Nat) : Prop := bt (pa (12 * i + 6)) 0 = true ∧ (0 < a ∨ cp_ex pa n i)
def cp_op (n : Nat) (p : Int32) (i : Nat) : Prop := i + 1 ≠ n ∧ 0 < p
def cp_N (S : Nat → Nat → Prop) (C : Int32) (an op : Prop) (T : Nat → Int32) (d v : Nat) : Prop :=
  (v ≠ 0 ∧ S d v ∧ (bt C v = true ∨ an)) ∨ (d = v ∧ S 0 0 ∧ ((v ≠ 0 ∧ (bt C v = true ∨ (an ∧ op ∧ ¬ T v = 0))) ∨ (v = 0 ∧ an)))
def cp_S (N : Nat → Nat → Prop) (p : Int32) (T : Nat → Int32) (d t : Nat) : Prop :=
  (N d t ∧ (t = 0 ∨ T t = 0)) ∨ (0 < p ∧ ∃ v, v < 16 ∧ v ≠ 0 ∧ N d v ∧ ¬ T v = 0 ∧ bt (T v) t = true)
def cp_em (N : Nat → Nat → Prop) : Prop := ∀ d v, d < 16 → v < 16 → ¬ N d v
def cp_R (N : Nat → Nat → Prop) (R : Int32) : Prop := ∀ d, d < 32 → (bt R d = true ↔ d < 16 ∧ ∃ v, v < 16 ∧ N d v)
def cp_F (up R : Int32) : Int32 := if up &&& 1 = 0 then (R &&& up) ||| (if R &&& 1 = 0 then 0 else up) else R
def cp_nx (is su c lim : Int32) : Int32 :=
  if 0 ≤ lim ∧ lim < (if 0 < c ∧ ¬ is = su then c - 1 else c) then lim else (if 0 < c ∧ ¬ is = su then c - 1 else c)
def cp_NN (pa mp : Nat → Int32) (n : Nat) (i : Nat) (p a : Int32) (S : Nat → Nat → Prop) : Nat → Nat → Prop :=
  cp_N S (pa (12 * i + 6)) (cp_an pa n a i) (cp_op n p i) (fun v => mp (16 * i + v))
def cp_W (pa : Nat → Int32) (up : Int32) (n : Nat) (post : Int32 → Int32 → Int32 → Int32 → Prop) (e : Int32) (N : Nat → Nat → Prop) : Prop :=
  ∀ R, cp_R N R → ((((e ≤ 1 ∨ pa (12 * (n - 1) + 7) = 0) ∧ cp_F up R = 0) → post 5 (nI (n - 1)) 0 0) ∧ (¬ ((e ≤ 1 ∨ pa (12 * (n - 1) + 7) = 0) ∧ cp_F up R = 0) → post 0 (-1) (cp_F up R) R))
def cp_V (pa mp su : Nat → Int32) (anc up tm : Int32) (n : Nat) (post : Int32 → Int32 → Int32 → Int32 → Prop) : Nat → Nat → Int32 → Int32 → Int32 → Int32 → (Nat → Nat → Prop) → Prop
  | 0 => fun _ _ _ _ _ _ => False
  | f + 1 => fun i e p a m S =>
    ((tm < pa (12 * i + 2) ∨ pa (12 * i + 3) < tm) → post 2 (nI i) 0 0) ∧ (¬ (tm < pa (12 * i + 2) ∨ pa (12 * i + 3) < tm) →
    ((¬ pa (12 * i) = cp_want pa anc i) → post 3 (nI i) 0 0) ∧ (¬ (¬ pa (12 * i) = cp_want pa anc i) →
    ((¬ cp_ex pa n i ∧ cp_bad pa su i) → post 4 (nI i) 0 0) ∧ (¬ (¬ cp_ex pa n i ∧ cp_bad pa su i) →
    ((e = 0 ∧ cp_em (cp_NN pa mp n i p a S)) → post 5 (nI i) 0 0) ∧ (¬ (e = 0 ∧ cp_em (cp_NN pa mp n i p a S)) →
    (i + 1 = n → cp_W pa up n post e (cp_NN pa mp n i p a S)) ∧ (¬ i + 1 = n →
    (pa (12 * i + 4) &&& 1 = 0 → post 6 (nI i) 0 0) ∧ (¬ pa (12 * i + 4) &&& 1 = 0 →
    ((¬ cp_self pa i ∧ m = 0) → post 7 (nI i) 0 0) ∧ (¬ (¬ cp_self pa i ∧ m = 0) →
    ((¬ pa (12 * i + 4) &&& 2 = 0 ∧ pa (12 * i + 4) &&& 4 = 0) → post 8 (nI i) 0 0) ∧ (¬ (¬ pa (12 * i + 4) &&& 2 = 0 ∧ pa (12 * i + 4) &&& 4 = 0) →
      cp_V pa mp su anc up tm n post f (i + 1) (cp_nx (pa (12 * i)) (pa (12 * i + 1)) e (pa (12 * i + 7))) (cp_nx (pa (12 * i)) (pa (12 * i + 1)) p (pa (12 * i + 8)))
        (cp_nx (pa (12 * i)) (pa (12 * i + 1)) a (pa (12 * i + 9))) (cp_nx (pa (12 * i)) (pa (12 * i + 1)) m (pa (12 * i + 5))) (cp_S (cp_NN pa mp n i p a S) p (fun v => mp (16 * i + v)))))))))))
def cp_S0 (d v : Nat) : Prop := d = 0 ∧ v = 0
theorem cp_Run {N : Nat → Nat → Prop} {R R' : Int32} (h : cp_R N R) (h' : cp_R N R') : R = R' := by
  refine b_ext fun i hi => ?_
  have a := h i hi
  have b := h' i hi
  cases hR : bt R i <;> cases hR' : bt R' i
  · rfl
  · rw [hR] at a; rw [hR'] at b; exact absurd (a.mpr (b.mp rfl)) (by decide)
  · rw [hR] at a; rw [hR'] at b; exact absurd (b.mpr (a.mp rfl)) (by decide)
  · rfl
theorem cp_Rex (N : Nat → Nat → Prop) : ∃ R, cp_R N R := cq_mk (fun d => ∃ v, v < 16 ∧ N d v) 16 (by omega)
theorem cp_R0 {N : Nat → Nat → Prop} {R : Int32} (h : cp_R N R) : R = 0 ↔ cp_em N := by
  constructor
  · rintro rfl d v hd hv hN
    have := (h d (by omega)).mpr ⟨hd, v, hv, hN⟩
    rw [b_0] at this
    exact absurd this (by decide)
  · intro he
    refine cq_z.mpr fun i hi => ?_
    cases hb : bt R i with
    | false => rfl
    | true =>
      obtain ⟨a, v, hv, hN⟩ := (h i hi).mp hb
      exact absurd hN (he i v a hv)
theorem cp_tot {pa mp su : Nat → Int32} {anc up tm : Int32} {n : Nat} : ∀ (f i : Nat) (e p a m : Int32) (S : Nat → Nat → Prop), i < n → n - i ≤ f →
    ∃ s x F R : Int32, ∀ post : Int32 → Int32 → Int32 → Int32 → Prop, post s x F R → cp_V pa mp su anc up tm n post f i e p a m S := by
  intro f
  induction f with
  | zero => intro i e p a m S h1 h2; omega
  | succ f ih =>
    intro i e p a m S h1 h2
    unfold cp_V
    by_cases c1 : (tm < pa (12 * i + 2) ∨ pa (12 * i + 3) < tm)
    · exact ⟨_, _, _, _, fun post hp => br_t c1 hp⟩
    by_cases c2 : (¬ pa (12 * i) = cp_want pa anc i)
    · exact ⟨_, _, _, _, fun post hp => br_f c1 (br_t c2 hp)⟩
    by_cases c3 : (¬ cp_ex pa n i ∧ cp_bad pa su i)
    · exact ⟨_, _, _, _, fun post hp => br_f c1 (br_f c2 (br_t c3 hp))⟩
    by_cases c4 : (e = 0 ∧ cp_em (cp_NN pa mp n i p a S))
    · exact ⟨_, _, _, _, fun post hp => br_f c1 (br_f c2 (br_f c3 (br_t c4 hp)))⟩
    by_cases c5 : i + 1 = n
    · obtain ⟨R, hR⟩ := cp_Rex (cp_NN pa mp n i p a S)
      by_cases c6 : ((e ≤ 1 ∨ pa (12 * (n - 1) + 7) = 0) ∧ cp_F up R = 0)
      · refine ⟨5, nI (n - 1), 0, 0, fun post hp => br_f c1 (br_f c2 (br_f c3 (br_f c4 (br_t c5 fun R' hR' => ?_))))⟩
        cases cp_Run hR hR'
        exact br_t c6 hp
      · refine ⟨0, -1, cp_F up R, R, fun post hp => br_f c1 (br_f c2 (br_f c3 (br_f c4 (br_t c5 fun R' hR' => ?_))))⟩
        cases cp_Run hR hR'
        exact br_f c6 hp
    by_cases c6 : pa (12 * i + 4) &&& 1 = 0
    · exact ⟨_, _, _, _, fun post hp => br_f c1 (br_f c2 (br_f c3 (br_f c4 (br_f c5 (br_t c6 hp)))))⟩
    by_cases c7 : (¬ cp_self pa i ∧ m = 0)
    · exact ⟨_, _, _, _, fun post hp => br_f c1 (br_f c2 (br_f c3 (br_f c4 (br_f c5 (br_f c6 (br_t c7 hp))))))⟩
    by_cases c8 : (¬ pa (12 * i + 4) &&& 2 = 0 ∧ pa (12 * i + 4) &&& 4 = 0)
    · exact ⟨_, _, _, _, fun post hp => br_f c1 (br_f c2 (br_f c3 (br_f c4 (br_f c5 (br_f c6 (br_f c7 (br_t c8 hp)))))))⟩
    obtain ⟨s, x, F, R, h⟩ := ih (i + 1) (cp_nx (pa (12 * i)) (pa (12 * i + 1)) e (pa (12 * i + 7))) (cp_nx (pa (12 * i)) (pa (12 * i + 1)) p (pa (12 * i + 8)))
        (cp_nx (pa (12 * i)) (pa (12 * i + 1)) a (pa (12 * i + 9))) (cp_nx (pa (12 * i)) (pa (12 * i + 1)) m (pa (12 * i + 5))) (cp_S (cp_NN pa mp n i p a S) p (fun v => mp (16 * i + v))) (by omega) (by omega)
    exact ⟨s, x, F, R, fun post hp => br_f c1 (br_f c2 (br_f c3 (br_f c4 (br_f c5 (br_f c6 (br_f c7 (br_f c8 (h post hp))))))))⟩
theorem cp_nx0 {is su c lim : Int32} (h : 0 ≤ c) : 0 ≤ cp_nx is su c lim := by
  have h1 : 0 ≤ (if 0 < c ∧ ¬ is = su then c - 1 else c) := by
    split
    · rename_i hc
      have h0 := hc.1
      rw [Int32.lt_iff_toInt_lt] at h0
      rw [Int32.le_iff_toInt_le]
      obtain ⟨j, hj, rfl⟩ := nI_of (x := c) (Int32.not_lt.mpr h)
      rw [nI_toInt hj] at h0
      have z : (0 : Int32).toInt = 0 := by decide
      rw [z] at h0
      have e : nI j - 1 = nI (j - 1) := by
        obtain ⟨k, rfl⟩ : ∃ k, j = k + 1 := ⟨j - 1, by omega⟩
        exact nI_pred k
      rw [e, z, nI_toInt (by omega)]
      omega
    · exact h
  unfold cp_nx
  by_cases hc : 0 ≤ lim ∧ lim < (if 0 < c ∧ ¬ is = su then c - 1 else c)
  · rw [if_pos hc]; exact hc.1
  · rw [if_neg hc]; exact h1
/-- no pair (d, 0) but (0, 0) -/
def cp_Z (S : Nat → Nat → Prop) : Prop := ∀ d, S d 0 → d = 0
theorem cp_ZN {S : Nat → Nat → Prop} {C : Int32} {an op : Prop} {T : Nat → Int32} : cp_Z (cp_N S C an op T) := by
  rintro d (⟨h, _⟩ | ⟨h, _⟩)
  · exact absurd rfl h
  · exact h
theorem cp_ZS {N : Nat → Nat → Prop} {p : Int32} {T : Nat → Int32} (h : cp_Z N) (hT : ∀ v, bt (T v) 0 = false) : cp_Z (cp_S N p T) := by
  rintro d (⟨h1, _⟩ | ⟨_, v, _, _, _, _, h1⟩)
  · exact h d h1
  · rw [hT v] at h1; exact absurd h1 (by decide)
theorem cp_ZS0 : cp_Z cp_S0 := fun _ h => h.1
/-! Y's arrays out of X's -/
def cp_a (pa : Nat → Int32) (k c : Nat) : Int32 := pa (12 * c + k)
def cp_sp (su : Nat → Int32) (kd j : Nat) : Int32 := su (8 * (j / 4) + 4 * kd + j % 4)
theorem cp_spk {su : Nat → Int32} {kd c k : Nat} (hk : k < 4) : cp_sp su kd (4 * c + k) = su (8 * c + 4 * kd + k) := by
  unfold cp_sp
  exact congrArg su (by omega)
def cp_K (pa : Nat → Int32) : Prop := ∀ c kd, kd < 2 → ∃ K, K ≤ 4 ∧ pa (12 * c + (10 + kd)) = nI K
end
section
/-! X's masks: one int a policy -/
def cx_R (ex : Nat → Int32) (S : Nat → Nat → Prop) : Prop := ∀ d, d < 16 → ∀ v, v < 32 → (bt (ex d) v = true ↔ v < 16 ∧ S d v)
def cx_k (an : Prop) (C kept : Int32) : Prop := (an ∧ kept = 65535) ∨ (¬ an ∧ kept = C)
theorem cx_f1 {ex : Nat → Int32} {S : Nat → Nat → Prop} {an : Prop} {C kept : Int32} (h : cx_R ex S) (hk : cx_k an C kept) {d v : Nat} (hd : d < 16) (hv : v < 32) :
    bt ((ex d &&& kept) &&& (-2)) v = true ↔ v < 16 ∧ v ≠ 0 ∧ S d v ∧ (bt C v = true ∨ an) := by
  rw [b_and, b_and, cq_m2 v hv, Bool.and_eq_true, Bool.and_eq_true, h d hd v hv, decide_eq_true_eq]
  rcases hk with ⟨ha, rfl⟩ | ⟨ha, rfl⟩
  · rw [b_65535, decide_eq_true_eq]
    constructor
    · rintro ⟨⟨⟨a, b⟩, c⟩, d⟩; exact ⟨a, d, b, Or.inr ha⟩
    · rintro ⟨a, b, c, _⟩; exact ⟨⟨⟨a, c⟩, a⟩, b⟩
  · constructor
    · rintro ⟨⟨⟨a, b⟩, c⟩, d⟩; exact ⟨a, d, b, Or.inl c⟩
    · rintro ⟨a, b, c, d | d⟩
      · exact ⟨⟨⟨a, c⟩, d⟩, b⟩
      · exact absurd d ha
/-- what the pair (0, 0) adds at policy d -/
def cx_o (S : Nat → Nat → Prop) (C : Int32) (an op : Prop) (T : Nat → Int32) (d : Nat) : Prop :=
  S 0 0 ∧ ((d ≠ 0 ∧ (bt C d = true ∨ (an ∧ op ∧ ¬ T d = 0))) ∨ (d = 0 ∧ an))
def cx_u (no no' : Nat → Int32) (o : Nat → Prop) : Prop := ∀ d, d < 16 → ∀ v, v < 32 → (bt (no' d) v = true ↔ bt (no d) v = true ∨ (v = d ∧ o d))
theorem cx_N {ex no no' : Nat → Int32} {S : Nat → Nat → Prop} {an op : Prop} {C kept : Int32} {T : Nat → Int32} (h : cx_R ex S) (hk : cx_k an C kept)
    (h1 : ∀ d, d < 16 → no d = (ex d &&& kept) &&& (-2)) (h2 : cx_u no no' (cx_o S C an op T)) : cx_R no' (cp_N S C an op T) := by
  intro d hd v hv
  rw [h2 d hd v hv, h1 d hd, cx_f1 h hk hd hv]
  unfold cp_N cx_o
  constructor
  · rintro (⟨a, b, c⟩ | ⟨rfl, c, e⟩)
    · exact ⟨a, Or.inl ⟨b, c⟩⟩
    · exact ⟨by omega, Or.inr ⟨rfl, c, e⟩⟩
  · rintro ⟨a, ⟨b, c⟩ | ⟨rfl, c, e⟩⟩
    · exact Or.inl ⟨a, b, c⟩
    · exact Or.inr ⟨rfl, c, e⟩
theorem cx_or1 {x : Int32} {p v : Nat} (hp : p < 32) (hv : v < 32) : bt (x ||| ((1 : Int32) <<< (nI p &&& 31))) v = true ↔ bt x v = true ∨ v = p := by
  rw [b_or, Bool.or_eq_true, cq_one p hp v hv, decide_eq_true_eq]
theorem cx_or0 {x : Int32} {v : Nat} (hv : v < 32) : bt (x ||| 1) v = true ↔ bt x v = true ∨ v = 0 := by
  rw [b_or, Bool.or_eq_true, cq_1 v hv, decide_eq_true_eq]
/-- the mask of the first k policies that have a pair -/
def cx_m (no : Nat → Int32) (k : Nat) (m : Int32) : Prop := ∀ d, d < 32 → (bt m d = true ↔ d < k ∧ ¬ no d = 0)
theorem cx_m0 {no : Nat → Int32} : cx_m no 0 0 := fun d _ => by rw [b_0]; simp
theorem cx_ms {no : Nat → Int32} {k : Nat} {m : Int32} (hk : k < 32) (h : cx_m no k m) (hz : ¬ no k = 0) : cx_m no (k + 1) (m ||| ((1 : Int32) <<< (nI k &&& 31))) := by
  intro d hd
  rw [cx_or1 hk hd, h d hd]
  constructor
  · rintro (⟨a, b⟩ | rfl)
    · exact ⟨by omega, b⟩
    · exact ⟨by omega, hz⟩
  · rintro ⟨a, b⟩
    by_cases e : d = k
    · exact Or.inr e
    · exact Or.inl ⟨by omega, b⟩
theorem cx_mz {no : Nat → Int32} {k : Nat} {m : Int32} (h : cx_m no k m) (hz : no k = 0) : cx_m no (k + 1) m := by
  intro d hd
  rw [h d hd]
  constructor
  · rintro ⟨a, b⟩; exact ⟨by omega, b⟩
  · rintro ⟨a, b⟩
    by_cases e : d = k
    · subst e; exact absurd hz b
    · exact ⟨by omega, b⟩
theorem cx_mR {no : Nat → Int32} {N : Nat → Nat → Prop} {m : Int32} (h : cx_m no 16 m) (hN : cx_R no N) : cp_R N m := by
  intro d hd
  rw [h d hd]
  constructor
  · rintro ⟨a, b⟩
    obtain ⟨v, hv, hb⟩ := cq_nz.mp b
    obtain ⟨c, e⟩ := (hN d a v hv).mp hb
    exact ⟨a, v, c, e⟩
  · rintro ⟨a, v, hv, hb⟩
    exact ⟨a, cq_nz.mpr ⟨v, by omega, (hN d a v (by omega)).mpr ⟨hv, hb⟩⟩⟩
/-- the mapped mask of one policy, by the first k labels -/
def cx_t (p : Int32) (T : Nat → Int32) (held : Int32) (k : Nat) (r : Int32) : Prop :=
  ∀ t, t < 32 → (bt r t = true ↔ (t = 0 ∧ bt held 0 = true) ∨ ∃ v, v < k ∧ v ≠ 0 ∧ bt held v = true ∧ ((T v = 0 ∧ t = v) ∨ (¬ T v = 0 ∧ 0 < p ∧ bt (T v) t = true)))
theorem cx_t1 {p : Int32} {T : Nat → Int32} {held : Int32} : cx_t p T held 1 (held &&& 1) := by
  intro t ht
  rw [b_and, cq_1 t ht, Bool.and_eq_true, decide_eq_true_eq]
  constructor
  · rintro ⟨a, rfl⟩; exact Or.inl ⟨rfl, a⟩
  · rintro (⟨rfl, a⟩ | ⟨v, a, b, _⟩)
    · exact ⟨a, rfl⟩
    · omega
theorem cx_tn {p : Int32} {T : Nat → Int32} {held r : Int32} {k : Nat} (h : cx_t p T held k r) (hn : bt held k = true → ¬ T k = 0 ∧ ¬ 0 < p) : cx_t p T held (k + 1) r := by
  intro t ht
  rw [h t ht]
  constructor
  · rintro (a | ⟨v, a, b⟩)
    · exact Or.inl a
    · exact Or.inr ⟨v, by omega, b⟩
  · rintro (a | ⟨v, a, b, c, d⟩)
    · exact Or.inl a
    · by_cases e : v = k
      · subst e
        obtain ⟨h1, h2⟩ := hn c
        rcases d with d | d
        · exact absurd d.1 h1
        · exact absurd d.2.1 h2
      · exact Or.inr ⟨v, by omega, b, c, d⟩
theorem cx_tv {p : Int32} {T : Nat → Int32} {held r : Int32} {k : Nat} (hk : k < 32) (h0 : k ≠ 0) (h : cx_t p T held k r) (hb : bt held k = true) (hT : T k = 0) : cx_t p T held (k + 1) (r ||| ((1 : Int32) <<< (nI k &&& 31))) := by
  intro t ht
  rw [cx_or1 hk ht, h t ht]
  constructor
  · rintro ((a | ⟨v, a, b⟩) | rfl)
    · exact Or.inl a
    · exact Or.inr ⟨v, by omega, b⟩
    · exact Or.inr ⟨t, by omega, h0, hb, Or.inl ⟨hT, rfl⟩⟩
  · rintro (a | ⟨v, a, b, c, d⟩)
    · exact Or.inl (Or.inl a)
    · by_cases e : v = k
      · subst e
        rcases d with d | d
        · exact Or.inr d.2
        · exact absurd hT d.1
      · exact Or.inl (Or.inr ⟨v, by omega, b, c, d⟩)
theorem cx_tt {p : Int32} {T : Nat → Int32} {held r : Int32} {k : Nat} (h0 : k ≠ 0) (h : cx_t p T held k r) (hb : bt held k = true) (hT : ¬ T k = 0) (hp : 0 < p) : cx_t p T held (k + 1) (r ||| T k) := by
  intro t ht
  rw [b_or, Bool.or_eq_true, h t ht]
  constructor
  · rintro ((a | ⟨v, a, b⟩) | a)
    · exact Or.inl a
    · exact Or.inr ⟨v, by omega, b⟩
    · exact Or.inr ⟨k, by omega, h0, hb, Or.inr ⟨hT, hp, a⟩⟩
  · rintro (a | ⟨v, a, b, c, d⟩)
    · exact Or.inl (Or.inl a)
    · by_cases e : v = k
      · subst e
        rcases d with d | d
        · exact absurd d.1 hT
        · exact Or.inr d.2.2
      · exact Or.inl (Or.inr ⟨v, by omega, b, c, d⟩)
/-- a mapping's targets: labels 1 to 15 -/
def cp_T (x : Int32) : Prop := ∀ t, t < 32 → bt x t = true → 1 ≤ t ∧ t < 16
theorem cp_T0 {x : Int32} (h : cp_T x) : bt x 0 = false := by
  cases hb : bt x 0 with
  | false => rfl
  | true => have := h 0 (by omega) hb; omega
theorem cx_S {no ex : Nat → Int32} {N : Nat → Nat → Prop} {p : Int32} {T : Nat → Int32} (hT : ∀ v, cp_T (T v)) (h : cx_R no N) (h1 : ∀ d, d < 16 → cx_t p T (no d) 16 (ex d)) : cx_R ex (cp_S N p T) := by
  intro d hd t ht
  rw [h1 d hd t ht]
  unfold cp_S
  constructor
  · rintro (⟨rfl, a⟩ | ⟨v, a, b, c, ⟨e, rfl⟩ | ⟨e, f, g⟩⟩)
    · exact ⟨by omega, Or.inl ⟨((h d hd 0 (by omega)).mp a).2, Or.inl rfl⟩⟩
    · exact ⟨a, Or.inl ⟨((h d hd t ht).mp c).2, Or.inr e⟩⟩
    · exact ⟨(hT v t ht g).2, Or.inr ⟨f, v, a, b, ((h d hd v (by omega)).mp c).2, e, g⟩⟩
  · rintro ⟨a, ⟨b, c⟩ | ⟨f, v, a', b, c, e, g⟩⟩
    · by_cases z : t = 0
      · subst z; exact Or.inl ⟨rfl, (h d hd 0 (by omega)).mpr ⟨a, b⟩⟩
      · rcases c with c | c
        · exact absurd c z
        · exact Or.inr ⟨t, a, z, (h d hd t ht).mpr ⟨a, b⟩, Or.inl ⟨c, rfl⟩⟩
    · exact Or.inr ⟨v, a', b, (h d hd v (by omega)).mpr ⟨a', c⟩, Or.inr ⟨e, f, g⟩⟩
theorem cx_R0 {ex : Nat → Int32} (h0 : ex 0 = 1) (h : ∀ d, d < 16 → d ≠ 0 → ex d = 0) : cx_R ex cp_S0 := by
  intro d hd v hv
  unfold cp_S0
  by_cases e : d = 0
  · subst e
    rw [h0, cq_1 v hv, decide_eq_true_eq]
    omega
  · rw [h d hd e, b_0]
    simp [e]
end
section
section XS
variable {cap cnt anc up fl ls lf la lr el ml al ll : Int32} {pa mp su ex no : Nat → Int32}
/-! X: the small methods, each with a general post -/
theorem x_ix {c f k : Nat} : nI c * nI k + nI f = nI (k * c + f) := by rw [pk_mul, nI_add, Nat.mul_comm]
theorem x_part {post : Int32 → Prop} {c f : Nat} (hc : c < 8) (hf : f < 12) (h : post (pa (12 * c + f))) : wpX_part post (cap, cnt, anc, up, fl, ls, lf, la, lr, el, ml, al, ll, pa, mp, su, ex, no) (nI c) (nI f) := by
  unfold wpX_part
  dsimp only
  have e : nI c * 12 + nI f = nI (12 * c + f) := x_ix
  rw [e, nI_clamp (by omega)]
  exact ⟨vp_in_nI (by omega) (by omega), h⟩
theorem x_setPart {post : St2 → Prop} {c f : Nat} {y : Int32} (hc : c < 8) (hf : f < 12) (h : post (cap, cnt, anc, up, fl, ls, lf, la, lr, el, ml, al, ll, (upd pa (12 * c + f) y), mp, su, ex, no)) : wpX_setPart post (cap, cnt, anc, up, fl, ls, lf, la, lr, el, ml, al, ll, pa, mp, su, ex, no) (nI c) (nI f) y := by
  unfold wpX_setPart
  dsimp only
  have e : nI c * 12 + nI f = nI (12 * c + f) := x_ix
  rw [e, nI_clamp (by omega)]
  exact ⟨vp_in_nI (by omega) (by omega), nm_e h⟩
theorem x_targets {post : Int32 → Prop} {c s : Nat} (hc : c < 8) (hs : s < 16) (h : post (mp (16 * c + s))) : wpX_targets post (cap, cnt, anc, up, fl, ls, lf, la, lr, el, ml, al, ll, pa, mp, su, ex, no) (nI c) (nI s) := by
  unfold wpX_targets
  dsimp only
  have e : nI c * 16 + nI s = nI (16 * c + s) := x_ix
  rw [e, nI_clamp (by omega)]
  exact ⟨vp_in_nI (by omega) (by omega), h⟩
theorem x_keep {post : Int32 → St2 → Prop} {s i : Int32} (h : post s (cap, cnt, anc, up, fl, s, i, 0, 0, el, ml, al, ll, pa, mp, su, ex, no)) : wpX_keepFailure post (cap, cnt, anc, up, fl, ls, lf, la, lr, el, ml, al, ll, pa, mp, su, ex, no) s i := h
theorem x_reset {post : St2 → Prop} (h : post (cap, cnt, anc, up, fl, (-1), (-1), 0, 0, el, ml, al, ll, pa, mp, su, ex, no)) : wpX_resetResult post (cap, cnt, anc, up, fl, ls, lf, la, lr, el, ml, al, ll, pa, mp, su, ex, no) := h
theorem x_group {post : Int32 → Prop} {x : Int32} {k : Nat} (h : post (cp_g x k)) : wpX_group post () x (nI k) := by
  unfold wpX_group
  have e : 4 * nI k = nI (4 * k) := pk_mul 4 k
  rw [e]
  exact h
theorem x_inRange {post : Int32 → Prop} {x a b : Int32} (h1 : a ≤ x ∧ x ≤ b → post 1) (h0 : ¬ (a ≤ x ∧ x ≤ b) → post 0) : wpX_inRange post () x a b :=
  br_c (fun h => h0 (fun z => absurd z.1 (Int32.not_le.mpr h))) (fun h => br_c (fun h' => h0 (fun z => absurd z.2 (Int32.not_le.mpr h'))) (fun h' => h1 ⟨Int32.not_lt.mp h, Int32.not_lt.mp h'⟩))
theorem x_isNum {post : Int32 → Prop} {x : Int32} (h1 : -1 ≤ x ∧ x ≤ 15 → post 1) (h0 : ¬ (-1 ≤ x ∧ x ≤ 15) → post 0) : wpX_isNumberOrNone post () x := by
  unfold wpX_isNumberOrNone
  exact x_inRange (fun h => ⟨rfl, h1 h⟩) (fun h => ⟨rfl, h0 h⟩)
theorem x_isSpec {post : Int32 → Prop} {x : Int32} (h1 : 1 ≤ x ∧ x ≤ 15 → post 1) (h0 : ¬ (1 ≤ x ∧ x ≤ 15) → post 0) : wpX_isSpecificPolicy post () x := by
  unfold wpX_isSpecificPolicy
  exact x_inRange (fun h => ⟨rfl, h1 h⟩) (fun h => ⟨rfl, h0 h⟩)
theorem x_isKind {post : Int32 → Prop} {x : Int32} (h1 : x = 0 ∨ x = 1 → post 1) (h0 : ¬ (x = 0 ∨ x = 1) → post 0) : wpX_isKind post () x :=
  br_c (fun h => h1 (Or.inl h)) (fun h => br_c (fun h' => h1 (Or.inr h')) (fun h' => h0 (fun z => z.elim h h')))
theorem x_isCert {post : Int32 → Prop} {n : Nat} (hn : n ≤ 8) {x : Int32} (h1 : 0 ≤ x ∧ x < nI n → post 1) (h0 : ¬ (0 ≤ x ∧ x < nI n) → post 0) : wpX_isCert post (cap, (nI n), anc, up, fl, ls, lf, la, lr, el, ml, al, ll, pa, mp, su, ex, no) x :=
  br_c (fun h => h0 (fun z => absurd z.1 (Int32.not_le.mpr h))) (fun h => br_c (fun h' => h0 (fun z => absurd z.2 (Int32.not_lt.mpr h'))) (fun h' => h1 ⟨Int32.not_lt.mp h, Int32.not_le.mp h'⟩))
theorem x_cert {n : Nat} (hn : n ≤ 8) {x : Int32} (h : 0 ≤ x ∧ x < nI n) : ∃ c, c < n ∧ x = nI c := by
  obtain ⟨c, hc, rfl⟩ := nI_of (x := x) (Int32.not_lt.mpr h.1)
  exact ⟨c, (nI_ltI hc (by omega)).mp h.2, rfl⟩
theorem x_rng {x : Int32} {a b : Nat} (hb : b < 2 ^ 31) (h : nI a ≤ x ∧ x ≤ nI b) (ha : a < 2 ^ 31) : ∃ c, a ≤ c ∧ c ≤ b ∧ x = nI c := by
  have h0 : (0 : Int32) ≤ x := Int32.le_trans (nI_pos' ha) h.1
  obtain ⟨c, hc, rfl⟩ := nI_of (x := x) (Int32.not_lt.mpr h0)
  exact ⟨c, (nI_leI ha hc).mp h.1, (nI_leI hc hb).mp h.2, rfl⟩
theorem x_isNameL {post : Int32 → Prop} {x : Int32} (hr : 0 ≤ x ∧ x ≤ 65535) (h1 : cp_nm x → post 1) (h0 : ¬ cp_nm x → post 0) : ∀ d m, m + d = 3 →
    (∀ j, j < m → ¬ cp_g x (j + 1) = 0 → ¬ cp_g x j = 0) → wX_isName_14 post x (d + 1) (nI (m + 1)) := by
  intro d
  induction d with
  | zero =>
    intro m hm H
    obtain rfl : m = 3 := by omega
    exact br_t (by decide) (h1 ⟨hr, H⟩)
  | succ d ih =>
    intro m hm H
    refine br_f (nI_ge (b := 4) (by omega) (by decide)) (x_group (br_c (fun hz => nm_r (nI_1 (m + 1)) (ih (m + 1) (by omega) ?_)) (fun hz => ?_)))
    · intro j hj hg
      by_cases e : j = m
      · subst e; exact absurd hz hg
      · exact H j (by omega) hg
    · rw [nI_pred]
      refine x_group (br_c (fun h7 => h0 (fun z => z.2 m (by omega) hz h7)) (fun h7 => nm_r (nI_1 (m + 1)) (ih (m + 1) (by omega) ?_)))
      intro j hj hg
      by_cases e : j = m
      · subst e; exact h7
      · exact H j (by omega) hg
theorem x_isName {post : Int32 → Prop} {x : Int32} (h1 : cp_nm x → post 1) (h0 : ¬ cp_nm x → post 0) : wpX_isName post () x := by
  unfold wpX_isName
  exact x_inRange (fun hr => br_f (by decide) ⟨4, x_isNameL hr h1 h0 3 0 rfl (fun j hj => absurd hj (by omega))⟩) (fun hr => br_t rfl (h0 fun z => hr z.1))
theorem x_liesInL {post : Int32 → Prop} {x s : Int32} (h1 : cp_lie x s → post 1) (h0 : ¬ cp_lie x s → post 0) : ∀ d m, m + d = 4 →
    (∀ j, j < m → ¬ cp_g s j = 0 → cp_g s j = cp_g x j) → wX_liesIn_2 post x s (d + 1) (nI m) := by
  intro d
  induction d with
  | zero =>
    intro m hm H
    obtain rfl : m = 4 := by omega
    exact br_t (by decide) (h1 H)
  | succ d ih =>
    intro m hm H
    refine br_f (nI_ge (b := 4) (by omega) (by decide)) (x_group (br_c (fun hz => nm_r (nI_1 m) (ih (m + 1) (by omega) ?_)) (fun hz => x_group (br_c (fun h7 => nm_r (nI_1 m) (ih (m + 1) (by omega) ?_)) (fun h7 => h0 (fun z => h7 (z m (by omega) hz)))))))
    · intro j hj hg
      by_cases e : j = m
      · subst e; exact absurd hz hg
      · exact H j (by omega) hg
    · intro j hj hg
      by_cases e : j = m
      · subst e; exact h7
      · exact H j (by omega) hg
theorem x_liesIn {post : Int32 → Prop} {x s : Int32} (h1 : cp_lie x s → post 1) (h0 : ¬ cp_lie x s → post 0) : wpX_liesIn post () x s :=
  ⟨5, x_liesInL h1 h0 4 0 rfl (fun j hj => absurd hj (by omega))⟩
theorem x_self {post : Int32 → Prop} {c : Nat} (hc : c < 8) (h1 : cp_self pa c → post 1) (h0 : ¬ cp_self pa c → post 0) : wpX_isSelfIssued post (cap, cnt, anc, up, fl, ls, lf, la, lr, el, ml, al, ll, pa, mp, su, ex, no) (nI c) := by
  unfold wpX_isSelfIssued
  exact x_part (f := 0) hc (by decide) (x_part (f := 1) hc (by decide) (br_c h1 h0))
theorem x_leaf {post : Int32 → Prop} {c n : Nat} (hc : c < n) (hn : n ≤ 8) (h1 : c + 1 = n → post 1) (h0 : ¬ c + 1 = n → post 0) : wpX_isLeaf post (cap, (nI n), anc, up, fl, ls, lf, la, lr, el, ml, al, ll, pa, mp, su, ex, no) (nI c) := by
  unfold wpX_isLeaf
  dsimp only
  obtain ⟨m, rfl⟩ : ∃ m, n = m + 1 := ⟨n - 1, by omega⟩
  rw [nI_pred]
  exact pk_eq c m (fun h => h1 (by omega)) (fun h => h0 (by omega))
theorem x_subCnt {post : Int32 → Prop} {c k : Nat} (hc : c < 8) (hk : k < 2) (h : post (pa (12 * c + (10 + k)))) : wpX_subtreeCount post (cap, cnt, anc, up, fl, ls, lf, la, lr, el, ml, al, ll, pa, mp, su, ex, no) (nI c) (nI k) := by
  unfold wpX_subtreeCount
  dsimp only
  have e : 10 + nI k = nI (10 + k) := nI_add 10 k
  rw [e]
  exact x_part (f := 10 + k) hc (by omega) h
theorem x_first {post : Int32 → Prop} {c k : Nat} (h : post (nI (8 * c + 4 * k))) : wpX_firstSubtree post () (nI c) (nI k) := by
  unfold wpX_firstSubtree
  have e : (nI c * 2 + nI k) * 4 = nI (8 * c + 4 * k) := by
    have e1 : nI c * 2 + nI k = nI (2 * c + k) := x_ix
    have e2 : nI (2 * c + k) * 4 = nI ((2 * c + k) * 4) := pk_mul _ 4
    rw [e1, e2]
    exact congrArg nI (by omega)
  rw [e]
  exact h
end XS
end
section
section XN
variable {cap cnt anc up fl ls lf la lr el ml al ll : Int32} {pa mp su ex no : Nat → Int32}
/-! X: the name constraints -/
theorem x_inSomeL {post : Int32 → Prop} {x : Int32} {j kd K : Nat} (hj : j < 8) (hkd : kd < 2) (hK : K ≤ 4) (hc : pa (12 * j + (10 + kd)) = nI K)
    (h1 : cp_any pa su x j kd → post 1) (h0 : ¬ cp_any pa su x j kd → post 0) : ∀ d k, k + d = K → (∀ q, q < k → ¬ cp_lie x (su (8 * j + 4 * kd + q))) →
    wX_inSomeSubtree_18 post x (nI K) (nI (8 * j + 4 * kd)) cap cnt anc up fl ls lf la lr el ml al ll pa mp su ex no (d + 1) (nI k) := by
  intro d
  induction d with
  | zero =>
    intro k hk H
    obtain rfl : k = K := by omega
    refine br_t (nI_le (by omega) (by omega)) (h0 ?_)
    rintro ⟨q, q4, ql, hq⟩
    rw [hc, nI_ltI (by omega) (by omega)] at ql
    exact H q ql hq
  | succ d ih =>
    intro k hk H
    refine br_f (nI_ge (by omega) (by omega)) ?_
    have e : nI (8 * j + 4 * kd) + nI k = nI (8 * j + 4 * kd + k) := nI_add _ _
    rw [e, nI_clamp (by omega)]
    refine ⟨vp_in_nI (by omega) (by omega), x_liesIn (fun hl => br_f (by decide) (h1 ⟨k, by omega, ?_, hl⟩)) (fun hl => br_t rfl (nm_r (nI_1 k) (ih (k + 1) (by omega) ?_)))⟩
    · rw [hc]; exact nI_lt (by omega) (by omega)
    · intro q hq
      by_cases e : q = k
      · subst e; exact hl
      · exact H q (by omega)
theorem x_inSome {post : Int32 → Prop} {x : Int32} {j kd : Nat} (hj : j < 8) (hkd : kd < 2) (hK : cp_K pa)
    (h1 : cp_any pa su x j kd → post 1) (h0 : ¬ cp_any pa su x j kd → post 0) : wpX_inSomeSubtree post (cap, cnt, anc, up, fl, ls, lf, la, lr, el, ml, al, ll, pa, mp, su, ex, no) x (nI j) (nI kd) := by
  unfold wpX_inSomeSubtree
  obtain ⟨K, k4, hc⟩ := hK j kd hkd
  refine x_subCnt hj hkd (x_first ⟨K + 1, ?_⟩)
  rw [hc]
  exact x_inSomeL hj hkd k4 hc h1 h0 K 0 (by omega) (fun q hq => absurd hq (by omega))
def cp_bj (pa su : Nat → Int32) (x : Int32) (j : Nat) : Prop := (0 < pa (12 * j + 10) ∧ ¬ cp_any pa su x j 0) ∨ cp_any pa su x j 1
theorem x_badL {post : Int32 → Prop} {x : Int32} {i : Nat} (hi : i < 8) (hK : cp_K pa)
    (h1 : (∃ j, j < i ∧ cp_bj pa su x j) → post 1) (h0 : (∀ j, j < i → ¬ cp_bj pa su x j) → post 0) : ∀ d j, j + d = i → (∀ q, q < j → ¬ cp_bj pa su x q) →
    wX_breaksNameConstraints_9 post (nI i) x cap cnt anc up fl ls lf la lr el ml al ll pa mp su ex no (d + 1) (nI j) := by
  intro d
  induction d with
  | zero =>
    intro j hj H
    obtain rfl : j = i := by omega
    exact br_t (nI_le (by omega) (by omega)) (h0 H)
  | succ d ih =>
    intro j hj H
    have step : ((0 < pa (12 * j + 10) → cp_any pa su x j 0)) → wX_breaksNameConstraints_35 post (wX_breaksNameConstraints_9 post (nI i) x cap cnt anc up fl ls lf la lr el ml al ll pa mp su ex no (d + 1)) (nI i) x (nI j) cap cnt anc up fl ls lf la lr el ml al ll pa mp su ex no := by
      intro hp
      unfold wX_breaksNameConstraints_35
      refine x_inSome (kd := 1) (by omega) (by decide) hK (fun ha => br_f (by decide) (h1 ⟨j, by omega, Or.inr ha⟩)) (fun ha => br_t rfl (nm_r (nI_1 j) (ih (j + 1) (by omega) ?_)))
      intro q hq
      by_cases e : q = j
      · subst e
        rintro (⟨z1, z2⟩ | z)
        · exact z2 (hp z1)
        · exact ha z
      · exact H q (by omega)
    refine br_f (nI_ge (by omega) (by omega)) (x_subCnt (k := 0) (by omega) (by decide) (br_c (fun hz => step (fun hp => absurd hz (Int32.not_le.mpr hp))) (fun hz => ?_)))
    exact x_inSome (kd := 0) (by omega) (by decide) hK (fun ha => br_f (by decide) (step (fun _ => ha))) (fun ha => br_t rfl (h1 ⟨j, by omega, Or.inl ⟨Int32.not_le.mp hz, ha⟩⟩))
theorem x_bad {post : Int32 → Prop} {i : Nat} (hi : i < 8) (hK : cp_K pa)
    (h1 : cp_bad pa su i → post 1) (h0 : ¬ cp_bad pa su i → post 0) : wpX_breaksNameConstraints post (cap, cnt, anc, up, fl, ls, lf, la, lr, el, ml, al, ll, pa, mp, su, ex, no) (nI i) := by
  unfold wpX_breaksNameConstraints
  refine x_part (f := 1) hi (by decide) ⟨i + 1, ?_⟩
  exact x_badL (x := pa (12 * i + 1)) hi hK (fun h => h1 h) (fun h => h0 (fun ⟨j, hj, hb⟩ => h j hj hb)) i 0 (by omega) (fun q hq => absurd hq (by omega))
end XN
end
section
section XP
variable {cap cnt anc up fl ls lf la lr el ml al ll : Int32} {pa mp su ex no : Nat → Int32}
/-! X: the policy sets and the counters -/
def cp_c0 (fl b : Int32) (n : Nat) : Int32 := if fl &&& b = 0 then nI n + 1 else 0
theorem x_firstC {post : Int32 → Prop} {n : Nat} {b : Int32} (h : post (cp_c0 fl b n)) : wpX_firstCounter post (cap, (nI n), anc, up, fl, ls, lf, la, lr, el, ml, al, ll, pa, mp, su, ex, no) b := by
  unfold wpX_firstCounter
  unfold cp_c0 at h
  by_cases hb : fl &&& b = 0
  · rw [if_pos hb] at h; exact br_t hb h
  · rw [if_neg hb] at h; exact br_f hb h
theorem x_startL {post : St2 → Prop} (h : ∀ ex', cx_R ex' cp_S0 → post (cap, cnt, anc, up, fl, ls, lf, la, lr, el, ml, al, ll, pa, mp, su, ex', no)) : ∀ (d k : Nat) (ex : Nat → Int32), k + d = 16 → (∀ j, j < k → ex j = 0) → wX_startWalk_37 post cap cnt anc up fl ls lf la lr el ml al ll (d + 1) (nI k) pa mp su ex no := by
  intro d
  induction d with
  | zero =>
    intro k ex hk H
    obtain rfl : k = 16 := by omega
    refine br_t (by decide) (nm_e (h _ (cx_R0 pk_us fun d hd h0 => ?_)))
    rw [pk_un h0]
    exact H d hd
  | succ d ih =>
    intro k ex hk H
    refine br_f (nI_ge (b := 16) (by omega) (by decide)) ⟨vp_in_nI (by omega) (by omega), nm_r (by rw [nI_clamp (by omega)]) (nm_r (nI_1 k) (ih (k + 1) (upd ex k 0) (by omega) fun j hj => ?_))⟩
    by_cases e : j = k
    · subst e; exact pk_us
    · rw [pk_un e]; exact H j (by omega)
theorem x_start {post : St2 → Prop} {n : Nat} (h : ∀ ex', cx_R ex' cp_S0 → post (cap, (nI n), anc, up, fl, ls, lf, la, lr, (cp_c0 fl 1 n), (cp_c0 fl 2 n), (cp_c0 fl 4 n), (nI n), pa, mp, su, ex', no)) : wpX_startWalk post (cap, (nI n), anc, up, fl, ls, lf, la, lr, el, ml, al, ll, pa, mp, su, ex, no) := by
  unfold wpX_startWalk
  refine x_firstC (x_firstC (x_firstC ⟨17, ?_⟩))
  exact x_startL h 16 0 ex rfl (fun j hj => absurd hj (by omega))
theorem x_authL {post : Int32 → Prop} (h : ∀ m, cx_m no 16 m → post m) : ∀ (d k : Nat) (m : Int32), k + d = 16 → cx_m no k m → wX_authorityMask_4 post cap cnt anc up fl ls lf la lr el ml al ll pa mp su ex no (d + 1) m (nI k) := by
  intro d
  induction d with
  | zero =>
    intro k m hk H
    obtain rfl : k = 16 := by omega
    exact br_t (by decide) (h m H)
  | succ d ih =>
    intro k m hk H
    refine br_f (nI_ge (b := 16) (by omega) (by decide)) ⟨vp_in_nI (by omega) (by omega), ?_⟩
    rw [nI_clamp (by omega)]
    exact br_c (fun hz => nm_r (nI_1 k) (ih (k + 1) m (by omega) (cx_mz H hz))) (fun hz => nm_e (nm_r (nI_1 k) (ih (k + 1) _ (by omega) (cx_ms (by omega) H hz))))
theorem x_auth {post : Int32 → Prop} {N : Nat → Nat → Prop} (hN : cx_R no N) (h : ∀ R, cp_R N R → post R) : wpX_authorityMask post (cap, cnt, anc, up, fl, ls, lf, la, lr, el, ml, al, ll, pa, mp, su, ex, no) :=
  ⟨17, x_authL (fun m hm => h m (cx_mR hm hN)) 16 0 0 rfl cx_m0⟩
/-- the pair (0, 0): the loop over the policies -/
theorem x_openL {post : St2 → Prop} {i : Nat} (hi : i < 8) {z C om : Int32} {no0 : Nat → Int32} {Q : Nat → Prop} (hQ : ∀ k, Q k ↔ (bt C k = true ∨ (¬ om = 0 ∧ ¬ mp (16 * i + k) = 0)))
    (h : ∀ no', cx_u no0 no' (fun d => (d ≠ 0 ∧ Q d) ∨ (d = 0 ∧ ¬ z = 0)) → post (cap, cnt, anc, up, fl, ls, lf, la, lr, el, ml, al, ll, pa, mp, su, ex, no')) : ∀ (d k : Nat) (no : Nat → Int32), k + d = 16 → 1 ≤ k →
    (∀ d, d < 16 → ∀ v, v < 32 → (bt (no d) v = true ↔ bt (no0 d) v = true ∨ (v = d ∧ d < k ∧ d ≠ 0 ∧ Q d))) → wX_openAnyPolicy_37 post (nI i) z C om cap cnt anc up fl ls lf la lr el ml al ll (d + 1) (nI k) pa mp su ex no := by
  intro d
  induction d with
  | zero =>
    intro k no hk k1 H
    obtain rfl : k = 16 := by omega
    refine br_t (by decide) (br_c (fun hz => h no ?_) (fun hz => nm_e (h _ ?_)))
    · intro d hd v hv
      rw [H d hd v hv]
      constructor
      · rintro (a | ⟨a, b, c, e⟩)
        · exact Or.inl a
        · exact Or.inr ⟨a, Or.inl ⟨c, e⟩⟩
      · rintro (a | ⟨a, ⟨c, e⟩ | ⟨c, e⟩⟩)
        · exact Or.inl a
        · exact Or.inr ⟨a, hd, c, e⟩
        · exact absurd hz e
    · intro d hd v hv
      by_cases e0 : d = 0
      · subst e0
        rw [pk_us, cx_or0 hv, H 0 hd v hv]
        constructor
        · rintro ((a | ⟨_, _, c, _⟩) | a)
          · exact Or.inl a
          · exact absurd rfl c
          · exact Or.inr ⟨a, Or.inr ⟨rfl, hz⟩⟩
        · rintro (a | ⟨a, _⟩)
          · exact Or.inl (Or.inl a)
          · exact Or.inr a
      · rw [pk_un e0, H d hd v hv]
        constructor
        · rintro (a | ⟨a, b, c, e⟩)
          · exact Or.inl a
          · exact Or.inr ⟨a, Or.inl ⟨c, e⟩⟩
        · rintro (a | ⟨a, ⟨c, e⟩ | ⟨c, e⟩⟩)
          · exact Or.inl a
          · exact Or.inr ⟨a, hd, c, e⟩
          · exact absurd c e0
  | succ d ih =>
    intro k no hk k1 H
    have nxt : ¬ Q k → wX_openAnyPolicy_37 post (nI i) z C om cap cnt anc up fl ls lf la lr el ml al ll (d + 1) (nI (k + 1)) pa mp su ex no := by
      intro hq
      refine ih (k + 1) no (by omega) (by omega) fun d hd v hv => ?_
      rw [H d hd v hv]
      constructor
      · rintro (a | ⟨a, b, c, e⟩)
        · exact Or.inl a
        · exact Or.inr ⟨a, by omega, c, e⟩
      · rintro (a | ⟨a, b, c, e⟩)
        · exact Or.inl a
        · by_cases ek : d = k
          · subst ek; exact absurd e hq
          · exact Or.inr ⟨a, by omega, c, e⟩
    have hit : Q k → wX_openAnyPolicy_80 post (wX_openAnyPolicy_37 post (nI i) z C om cap cnt anc up fl ls lf la lr el ml al ll (d + 1)) (nI i) z C om (nI k) cap cnt anc up fl ls lf la lr el ml al ll pa mp su ex no := by
      intro hq
      refine ⟨vp_in_nI (by omega) (by omega), vp_in_nI (by omega) (by omega), nm_r (by rw [nI_clamp (by omega)]) (nm_r (nI_1 k) (ih (k + 1) (upd no k (no k ||| ((1 : Int32) <<< (nI k &&& 31)))) (by omega) (by omega) fun d hd v hv => ?_))⟩
      by_cases ek : d = k
      · subst ek
        rw [pk_us, cx_or1 (by omega) hv, H d hd v hv]
        constructor
        · rintro ((a | ⟨a, b, c, e⟩) | a)
          · exact Or.inl a
          · omega
          · exact Or.inr ⟨a, by omega, by omega, hq⟩
        · rintro (a | ⟨a, b, c, e⟩)
          · exact Or.inl (Or.inl a)
          · exact Or.inr a
      · rw [pk_un ek, H d hd v hv]
        constructor
        · rintro (a | ⟨a, b, c, e⟩)
          · exact Or.inl a
          · exact Or.inr ⟨a, by omega, c, e⟩
        · rintro (a | ⟨a, b, c, e⟩)
          · exact Or.inl a
          · exact Or.inr ⟨a, by omega, c, e⟩
    refine br_f (nI_ge (b := 16) (by omega) (by decide)) (br_c (fun hb => ?_) (fun hb => ?_))
    · have hb' := (cq_bx C (by omega)).mp hb
      unfold wX_openAnyPolicy_58
      refine br_t rfl (br_c (fun ho => nm_r (nI_1 k) (nxt ?_)) (fun ho => x_targets hi (by omega) (br_c (fun ht => nm_r (nI_1 k) (nxt ?_)) (fun ht => hit ((hQ k).mpr (Or.inr ⟨ho, ht⟩))))))
      · rw [hQ, hb']
        rintro (a | a)
        · exact absurd a (by decide)
        · exact a.1 ho
      · rw [hQ, hb']
        rintro (a | a)
        · exact absurd a (by decide)
        · exact a.2 ht
    · have hb' := cq_nf.mp (mt (cq_bx C (by omega)).mpr hb)
      unfold wX_openAnyPolicy_58
      exact br_f (by decide) (hit ((hQ k).mpr (Or.inl hb')))
theorem x_open {post : St2 → Prop} {i n : Nat} (hi : i < n) (hn : n ≤ 8) {z : Int32} {an : Prop} (hz : z = 0 ↔ ¬ an)
    (h : ∀ no', cx_u no no' (fun d => (d ≠ 0 ∧ (bt (pa (12 * i + 6)) d = true ∨ (an ∧ cp_op n ml i ∧ ¬ mp (16 * i + d) = 0))) ∨ (d = 0 ∧ an)) → post (cap, (nI n), anc, up, fl, ls, lf, la, lr, el, ml, al, ll, pa, mp, su, ex, no')) : wpX_openAnyPolicy post (cap, (nI n), anc, up, fl, ls, lf, la, lr, el, ml, al, ll, pa, mp, su, ex, no) (nI i) z := by
  unfold wpX_openAnyPolicy
  have key : ∀ om : Int32, (om = 0 ↔ ¬ (an ∧ cp_op n ml i)) → ∃ n37 : Nat, wX_openAnyPolicy_37 post (nI i) z (pa (12 * i + 6)) om cap (nI n) anc up fl ls lf la lr el ml al ll n37 1 pa mp su ex no := by
    intro om hom
    refine ⟨16, x_openL (by omega) (Q := fun k => bt (pa (12 * i + 6)) k = true ∨ (¬ om = 0 ∧ ¬ mp (16 * i + k) = 0)) (no0 := no) (fun k => Iff.rfl) (fun no' hu => h no' ?_) 15 1 no rfl (by omega) ?_⟩
    · intro d hd v hv
      rw [hu d hd v hv, hz, hom]
      dsimp only
      rw [Classical.not_not, Classical.not_not, and_assoc]
    · intro d hd v hv
      constructor
      · exact Or.inl
      · rintro (a | ⟨a, b, c, e⟩)
        · exact a
        · omega
  refine x_part (f := 6) (by omega) (by decide) (br_c (fun h0 => key 0 ⟨fun _ a => hz.mp h0 a.1, fun _ => rfl⟩) (fun h0 => x_leaf hi hn (fun hl => br_f (by decide) (key 0 ⟨fun _ a => a.2.1 hl, fun _ => rfl⟩)) (fun hl => br_t rfl (br_c (fun hm => key 0 ⟨fun _ a => absurd a.2.2 (Int32.not_lt.mpr hm), fun _ => rfl⟩) (fun hm => key 1 ⟨fun a => absurd a (by decide), fun a => absurd ⟨Classical.byContradiction fun b => h0 (hz.mpr b), hl, Int32.not_le.mp hm⟩ a⟩)))))
theorem x_fillL {post : St2 → Prop} {i n : Nat} (hi : i < n) (hn : n ≤ 8) {z kept : Int32} {an : Prop} (hz : z = 0 ↔ ¬ an) (hk : cx_k an (pa (12 * i + 6)) kept) {S : Nat → Nat → Prop} (hS : cx_R ex S)
    (h : ∀ no', cx_R no' (cp_N S (pa (12 * i + 6)) an (cp_op n ml i) (fun v => mp (16 * i + v))) → post (cap, (nI n), anc, up, fl, ls, lf, la, lr, el, ml, al, ll, pa, mp, su, ex, no')) : ∀ (d k : Nat) (no : Nat → Int32), k + d = 16 →
    (∀ j, j < k → no j = (ex j &&& kept) &&& (-2)) → wX_fillNodes_23 post (nI i) z kept cap (nI n) anc up fl ls lf la lr el ml al ll (d + 1) (nI k) pa mp su ex no := by
  intro d
  induction d with
  | zero =>
    intro k no hk' H
    obtain rfl : k = 16 := by omega
    refine br_t (by decide) (br_c (fun h0 => h no (cx_N hS hk H ?_)) (fun h0 => x_open hi hn hz (fun no' hu => h no' (cx_N hS hk H ?_))))
    · have s0 : ¬ S 0 0 := by
        intro hs
        have := (hS 0 (by omega) 0 (by omega)).mpr ⟨by omega, hs⟩
        rw [(cq_b0 _).mp h0] at this
        exact absurd this (by decide)
      intro d hd v hv
      constructor
      · exact Or.inl
      · rintro (a | ⟨_, a, _⟩)
        · exact a
        · exact absurd a s0
    · have s0 : S 0 0 := ((hS 0 (by omega) 0 (by omega)).mp (cq_nf.mp (mt (cq_b0 _).mpr h0))).2
      intro d hd v hv
      rw [hu d hd v hv]
      constructor
      · rintro (a | ⟨a, b⟩)
        · exact Or.inl a
        · exact Or.inr ⟨a, s0, b⟩
      · rintro (a | ⟨a, _, b⟩)
        · exact Or.inl a
        · exact Or.inr ⟨a, b⟩
  | succ d ih =>
    intro k no hk' H
    refine br_f (nI_ge (b := 16) (by omega) (by decide)) ⟨vp_in_nI (by omega) (by omega), vp_in_nI (by omega) (by omega), nm_r (by rw [nI_clamp (by omega)]) (nm_r (nI_1 k) (ih (k + 1) (upd no k ((ex k &&& kept) &&& (-2))) (by omega) fun j hj => ?_))⟩
    by_cases e : j = k
    · subst e; exact pk_us
    · rw [pk_un e]; exact H j (by omega)
theorem x_fill {post : St2 → Prop} {i n : Nat} (hi : i < n) (hn : n ≤ 8) {z : Int32} {an : Prop} (hz : z = 0 ↔ ¬ an) {S : Nat → Nat → Prop} (hS : cx_R ex S)
    (h : ∀ no', cx_R no' (cp_N S (pa (12 * i + 6)) an (cp_op n ml i) (fun v => mp (16 * i + v))) → post (cap, (nI n), anc, up, fl, ls, lf, la, lr, el, ml, al, ll, pa, mp, su, ex, no')) : wpX_fillNodes post (cap, (nI n), anc, up, fl, ls, lf, la, lr, el, ml, al, ll, pa, mp, su, ex, no) (nI i) z := by
  unfold wpX_fillNodes
  exact x_part (f := 6) (by omega) (by decide) (br_c (fun h0 => ⟨17, x_fillL hi hn hz (Or.inr ⟨hz.mp h0, rfl⟩) hS h 16 0 no rfl (fun j hj => absurd hj (by omega))⟩)
    (fun h0 => ⟨17, x_fillL hi hn hz (Or.inl ⟨Classical.byContradiction fun b => h0 (hz.mpr b), rfl⟩) hS h 16 0 no rfl (fun j hj => absurd hj (by omega))⟩))
theorem x_mappedL {post : Int32 → Prop} {i : Nat} (hi : i < 8) {held : Int32} (h : ∀ r, cx_t ml (fun v => mp (16 * i + v)) held 16 r → post r) : ∀ (d k : Nat) (r : Int32), k + d = 16 → 1 ≤ k →
    cx_t ml (fun v => mp (16 * i + v)) held k r → wX_mapped_7 post (nI i) held cap cnt anc up fl ls lf la lr el ml al ll pa mp su ex no (d + 1) r (nI k) := by
  intro d
  induction d with
  | zero =>
    intro k r hk k1 H
    obtain rfl : k = 16 := by omega
    exact br_t (by decide) (h r H)
  | succ d ih =>
    intro k r hk k1 H
    refine br_f (nI_ge (b := 16) (by omega) (by decide)) (br_c (fun hb => nm_r (nI_1 k) (ih (k + 1) r (by omega) (by omega) (cx_tn H fun a => ?_))) (fun hb => ?_))
    · rw [(cq_bx held (by omega)).mp hb] at a
      exact absurd a (by decide)
    · have hb' := cq_nf.mp (mt (cq_bx held (by omega)).mpr hb)
      refine x_targets hi (by omega) (br_c (fun ht => nm_e (nm_r (nI_1 k) (ih (k + 1) _ (by omega) (by omega) (cx_tv (by omega) (by omega) H hb' ht)))) (fun ht => br_c (fun hm => nm_r (nI_1 k) (ih (k + 1) r (by omega) (by omega) (cx_tn H fun _ => ⟨ht, Int32.not_lt.mpr hm⟩))) (fun hm => nm_e (nm_r (nI_1 k) (ih (k + 1) _ (by omega) (by omega) ?_)))))
      exact cx_tt (T := fun v => mp (16 * i + v)) (by omega) H hb' ht (Int32.not_le.mp hm)
theorem x_mapped {post : Int32 → Prop} {i : Nat} (hi : i < 8) {held : Int32} (h : ∀ r, cx_t ml (fun v => mp (16 * i + v)) held 16 r → post r) : wpX_mapped post (cap, cnt, anc, up, fl, ls, lf, la, lr, el, ml, al, ll, pa, mp, su, ex, no) (nI i) held := by
  unfold wpX_mapped
  exact nm_e ⟨16, x_mappedL hi h 15 1 _ rfl (by omega) cx_t1⟩
theorem x_next22 {post : Int32 → Prop} {i f : Nat} (hi : i < 8) (hf : f < 12) {y : Int32} (h : post (if 0 ≤ pa (12 * i + f) ∧ pa (12 * i + f) < y then pa (12 * i + f) else y)) : wX_nextCounter_22 post (nI i) (nI f) y cap cnt anc up fl ls lf la lr el ml al ll pa mp su ex no := by
  unfold wX_nextCounter_22
  refine x_part hi hf (br_c (fun a => ?_) (fun a => br_c (fun b => ?_) (fun b => ?_)))
  · rw [if_neg (fun c => absurd c.1 (Int32.not_le.mpr a))] at h; exact h
  · rw [if_neg (fun c => absurd c.2 (Int32.not_lt.mpr b))] at h; exact h
  · rw [if_pos ⟨Int32.not_lt.mp a, Int32.not_le.mp b⟩] at h; exact h
theorem x_next {post : Int32 → Prop} {i f : Nat} (hi : i < 8) (hf : f < 12) {c : Int32} (h : post (cp_nx (pa (12 * i)) (pa (12 * i + 1)) c (pa (12 * i + f)))) : wpX_nextCounter post (cap, cnt, anc, up, fl, ls, lf, la, lr, el, ml, al, ll, pa, mp, su, ex, no) c (nI i) (nI f) := by
  unfold wpX_nextCounter
  unfold cp_nx at h
  refine br_c (fun a => ?_) (fun a => x_self hi (fun b => br_f (by decide) ?_) (fun b => br_t rfl (nm_e ?_)))
  · have e : (if 0 < c ∧ ¬ pa (12 * i) = pa (12 * i + 1) then c - 1 else c) = c := if_neg (fun q => absurd q.1 (Int32.not_lt.mpr a))
    rw [e] at h
    exact x_next22 hi hf h
  · have e : (if 0 < c ∧ ¬ pa (12 * i) = pa (12 * i + 1) then c - 1 else c) = c := if_neg (fun q => q.2 b)
    rw [e] at h
    exact x_next22 hi hf h
  · have e : (if 0 < c ∧ ¬ pa (12 * i) = pa (12 * i + 1) then c - 1 else c) = c - 1 := if_pos ⟨Int32.not_le.mp a, b⟩
    rw [e] at h
    exact x_next22 hi hf h
theorem x_prepL {post : St2 → Prop} {i : Nat} (hi : i < 8) {N : Nat → Nat → Prop} (hN : cx_R no N) (hT : ∀ j, cp_T (mp j))
    (h : ∀ ex', cx_R ex' (cp_S N ml (fun v => mp (16 * i + v))) → post (cap, cnt, anc, up, fl, ls, lf, la, lr, (cp_nx (pa (12 * i)) (pa (12 * i + 1)) el (pa (12 * i + 7))), (cp_nx (pa (12 * i)) (pa (12 * i + 1)) ml (pa (12 * i + 8))), (cp_nx (pa (12 * i)) (pa (12 * i + 1)) al (pa (12 * i + 9))), (cp_nx (pa (12 * i)) (pa (12 * i + 1)) ll (pa (12 * i + 5))), pa, mp, su, ex', no)) :
    ∀ (d k : Nat) (ex : Nat → Int32), k + d = 16 → (∀ j, j < k → cx_t ml (fun v => mp (16 * i + v)) (no j) 16 (ex j)) → wX_prepareNext_2 post (nI i) cap cnt anc up fl ls lf la lr el ml al ll (d + 1) (nI k) pa mp su ex no := by
  intro d
  induction d with
  | zero =>
    intro k ex hk H
    obtain rfl : k = 16 := by omega
    exact br_t (by decide) (x_next (f := 5) hi (by decide) (x_next (f := 7) hi (by decide) (x_next (f := 8) hi (by decide) (x_next (f := 9) hi (by decide) (h ex (cx_S (fun v => hT _) hN H))))))
  | succ d ih =>
    intro k ex hk H
    refine br_f (nI_ge (b := 16) (by omega) (by decide)) ⟨vp_in_nI (by omega) (by omega), x_mapped hi (fun r hr => ⟨vp_in_nI (by omega) (by omega), nm_r (by rw [nI_clamp (by omega)]) (nm_r (nI_1 k) (ih (k + 1) (upd ex k r) (by omega) fun j hj => ?_))⟩)⟩
    rw [nI_clamp (by omega)] at hr
    by_cases e : j = k
    · subst e; rw [pk_us]; exact hr
    · rw [pk_un e]; exact H j (by omega)
theorem x_prep {post : St2 → Prop} {i : Nat} (hi : i < 8) {N : Nat → Nat → Prop} (hN : cx_R no N) (hT : ∀ j, cp_T (mp j))
    (h : ∀ ex', cx_R ex' (cp_S N ml (fun v => mp (16 * i + v))) → post (cap, cnt, anc, up, fl, ls, lf, la, lr, (cp_nx (pa (12 * i)) (pa (12 * i + 1)) el (pa (12 * i + 7))), (cp_nx (pa (12 * i)) (pa (12 * i + 1)) ml (pa (12 * i + 8))), (cp_nx (pa (12 * i)) (pa (12 * i + 1)) al (pa (12 * i + 9))), (cp_nx (pa (12 * i)) (pa (12 * i + 1)) ll (pa (12 * i + 5))), pa, mp, su, ex', no)) : wpX_prepareNext post (cap, cnt, anc, up, fl, ls, lf, la, lr, el, ml, al, ll, pa, mp, su, ex, no) (nI i) :=
  ⟨17, x_prepL hi hN hT h 16 0 ex rfl (fun j hj => absurd hj (by omega))⟩
theorem x_accept {post : Int32 → Prop} {R : Int32} (h : post (cp_F up R)) : wpX_acceptedOf post (cap, cnt, anc, up, fl, ls, lf, la, lr, el, ml, al, ll, pa, mp, su, ex, no) R := by
  unfold wpX_acceptedOf
  unfold cp_F at h
  refine br_c (fun a => br_c (fun b => ?_) (fun b => ?_)) (fun a => ?_)
  · rw [if_pos a, if_pos b] at h; exact h
  · rw [if_pos a, if_neg b] at h; exact h
  · rw [if_neg a] at h; exact h
theorem x_wrap30 {post : Int32 → St2 → Prop} {n : Nat} {z : Int32} {Q : Prop} (hz : z = 0 ↔ ¬ Q) {N : Nat → Nat → Prop} (hN : cx_R no N)
    (h : ∀ R, cp_R N R → ((Q ∧ cp_F up R = 0 → post 5 (cap, cnt, anc, up, fl, 5, (nI (n - 1)), 0, 0, el, ml, al, ll, pa, mp, su, ex, no)) ∧ (¬ (Q ∧ cp_F up R = 0) → post 0 (cap, cnt, anc, up, fl, 0, (-1), (cp_F up R), R, el, ml, al, ll, pa, mp, su, ex, no)))) : wX_wrapUp_30 post (nI (n - 1)) z cap cnt anc up fl ls lf la lr el ml al ll pa mp su ex no := by
  unfold wX_wrapUp_30
  refine x_auth hN (fun R hR => x_accept (br_c (fun a => (h R hR).2 (fun c => hz.mp a c.1)) (fun a => br_c (fun b => (h R hR).1 ⟨Classical.byContradiction fun c => a (hz.mpr c), b⟩) (fun b => (h R hR).2 (fun c => b c.2)))))
theorem x_wrap {post : Int32 → St2 → Prop} {n : Nat} (h1 : 1 ≤ n) (hn : n ≤ 8) {N : Nat → Nat → Prop} (hN : cx_R no N)
    (h : cp_W pa up n (fun s x F R => post s (cap, (nI n), anc, up, fl, s, x, F, R, el, ml, al, ll, pa, mp, su, ex, no)) el N) : wpX_wrapUp post (cap, (nI n), anc, up, fl, ls, lf, la, lr, el, ml, al, ll, pa, mp, su, ex, no) := by
  unfold wpX_wrapUp
  have e : nI n - 1 = nI (n - 1) := by
    obtain ⟨m, rfl⟩ : ∃ m, n = m + 1 := ⟨n - 1, by omega⟩
    exact nI_pred m
  refine nm_r e (br_c (fun a => ?_) (fun a => x_part (f := 7) (by omega) (by decide) (br_c (fun b => ?_) (fun b => ?_))))
  · exact x_wrap30 (Q := el ≤ 1 ∨ pa (12 * (n - 1) + 7) = 0) ⟨fun z => absurd z (by decide), fun z => absurd (Or.inl a) z⟩ hN h
  · exact x_wrap30 (Q := el ≤ 1 ∨ pa (12 * (n - 1) + 7) = 0) ⟨fun z => absurd z (by decide), fun z => absurd (Or.inr b) z⟩ hN h
  · exact x_wrap30 (Q := el ≤ 1 ∨ pa (12 * (n - 1) + 7) = 0) ⟨fun _ z => z.elim a b, fun _ => rfl⟩ hN h
end XP
end
section
section XW
variable {cap cnt anc up fl ls lf la lr el ml al ll : Int32} {pa mp su ex no : Nat → Int32}
/-! X: validate -/
theorem x_c121 {post : Int32 → St2 → Prop} {i n : Nat} (hi : i < n) (hn : n ≤ 8) {z : Int32} (hz : z = 0 ↔ ¬ cp_an pa n al i) {S : Nat → Nat → Prop} (hS : cx_R ex S)
    (h : ∀ no', cx_R no' (cp_NN pa mp n i ml al S) → ((el = 0 ∧ cp_em (cp_NN pa mp n i ml al S) → post 5 (cap, (nI n), anc, up, fl, ls, lf, la, lr, el, ml, al, ll, pa, mp, su, ex, no')) ∧ (¬ (el = 0 ∧ cp_em (cp_NN pa mp n i ml al S)) → post 0 (cap, (nI n), anc, up, fl, ls, lf, la, lr, el, ml, al, ll, pa, mp, su, ex, no')))) :
    wX_checkCert_121 post (nI i) z cap (nI n) anc up fl ls lf la lr el ml al ll pa mp su ex no := by
  unfold wX_checkCert_121
  refine x_fill hi hn hz hS (fun no' hN => br_c (fun e0 => x_auth hN (fun R hR => br_c (fun r0 => (h no' hN).1 ⟨e0, (cp_R0 hR).mp r0⟩) (fun r0 => (h no' hN).2 (fun q => r0 ((cp_R0 hR).mpr q.2))))) (fun e0 => (h no' hN).2 (fun q => e0 q.1)))
theorem x_c92 {post : Int32 → St2 → Prop} {i n : Nat} (hi : i < n) (hn : n ≤ 8) {z : Int32} (hz : z = 0 ↔ ¬ cp_ex pa n i) {S : Nat → Nat → Prop} (hS : cx_R ex S)
    (h : ∀ no', cx_R no' (cp_NN pa mp n i ml al S) → ((el = 0 ∧ cp_em (cp_NN pa mp n i ml al S) → post 5 (cap, (nI n), anc, up, fl, ls, lf, la, lr, el, ml, al, ll, pa, mp, su, ex, no')) ∧ (¬ (el = 0 ∧ cp_em (cp_NN pa mp n i ml al S)) → post 0 (cap, (nI n), anc, up, fl, ls, lf, la, lr, el, ml, al, ll, pa, mp, su, ex, no')))) :
    wX_checkCert_92 post (nI i) z cap (nI n) anc up fl ls lf la lr el ml al ll pa mp su ex no := by
  unfold wX_checkCert_92
  refine x_part (f := 6) (by omega) (by decide) (br_c (fun b0 => x_c121 hi hn ⟨fun _ q => ?_, fun _ => rfl⟩ hS h) (fun b0 => br_c (fun a0 => x_c121 hi hn ⟨fun q => absurd q (by decide), fun q => ?_⟩ hS h) (fun a0 => br_c (fun x0 => x_c121 hi hn ⟨fun _ q => ?_, fun _ => rfl⟩ hS h) (fun x0 => x_c121 hi hn ⟨fun q => absurd q (by decide), fun q => ?_⟩ hS h))))
  · have q1 := q.1
    rw [(cq_b0 _).mp b0] at q1
    exact absurd q1 (by decide)
  · exact absurd ⟨cq_nf.mp (mt (cq_b0 _).mpr b0), Or.inl a0⟩ q
  · exact q.2.elim a0 (hz.mp x0)
  · exact absurd ⟨cq_nf.mp (mt (cq_b0 _).mpr b0), Or.inr (Classical.byContradiction fun c => x0 (hz.mpr c))⟩ q
theorem x_c75 {post : Int32 → St2 → Prop} {i n : Nat} (hi : i < n) (hn : n ≤ 8) (hK : cp_K pa) {z : Int32} (hz : z = 0 ↔ ¬ cp_ex pa n i) {S : Nat → Nat → Prop} (hS : cx_R ex S)
    (h : ((¬ cp_ex pa n i ∧ cp_bad pa su i) → post 4 (cap, (nI n), anc, up, fl, ls, lf, la, lr, el, ml, al, ll, pa, mp, su, ex, no)) ∧ (¬ (¬ cp_ex pa n i ∧ cp_bad pa su i) →
      ∀ no', cx_R no' (cp_NN pa mp n i ml al S) → ((el = 0 ∧ cp_em (cp_NN pa mp n i ml al S) → post 5 (cap, (nI n), anc, up, fl, ls, lf, la, lr, el, ml, al, ll, pa, mp, su, ex, no')) ∧ (¬ (el = 0 ∧ cp_em (cp_NN pa mp n i ml al S)) → post 0 (cap, (nI n), anc, up, fl, ls, lf, la, lr, el, ml, al, ll, pa, mp, su, ex, no'))))) :
    wX_checkCert_75 post (nI i) z cap (nI n) anc up fl ls lf la lr el ml al ll pa mp su ex no := by
  unfold wX_checkCert_75
  exact br_c (fun z0 => x_bad (by omega) hK (fun hb => br_f (by decide) (h.1 ⟨hz.mp z0, hb⟩)) (fun hb => br_t rfl (x_c92 hi hn hz hS (h.2 (fun q => hb q.2))))) (fun z0 => x_c92 hi hn hz hS (h.2 (fun q => z0 (hz.mpr q.1))))
theorem x_c41 {post : Int32 → St2 → Prop} {i n : Nat} (hi : i < n) (hn : n ≤ 8) (hK : cp_K pa) {w : Int32} (hw : w = cp_want pa anc i) {S : Nat → Nat → Prop} (hS : cx_R ex S)
    (h : ((¬ pa (12 * i) = cp_want pa anc i) → post 3 (cap, (nI n), anc, up, fl, ls, lf, la, lr, el, ml, al, ll, pa, mp, su, ex, no)) ∧ (¬ (¬ pa (12 * i) = cp_want pa anc i) →
      ((¬ cp_ex pa n i ∧ cp_bad pa su i) → post 4 (cap, (nI n), anc, up, fl, ls, lf, la, lr, el, ml, al, ll, pa, mp, su, ex, no)) ∧ (¬ (¬ cp_ex pa n i ∧ cp_bad pa su i) →
      ∀ no', cx_R no' (cp_NN pa mp n i ml al S) → ((el = 0 ∧ cp_em (cp_NN pa mp n i ml al S) → post 5 (cap, (nI n), anc, up, fl, ls, lf, la, lr, el, ml, al, ll, pa, mp, su, ex, no')) ∧ (¬ (el = 0 ∧ cp_em (cp_NN pa mp n i ml al S)) → post 0 (cap, (nI n), anc, up, fl, ls, lf, la, lr, el, ml, al, ll, pa, mp, su, ex, no')))))) :
    wX_checkCert_41 post (nI i) w cap (nI n) anc up fl ls lf la lr el ml al ll pa mp su ex no := by
  unfold wX_checkCert_41
  subst hw
  refine x_part (f := 0) (by omega) (by decide) (br_c (fun e => ?_) (fun e => h.1 e))
  have h' := h.2 (fun q => q e)
  refine x_self (by omega) (fun s => br_f (by decide) (x_leaf hi hn (fun l => br_f (by decide) ?_) (fun l => br_t rfl ?_))) (fun s => br_t rfl ?_)
  · exact x_c75 hi hn hK ⟨fun _ q => q.2 l, fun _ => rfl⟩ hS h'
  · exact x_c75 hi hn hK ⟨fun q => absurd q (by decide), fun q => absurd ⟨s, l⟩ q⟩ hS h'
  · exact x_c75 hi hn hK ⟨fun _ q => s q.1, fun _ => rfl⟩ hS h'
theorem x_check {post : Int32 → St2 → Prop} {i n : Nat} (hi : i < n) (hn : n ≤ 8) (hK : cp_K pa) {tm : Int32} {S : Nat → Nat → Prop} (hS : cx_R ex S)
    (h : ((tm < pa (12 * i + 2) ∨ pa (12 * i + 3) < tm) → post 2 (cap, (nI n), anc, up, fl, ls, lf, la, lr, el, ml, al, ll, pa, mp, su, ex, no)) ∧ (¬ (tm < pa (12 * i + 2) ∨ pa (12 * i + 3) < tm) →
      ((¬ pa (12 * i) = cp_want pa anc i) → post 3 (cap, (nI n), anc, up, fl, ls, lf, la, lr, el, ml, al, ll, pa, mp, su, ex, no)) ∧ (¬ (¬ pa (12 * i) = cp_want pa anc i) →
      ((¬ cp_ex pa n i ∧ cp_bad pa su i) → post 4 (cap, (nI n), anc, up, fl, ls, lf, la, lr, el, ml, al, ll, pa, mp, su, ex, no)) ∧ (¬ (¬ cp_ex pa n i ∧ cp_bad pa su i) →
      ∀ no', cx_R no' (cp_NN pa mp n i ml al S) → ((el = 0 ∧ cp_em (cp_NN pa mp n i ml al S) → post 5 (cap, (nI n), anc, up, fl, ls, lf, la, lr, el, ml, al, ll, pa, mp, su, ex, no')) ∧ (¬ (el = 0 ∧ cp_em (cp_NN pa mp n i ml al S)) → post 0 (cap, (nI n), anc, up, fl, ls, lf, la, lr, el, ml, al, ll, pa, mp, su, ex, no'))))))) :
    wpX_checkCert post (cap, (nI n), anc, up, fl, ls, lf, la, lr, el, ml, al, ll, pa, mp, su, ex, no) (nI i) tm := by
  unfold wpX_checkCert
  refine x_part (f := 2) (by omega) (by decide) (br_c (fun a => h.1 (Or.inl a)) (fun a => x_part (f := 3) (by omega) (by decide) (br_c (fun b => ?_) (fun b => h.1 (Or.inr (Int32.not_le.mp b))))))
  have h' := h.2 (fun q => q.elim a (Int32.not_lt.mpr b))
  refine pk_eq i 0 (fun e => ?_) (fun e => ?_)
  · exact x_c41 hi hn hK (by rw [e]; rfl) hS h'
  · obtain ⟨m, rfl⟩ : ∃ m, i = m + 1 := ⟨i - 1, by omega⟩
    rw [nI_pred]
    exact x_part (f := 1) (by omega) (by decide) (x_c41 hi hn hK rfl hS h')
theorem x_issuing {post : Int32 → Prop} {i : Nat} (hi : i < 8)
    (h : (pa (12 * i + 4) &&& 1 = 0 → post 6) ∧ (¬ pa (12 * i + 4) &&& 1 = 0 →
      ((¬ cp_self pa i ∧ ll = 0) → post 7) ∧ (¬ (¬ cp_self pa i ∧ ll = 0) →
      ((¬ pa (12 * i + 4) &&& 2 = 0 ∧ pa (12 * i + 4) &&& 4 = 0) → post 8) ∧ (¬ (¬ pa (12 * i + 4) &&& 2 = 0 ∧ pa (12 * i + 4) &&& 4 = 0) → post 0)))) : wpX_checkIssuing post (cap, cnt, anc, up, fl, ls, lf, la, lr, el, ml, al, ll, pa, mp, su, ex, no) (nI i) := by
  unfold wpX_checkIssuing
  have k : ¬ pa (12 * i + 4) &&& 1 = 0 → ¬ (¬ cp_self pa i ∧ ll = 0) → wX_checkIssuing_34 post (pa (12 * i + 4)) cap cnt anc up fl ls lf la lr el ml al ll pa mp su ex no := by
    intro a b
    have h' := (h.2 a).2 b
    exact br_c (fun c => h'.2 (fun q => q.1 c)) (fun c => br_c (fun d => h'.1 ⟨c, d⟩) (fun d => h'.2 (fun q => d q.2)))
  exact x_part (f := 4) hi (by decide) (br_c (fun a => h.1 a) (fun a => x_self hi (fun s => br_f (by decide) (k a (fun q => q.1 s))) (fun s => br_t rfl (br_c (fun m => (h.2 a).1 ⟨s, m⟩) (fun m => k a (fun q => m q.2))))))
/-- a fault found: kept -/
theorem x_v58f {post : Int32 → St2 → Prop} {J : Int32 → Int32 → Int32 → Int32 → Int32 → Int32 → Int32 → Int32 → Int32 → Int32 → Int32 → Int32 → Int32 → Int32 → (Nat → Int32) → (Nat → Int32) → (Nat → Int32) → (Nat → Int32) → (Nat → Int32) → Prop} {x1 x2 x3 s : Int32} (hs : ¬ s = 0)
    (h : post s (cap, cnt, anc, up, fl, s, x3, 0, 0, el, ml, al, ll, pa, mp, su, ex, no)) : wX_validate_58 post J x1 x2 x3 s cap cnt anc up fl ls lf la lr el ml al ll pa mp su ex no := by
  unfold wX_validate_58
  exact br_f hs (x_keep h)
theorem x_valL {post : Int32 → St2 → Prop} {n : Nat} (hn : n ≤ 8) (hK : cp_K pa) (hT : ∀ j, cp_T (mp j)) {tm : Int32} :
    ∀ (d i : Nat) (el ml al ll : Int32) (ex no : Nat → Int32) (S : Nat → Nat → Prop), i + d = n → 1 ≤ d → cx_R ex S →
    cp_V pa mp su anc up tm n (fun s x F R => ∀ el ml al ll ex no, post s (cap, (nI n), anc, up, fl, s, x, F, R, el, ml, al, ll, pa, mp, su, ex, no)) d i el ml al ll S →
    wX_validate_25 post tm (nI n) (d + 1) (nI i) cap (nI n) anc up fl ls lf la lr el ml al ll pa mp su ex no := by
  intro d
  induction d with
  | zero => intro i el ml al ll ex no S h1 h2; omega
  | succ d ih =>
    intro i el ml al ll ex no S h1 h2 hS hV
    refine br_f (nI_ge (by omega) (by omega)) ?_
    unfold cp_V at hV
    refine x_check (by omega) hn hK hS ⟨fun c1 => ?_, fun c1 => ⟨fun c2 => ?_, fun c2 => ⟨fun c3 => ?_, fun c3 no' hN => ⟨fun c4 => ?_, fun c4 => ?_⟩⟩⟩⟩
    · exact br_f (by decide) (x_v58f (by decide) (hV.1 c1 _ _ _ _ _ _))
    · exact br_f (by decide) (x_v58f (by decide) ((hV.2 c1).1 c2 _ _ _ _ _ _))
    · exact br_f (by decide) (x_v58f (by decide) (((hV.2 c1).2 c2).1 c3 _ _ _ _ _ _))
    · exact br_f (by decide) (x_v58f (by decide) ((((hV.2 c1).2 c2).2 c3).1 c4 _ _ _ _ _ _))
    · have hV' := (((hV.2 c1).2 c2).2 c3).2 c4
      refine br_t rfl (x_leaf (by omega) hn (fun l => br_f (by decide) ?_) (fun l => br_t rfl (x_issuing (by omega) ⟨fun c6 => ?_, fun c6 => ⟨fun c7 => ?_, fun c7 => ⟨fun c8 => ?_, fun c8 => ?_⟩⟩⟩)))
      · unfold wX_validate_58
        refine br_t rfl (x_leaf (by omega) hn (fun _ => br_f (by decide) (nm_r (nI_1 i) ?_)) (fun l' => absurd l l'))
        obtain rfl : d = 0 := by omega
        refine br_t (nI_le (by omega) (by omega)) (x_wrap (by omega) hn hN ?_)
        intro R hR
        exact ⟨fun q => (hV'.1 l R hR).1 q _ _ _ _ _ _, fun q => (hV'.1 l R hR).2 q _ _ _ _ _ _⟩
      · exact x_v58f (by decide) ((hV'.2 l).1 c6 _ _ _ _ _ _)
      · exact x_v58f (by decide) (((hV'.2 l).2 c6).1 c7 _ _ _ _ _ _)
      · exact x_v58f (by decide) ((((hV'.2 l).2 c6).2 c7).1 c8 _ _ _ _ _ _)
      · unfold wX_validate_58
        refine br_t rfl (x_leaf (by omega) hn (fun l' => absurd l' l) (fun _ => br_t rfl (x_prep (by omega) hN hT (fun ex' hE => nm_r (nI_1 i) ?_))))
        exact ih (i + 1) _ _ _ _ ex' no' _ (by omega) (by omega) hE ((((hV'.2 l).2 c6).2 c7).2 c8)
theorem x_val {post : Int32 → St2 → Prop} {n : Nat} (h1 : 1 ≤ n) (hn : n ≤ 8) (hK : cp_K pa) (hT : ∀ j, cp_T (mp j)) {tm : Int32}
    (h : cp_V pa mp su anc up tm n (fun s x F R => ∀ el ml al ll ex no, post s (cap, (nI n), anc, up, fl, s, x, F, R, el, ml, al, ll, pa, mp, su, ex, no)) n 0 (cp_c0 fl 1 n) (cp_c0 fl 2 n) (cp_c0 fl 4 n) (nI n) cp_S0) : wpX_validate post (cap, (nI n), anc, up, fl, ls, lf, la, lr, el, ml, al, ll, pa, mp, su, ex, no) tm := by
  unfold wpX_validate
  refine br_f (nI_ne0 (by omega) (by omega)) (x_start (fun ex' hE => ⟨n + 1, ?_⟩))
  exact x_valL hn hK hT n 0 _ _ _ _ ex' no _ (by omega) h1 hE h
end XW
end
section
/-! how the arrays of Y follow those of X -/
theorem cp_aS {pa : Nat → Int32} {n f : Nat} {y : Int32} : cp_a (upd pa (12 * n + f) y) f = upd (cp_a pa f) n y := by
  funext c
  unfold cp_a upd
  by_cases e : c = n
  · subst e; rw [if_pos rfl, if_pos rfl]
  · rw [if_neg (by omega), if_neg e]
theorem cp_aN {pa : Nat → Int32} {n f k : Nat} {y : Int32} (h : k ≠ f) (hk : k < 12) (hf : f < 12) : cp_a (upd pa (12 * n + f) y) k = cp_a pa k := by
  funext c
  unfold cp_a upd
  rw [if_neg (by omega)]
theorem cp_aC {pa q : Nat → Int32} {n k : Nat} (hk : k < 12) (h : ∀ j, q j = if 12 * n ≤ j ∧ j < 12 * n + 12 then 0 else pa j) : cp_a q k = upd (cp_a pa k) n 0 := by
  funext c
  unfold cp_a upd
  rw [h]
  by_cases e : c = n
  · subst e; rw [if_pos (by omega), if_pos rfl]
  · rw [if_neg (by omega), if_neg e]
theorem cp_uu {g : Nat → Int32} {n : Nat} {x y : Int32} : upd (upd g n x) n y = upd g n y := by
  funext c
  unfold upd
  by_cases e : c = n
  · rw [if_pos e, if_pos e]
  · rw [if_neg e, if_neg e, if_neg e]
theorem cp_spS {su : Nat → Int32} {c kd K : Nat} {y : Int32} (hK : K < 4) (hkd : kd < 2) : cp_sp (upd su (8 * c + 4 * kd + K) y) kd = upd (cp_sp su kd) (4 * c + K) y := by
  funext j
  unfold cp_sp upd
  by_cases e : j = 4 * c + K
  · rw [if_pos (by omega), if_pos e]
  · rw [if_neg (by omega), if_neg e]
theorem cp_spN {su : Nat → Int32} {c kd kd' K : Nat} {y : Int32} (hK : K < 4) (hkd : kd < 2) (hkd' : kd' < 2) (h : kd' ≠ kd) : cp_sp (upd su (8 * c + 4 * kd + K) y) kd' = cp_sp su kd' := by
  funext j
  unfold cp_sp upd
  rw [if_neg (by omega)]
/-! what the relation holds of the arrays -/
def cp_Inv (pa mp su : Nat → Int32) : Prop := (∀ c, cp_nm (pa (12 * c + 1))) ∧ cp_K pa ∧ (∀ j, cp_T (mp j)) ∧ (∀ j, cp_nm (su j))
theorem cp_Inv0 : cp_Inv (fun _ => 0) (fun _ => 0) (fun _ => 0) :=
  ⟨fun _ => cp_nm0, fun _ _ _ => ⟨0, by omega, rfl⟩, fun _ t _ h => by rw [b_0] at h; exact absurd h (by decide), fun _ => cp_nm0⟩
theorem cp_InvN {pa mp su : Nat → Int32} {c f : Nat} {y : Int32} (h : cp_Inv pa mp su) (hf : f < 12) (h1 : f ≠ 1) (h2 : f < 10) : cp_Inv (upd pa (12 * c + f) y) mp su := by
  refine ⟨fun d => ?_, fun d kd hkd => ?_, h.2.2.1, h.2.2.2⟩
  · rw [pk_un (by omega)]; exact h.1 d
  · rw [pk_un (by omega)]; exact h.2.1 d kd hkd
theorem cp_Inv1 {pa mp su : Nat → Int32} {c : Nat} {y : Int32} (h : cp_Inv pa mp su) (hy : cp_nm y) : cp_Inv (upd pa (12 * c + 1) y) mp su := by
  refine ⟨fun d => ?_, fun d kd hkd => ?_, h.2.2.1, h.2.2.2⟩
  · by_cases e : d = c
    · subst e; rw [pk_us]; exact hy
    · rw [pk_un (by omega)]; exact h.1 d
  · rw [pk_un (by omega)]; exact h.2.1 d kd hkd
theorem cp_InvK {pa mp su : Nat → Int32} {c kd K : Nat} (h : cp_Inv pa mp su) (hkd : kd < 2) (hK : K ≤ 4) : cp_Inv (upd pa (12 * c + (10 + kd)) (nI K)) mp su := by
  refine ⟨fun d => ?_, fun d kd' hkd' => ?_, h.2.2.1, h.2.2.2⟩
  · rw [pk_un (by omega)]; exact h.1 d
  · by_cases e : 12 * d + (10 + kd') = 12 * c + (10 + kd)
    · rw [e, pk_us]; exact ⟨K, hK, rfl⟩
    · rw [pk_un e]; exact h.2.1 d kd' hkd'
theorem cp_InvC {pa q mp mp' su : Nat → Int32} {n : Nat} (h : cp_Inv pa mp su) (hq : ∀ j, q j = if 12 * n ≤ j ∧ j < 12 * n + 12 then 0 else pa j) (hm : ∀ j, mp' j = if 16 * n ≤ j ∧ j < 16 * n + 16 then 0 else mp j) : cp_Inv q mp' su := by
  refine ⟨fun d => ?_, fun d kd hkd => ?_, fun j => ?_, h.2.2.2⟩
  · rw [hq]
    split
    · exact cp_nm0
    · exact h.1 d
  · rw [hq]
    split
    · exact ⟨0, by omega, rfl⟩
    · exact h.2.1 d kd hkd
  · rw [hm]
    split
    · exact cp_Inv0.2.2.1 0
    · exact h.2.2.1 j
theorem cp_InvT {pa mp su : Nat → Int32} {j t : Nat} (h : cp_Inv pa mp su) (h1 : 1 ≤ t) (h2 : t ≤ 15) : cp_Inv pa (upd mp j (mp j ||| ((1 : Int32) <<< (nI t &&& 31)))) su := by
  refine ⟨h.1, h.2.1, fun q => ?_, h.2.2.2⟩
  by_cases e : q = j
  · subst e
    rw [pk_us]
    intro v hv hb
    rcases (cx_or1 (by omega) hv).mp hb with a | a
    · exact h.2.2.1 q v hv a
    · omega
  · rw [pk_un e]; exact h.2.2.1 q
theorem cp_InvS {pa mp su : Nat → Int32} {j : Nat} {y : Int32} (h : cp_Inv pa mp su) (hy : cp_nm y) : cp_Inv pa mp (upd su j y) := by
  refine ⟨h.1, h.2.1, h.2.2.1, fun q => ?_⟩
  by_cases e : q = j
  · subst e; rw [pk_us]; exact hy
  · rw [pk_un e]; exact h.2.2.2 q
theorem cp_neL {a x : Int32} {P : Prop} (h : x < a) (q : a ≤ x) : P := absurd q (Int32.not_le.mpr h)
theorem cp_neR {a x : Int32} {P : Prop} (h : a ≤ x) (q : x < a) : P := absurd q (Int32.not_lt.mpr h)
section XC
variable {cap cnt anc up fl ls lf la lr el ml al ll : Int32} {pa mp su ex no : Nat → Int32}
/-! X: the calls -/
theorem x_setAnchor {post : Int32 → St2 → Prop} {x : Int32} (h1 : cp_nm x → post 1 (cap, cnt, x, up, fl, (-1), (-1), 0, 0, el, ml, al, ll, pa, mp, su, ex, no)) (h0 : ¬ cp_nm x → post 0 (cap, cnt, anc, up, fl, ls, lf, la, lr, el, ml, al, ll, pa, mp, su, ex, no)) : wpX_setAnchor post (cap, cnt, anc, up, fl, ls, lf, la, lr, el, ml, al, ll, pa, mp, su, ex, no) x := by
  unfold wpX_setAnchor
  exact x_isName (fun h => br_f (by decide) (x_reset (h1 h))) (fun h => br_t rfl (h0 h))
theorem x_setInitial {post : Int32 → St2 → Prop} {a b : Int32} (h1 : (0 ≤ a ∧ a ≤ 65535) ∧ (0 ≤ b ∧ b ≤ 7) → post 1 (cap, cnt, anc, a, b, (-1), (-1), 0, 0, el, ml, al, ll, pa, mp, su, ex, no)) (h0 : ¬ ((0 ≤ a ∧ a ≤ 65535) ∧ (0 ≤ b ∧ b ≤ 7)) → post 0 (cap, cnt, anc, up, fl, ls, lf, la, lr, el, ml, al, ll, pa, mp, su, ex, no)) : wpX_setInitial post (cap, cnt, anc, up, fl, ls, lf, la, lr, el, ml, al, ll, pa, mp, su, ex, no) a b := by
  unfold wpX_setInitial
  exact x_inRange (fun ha => br_f (by decide) (x_inRange (fun hb => br_f (by decide) (x_reset (h1 ⟨ha, hb⟩))) (fun hb => br_t rfl (h0 (fun q => hb q.2))))) (fun ha => br_t rfl (h0 (fun q => ha q.1)))
theorem x_clear54 {post : St2 → Prop} {c : Nat} (hc : c < 8) {m0 : Nat → Int32} (h : ∀ mp, (∀ j, mp j = if 16 * c ≤ j ∧ j < 16 * c + 16 then 0 else m0 j) → post (cap, cnt, anc, up, fl, ls, lf, la, lr, el, ml, al, ll, pa, mp, su, ex, no)) : ∀ (d k : Nat) (mp : Nat → Int32), k + d = 16 →
    (∀ j, mp j = if 16 * c ≤ j ∧ j < 16 * c + k then 0 else m0 j) → wX_clearCert_54 post (nI c) cap cnt anc up fl ls lf la lr el ml al ll (d + 1) (nI k) pa mp su ex no := by
  intro d
  induction d with
  | zero =>
    intro k mp hk H
    obtain rfl : k = 16 := by omega
    exact br_t (by decide) (h mp H)
  | succ d ih =>
    intro k mp hk H
    refine br_f (nI_ge (b := 16) (by omega) (by decide)) ?_
    have e : nI c * 16 + nI k = nI (16 * c + k) := x_ix
    rw [e, nI_clamp (by omega)]
    refine ⟨vp_in_nI (by omega) (by omega), nm_e (nm_r (nI_1 k) (ih (k + 1) _ (by omega) fun j => ?_))⟩
    by_cases ej : j = 16 * c + k
    · subst ej; rw [pk_us, if_pos (by omega)]
    · rw [pk_un ej, H j]
      by_cases e2 : 16 * c ≤ j ∧ j < 16 * c + k
      · rw [if_pos e2, if_pos (by omega)]
      · rw [if_neg e2, if_neg (by omega)]
theorem x_clear2 {post : St2 → Prop} {c : Nat} (hc : c < 8) {p0 : Nat → Int32}
    (h : ∀ pa mp', (∀ j, pa j = if 12 * c ≤ j ∧ j < 12 * c + 12 then 0 else p0 j) → (∀ j, mp' j = if 16 * c ≤ j ∧ j < 16 * c + 16 then 0 else mp j) → post (cap, cnt, anc, up, fl, ls, lf, la, lr, el, ml, al, ll, (upd (upd (upd (upd pa (12 * c + 5) (-1)) (12 * c + 7) (-1)) (12 * c + 8) (-1)) (12 * c + 9) (-1)), mp', su, ex, no)) :
    ∀ (d k : Nat) (pa : Nat → Int32), k + d = 12 → (∀ j, pa j = if 12 * c ≤ j ∧ j < 12 * c + k then 0 else p0 j) → wX_clearCert_2 post (nI c) (d + 1) (nI k) cap cnt anc up fl ls lf la lr el ml al ll pa mp su ex no := by
  intro d
  induction d with
  | zero =>
    intro k pa hk H
    obtain rfl : k = 12 := by omega
    refine br_t (by decide) (x_setPart (f := 5) hc (by decide) (x_setPart (f := 7) hc (by decide) (x_setPart (f := 8) hc (by decide) (x_setPart (f := 9) hc (by decide) ⟨17, ?_⟩))))
    refine x_clear54 hc (m0 := mp) (fun mp' h' => h pa mp' H h') 16 0 mp rfl (fun j => ?_)
    rw [if_neg (by omega)]
  | succ d ih =>
    intro k pa hk H
    refine br_f (nI_ge (b := 12) (by omega) (by decide)) (x_setPart (f := k) hc (by omega) (nm_r (nI_1 k) (ih (k + 1) _ (by omega) fun j => ?_)))
    by_cases ej : j = 12 * c + k
    · subst ej; rw [pk_us, if_pos (by omega)]
    · rw [pk_un ej, H j]
      by_cases e2 : 12 * c ≤ j ∧ j < 12 * c + k
      · rw [if_pos e2, if_pos (by omega)]
      · rw [if_neg e2, if_neg (by omega)]
theorem x_clear {post : St2 → Prop} {c : Nat} (hc : c < 8)
    (h : ∀ q mp', (∀ j, q j = if 12 * c ≤ j ∧ j < 12 * c + 12 then 0 else pa j) → (∀ j, mp' j = if 16 * c ≤ j ∧ j < 16 * c + 16 then 0 else mp j) → post (cap, cnt, anc, up, fl, ls, lf, la, lr, el, ml, al, ll, (upd (upd (upd (upd q (12 * c + 5) (-1)) (12 * c + 7) (-1)) (12 * c + 8) (-1)) (12 * c + 9) (-1)), mp', su, ex, no)) : wpX_clearCert post (cap, cnt, anc, up, fl, ls, lf, la, lr, el, ml, al, ll, pa, mp, su, ex, no) (nI c) := by
  unfold wpX_clearCert
  refine ⟨13, x_clear2 hc (p0 := pa) h 12 0 pa rfl (fun j => ?_)⟩
  rw [if_neg (by omega)]
theorem x_addCert {post : Int32 → St2 → Prop} {kp n : Nat} (h8 : kp ≤ 8) (hnk : n ≤ kp) {a b c d : Int32}
    (h1 : n < kp ∧ cp_nm a ∧ cp_nm b → ∀ q mp', (∀ j, q j = if 12 * n ≤ j ∧ j < 12 * n + 12 then 0 else pa j) → (∀ j, mp' j = if 16 * n ≤ j ∧ j < 16 * n + 16 then 0 else mp j) →
      post (nI n) ((nI kp), (nI (n + 1)), anc, up, fl, (-1), (-1), 0, 0, el, ml, al, ll, (upd (upd (upd (upd (upd (upd (upd (upd q (12 * n + 5) (-1)) (12 * n + 7) (-1)) (12 * n + 8) (-1)) (12 * n + 9) (-1)) (12 * n + 0) a) (12 * n + 1) b) (12 * n + 2) c) (12 * n + 3) d), mp', su, ex, no))
    (h0 : ¬ (n < kp ∧ cp_nm a ∧ cp_nm b) → post (-1) ((nI kp), (nI n), anc, up, fl, ls, lf, la, lr, el, ml, al, ll, pa, mp, su, ex, no)) : wpX_addCert post ((nI kp), (nI n), anc, up, fl, ls, lf, la, lr, el, ml, al, ll, pa, mp, su, ex, no) a b c d := by
  unfold wpX_addCert
  refine pk_le kp n (fun hk => h0 (fun q => by omega)) (fun hk => x_isName (fun ha => br_f (by decide) (x_isName (fun hb => br_f (by decide) ?_) (fun hb => br_t rfl (h0 (fun q => hb q.2.2))))) (fun ha => br_t rfl (h0 (fun q => ha q.2.1))))
  refine x_clear (by omega) (fun q mp' hq hm => x_setPart (f := 0) (by omega) (by decide) (x_setPart (f := 1) (by omega) (by decide) (x_setPart (f := 2) (by omega) (by decide) (x_setPart (f := 3) (by omega) (by decide) (nm_r (nI_1 n) (x_reset (h1 ⟨hk, ha, hb⟩ q mp' hq hm)))))))
theorem x_setBasicN {post : Int32 → St2 → Prop} {n : Nat} (hn : n ≤ 8) {x f p : Int32} (hx : ¬ (0 ≤ x ∧ x < nI n)) (h : post 0 (cap, (nI n), anc, up, fl, ls, lf, la, lr, el, ml, al, ll, pa, mp, su, ex, no)) : wpX_setBasic post (cap, (nI n), anc, up, fl, ls, lf, la, lr, el, ml, al, ll, pa, mp, su, ex, no) x f p := by
  unfold wpX_setBasic
  exact x_isCert hn (fun q => absurd q hx) (fun _ => br_t rfl h)
theorem x_setBasic {post : Int32 → St2 → Prop} {n c : Nat} (hn : n ≤ 8) (hc : c < n) {f p : Int32} (h1 : (0 ≤ f ∧ f ≤ 7) ∧ (-1 ≤ p ∧ p ≤ 15) → post 1 (cap, (nI n), anc, up, fl, (-1), (-1), 0, 0, el, ml, al, ll, (upd (upd pa (12 * c + 4) f) (12 * c + 5) p), mp, su, ex, no))
    (h0 : ¬ ((0 ≤ f ∧ f ≤ 7) ∧ (-1 ≤ p ∧ p ≤ 15)) → post 0 (cap, (nI n), anc, up, fl, ls, lf, la, lr, el, ml, al, ll, pa, mp, su, ex, no)) : wpX_setBasic post (cap, (nI n), anc, up, fl, ls, lf, la, lr, el, ml, al, ll, pa, mp, su, ex, no) (nI c) f p := by
  unfold wpX_setBasic
  refine x_isCert hn (fun _ => br_f (by decide) (x_inRange (fun hf => br_f (by decide) (x_isNum (fun hp => br_f (by decide) ?_) (fun hp => br_t rfl (h0 (fun q => hp q.2))))) (fun hf => br_t rfl (h0 (fun q => hf q.1))))) (fun q => absurd ⟨nI_pos' (by omega), nI_lt hc (by omega)⟩ q)
  exact x_setPart (f := 4) (by omega) (by decide) (x_setPart (f := 5) (by omega) (by decide) (x_reset (h1 ⟨hf, hp⟩)))
theorem x_addPolicyN {post : Int32 → St2 → Prop} {n : Nat} (hn : n ≤ 8) {x p : Int32} (hx : ¬ (0 ≤ x ∧ x < nI n)) (h : post 0 (cap, (nI n), anc, up, fl, ls, lf, la, lr, el, ml, al, ll, pa, mp, su, ex, no)) : wpX_addPolicy post (cap, (nI n), anc, up, fl, ls, lf, la, lr, el, ml, al, ll, pa, mp, su, ex, no) x p := by
  unfold wpX_addPolicy
  exact x_isCert hn (fun q => absurd q hx) (fun _ => br_t rfl h)
theorem x_addPolicy {post : Int32 → St2 → Prop} {n c : Nat} (hn : n ≤ 8) (hc : c < n) {p : Int32} (h1 : (0 ≤ p ∧ p ≤ 15) → post 1 (cap, (nI n), anc, up, fl, (-1), (-1), 0, 0, el, ml, al, ll, (upd pa (12 * c + 6) (pa (12 * c + 6) ||| ((1 : Int32) <<< (p &&& 31)))), mp, su, ex, no))
    (h0 : ¬ (0 ≤ p ∧ p ≤ 15) → post 0 (cap, (nI n), anc, up, fl, ls, lf, la, lr, el, ml, al, ll, pa, mp, su, ex, no)) : wpX_addPolicy post (cap, (nI n), anc, up, fl, ls, lf, la, lr, el, ml, al, ll, pa, mp, su, ex, no) (nI c) p := by
  unfold wpX_addPolicy
  refine x_isCert hn (fun _ => br_f (by decide) (x_inRange (fun hp => br_f (by decide) ?_) (fun hp => br_t rfl (h0 hp)))) (fun q => absurd ⟨nI_pos' (by omega), nI_lt hc (by omega)⟩ q)
  exact x_part (f := 6) (by omega) (by decide) (x_setPart (f := 6) (by omega) (by decide) (x_reset (h1 hp)))
theorem x_addMappingN {post : Int32 → St2 → Prop} {n : Nat} (hn : n ≤ 8) {x s t : Int32} (hx : ¬ (0 ≤ x ∧ x < nI n)) (h : post 0 (cap, (nI n), anc, up, fl, ls, lf, la, lr, el, ml, al, ll, pa, mp, su, ex, no)) : wpX_addMapping post (cap, (nI n), anc, up, fl, ls, lf, la, lr, el, ml, al, ll, pa, mp, su, ex, no) x s t := by
  unfold wpX_addMapping
  exact x_isCert hn (fun q => absurd q hx) (fun _ => br_t rfl h)
theorem x_addMapping {post : Int32 → St2 → Prop} {n c : Nat} (hn : n ≤ 8) (hc : c < n) {s t : Int32} (h1 : ∀ s' t' : Nat, s = nI s' → t = nI t' → 1 ≤ s' ∧ s' ≤ 15 → 1 ≤ t' ∧ t' ≤ 15 → post 1 (cap, (nI n), anc, up, fl, (-1), (-1), 0, 0, el, ml, al, ll, pa, (upd mp (16 * c + s') (mp (16 * c + s') ||| ((1 : Int32) <<< (nI t' &&& 31)))), su, ex, no))
    (h0 : ¬ ((1 ≤ s ∧ s ≤ 15) ∧ (1 ≤ t ∧ t ≤ 15)) → post 0 (cap, (nI n), anc, up, fl, ls, lf, la, lr, el, ml, al, ll, pa, mp, su, ex, no)) : wpX_addMapping post (cap, (nI n), anc, up, fl, ls, lf, la, lr, el, ml, al, ll, pa, mp, su, ex, no) (nI c) s t := by
  unfold wpX_addMapping
  refine x_isCert hn (fun _ => br_f (by decide) (x_isSpec (fun hs => br_f (by decide) (x_isSpec (fun ht => br_f (by decide) ?_) (fun ht => br_t rfl (h0 (fun q => ht q.2))))) (fun hs => br_t rfl (h0 (fun q => hs q.1))))) (fun q => absurd ⟨nI_pos' (by omega), nI_lt hc (by omega)⟩ q)
  obtain ⟨s', s1, s2, rfl⟩ := x_rng (a := 1) (b := 15) (by omega) hs (by omega)
  obtain ⟨t', t1, t2, rfl⟩ := x_rng (a := 1) (b := 15) (by omega) ht (by omega)
  have e : nI c * 16 + nI s' = nI (16 * c + s') := x_ix
  rw [e, nI_clamp (by omega)]
  have v : vp_in (nI (16 * c + s')) 128 := vp_in_nI (by omega) (by omega)
  exact ⟨v, v, nm_e (x_reset (h1 s' t' rfl rfl ⟨s1, s2⟩ ⟨t1, t2⟩))⟩
theorem x_setPCN {post : Int32 → St2 → Prop} {n : Nat} (hn : n ≤ 8) {x a b d : Int32} (hx : ¬ (0 ≤ x ∧ x < nI n)) (h : post 0 (cap, (nI n), anc, up, fl, ls, lf, la, lr, el, ml, al, ll, pa, mp, su, ex, no)) : wpX_setPolicyConstraints post (cap, (nI n), anc, up, fl, ls, lf, la, lr, el, ml, al, ll, pa, mp, su, ex, no) x a b d := by
  unfold wpX_setPolicyConstraints
  exact x_isCert hn (fun q => absurd q hx) (fun _ => br_t rfl h)
theorem x_setPC {post : Int32 → St2 → Prop} {n c : Nat} (hn : n ≤ 8) (hc : c < n) {a b d : Int32} (h1 : (-1 ≤ a ∧ a ≤ 15) ∧ (-1 ≤ b ∧ b ≤ 15) ∧ (-1 ≤ d ∧ d ≤ 15) → post 1 (cap, (nI n), anc, up, fl, (-1), (-1), 0, 0, el, ml, al, ll, (upd (upd (upd pa (12 * c + 7) a) (12 * c + 8) b) (12 * c + 9) d), mp, su, ex, no))
    (h0 : ¬ ((-1 ≤ a ∧ a ≤ 15) ∧ (-1 ≤ b ∧ b ≤ 15) ∧ (-1 ≤ d ∧ d ≤ 15)) → post 0 (cap, (nI n), anc, up, fl, ls, lf, la, lr, el, ml, al, ll, pa, mp, su, ex, no)) : wpX_setPolicyConstraints post (cap, (nI n), anc, up, fl, ls, lf, la, lr, el, ml, al, ll, pa, mp, su, ex, no) (nI c) a b d := by
  unfold wpX_setPolicyConstraints
  refine x_isCert hn (fun _ => br_f (by decide) (x_isNum (fun ha => br_f (by decide) (x_isNum (fun hb => br_f (by decide) (x_isNum (fun hd => br_f (by decide) ?_) (fun hd => br_t rfl (h0 (fun q => hd q.2.2))))) (fun hb => br_t rfl (h0 (fun q => hb q.2.1))))) (fun ha => br_t rfl (h0 (fun q => ha q.1))))) (fun q => absurd ⟨nI_pos' (by omega), nI_lt hc (by omega)⟩ q)
  exact x_setPart (f := 7) (by omega) (by decide) (x_setPart (f := 8) (by omega) (by decide) (x_setPart (f := 9) (by omega) (by decide) (x_reset (h1 ⟨ha, hb, hd⟩))))
theorem x_addSubtreeN {post : Int32 → St2 → Prop} {n : Nat} (hn : n ≤ 8) {x kd nm : Int32} (hx : ¬ ((0 ≤ x ∧ x < nI n) ∧ (kd = 0 ∨ kd = 1) ∧ cp_nm nm)) (h : post 0 (cap, (nI n), anc, up, fl, ls, lf, la, lr, el, ml, al, ll, pa, mp, su, ex, no)) : wpX_addSubtree post (cap, (nI n), anc, up, fl, ls, lf, la, lr, el, ml, al, ll, pa, mp, su, ex, no) x kd nm := by
  unfold wpX_addSubtree
  exact x_isCert hn (fun q => br_f (by decide) (x_isKind (fun r => br_f (by decide) (x_isName (fun s => absurd ⟨q, r, s⟩ hx) (fun _ => br_t rfl h))) (fun _ => br_t rfl h))) (fun _ => br_t rfl h)
theorem x_addSubtree {post : Int32 → St2 → Prop} {n c kd K : Nat} (hn : n ≤ 8) (hc : c < n) (hkd : kd < 2) (hK : K ≤ 4) (hp : pa (12 * c + (10 + kd)) = nI K) {nm : Int32} (hnm : cp_nm nm)
    (h1 : K < 4 → post 1 (cap, (nI n), anc, up, fl, (-1), (-1), 0, 0, el, ml, al, ll, (upd pa (12 * c + (10 + kd)) (nI (K + 1))), mp, (upd su (8 * c + 4 * kd + K) nm), ex, no))
    (h0 : ¬ K < 4 → post 0 (cap, (nI n), anc, up, fl, ls, lf, la, lr, el, ml, al, ll, pa, mp, su, ex, no)) : wpX_addSubtree post (cap, (nI n), anc, up, fl, ls, lf, la, lr, el, ml, al, ll, pa, mp, su, ex, no) (nI c) (nI kd) nm := by
  unfold wpX_addSubtree
  have kk : nI kd = 0 ∨ nI kd = 1 := by
    have : kd = 0 ∨ kd = 1 := by omega
    rcases this with rfl | rfl
    · exact Or.inl rfl
    · exact Or.inr rfl
  refine x_isCert hn (fun _ => br_f (by decide) (x_isKind (fun _ => br_f (by decide) (x_isName (fun _ => br_f (by decide) (x_subCnt (by omega) hkd ?_)) (fun q => absurd hnm q))) (fun q => absurd kk q))) (fun q => absurd ⟨nI_pos' (by omega), nI_lt hc (by omega)⟩ q)
  rw [hp]
  refine pk_lt K 4 (fun k4 => x_first ?_) (fun k4 => h0 (by omega))
  have e : nI (8 * c + 4 * kd) + nI K = nI (8 * c + 4 * kd + K) := nI_add _ _
  have e2 : 10 + nI kd = nI (10 + kd) := nI_add 10 kd
  rw [e, nI_clamp (by omega), e2, nI_1]
  exact ⟨vp_in_nI (by omega) (by omega), nm_e (x_setPart (f := 10 + kd) (by omega) (by omega) (x_reset (h1 k4)))⟩
end XC
end
section
/-! small whole numbers as ints -/
def iI (z : Int) : Int32 := Int32.ofInt z
theorem iI_ti {z : Int} (h1 : -1000 ≤ z) (h2 : z ≤ 1000) : (iI z).toInt = z := Int32.toInt_ofInt_of_le (by omega) (by omega)
theorem iI_le {a b : Int} (a1 : -1000 ≤ a) (a2 : a ≤ 1000) (b1 : -1000 ≤ b) (b2 : b ≤ 1000) : iI a ≤ iI b ↔ a ≤ b := by
  rw [Int32.le_iff_toInt_le, iI_ti a1 a2, iI_ti b1 b2]
theorem iI_lt {a b : Int} (a1 : -1000 ≤ a) (a2 : a ≤ 1000) (b1 : -1000 ≤ b) (b2 : b ≤ 1000) : iI a < iI b ↔ a < b := by
  rw [Int32.lt_iff_toInt_lt, iI_ti a1 a2, iI_ti b1 b2]
theorem iI_eq {a b : Int} (a1 : -1000 ≤ a) (a2 : a ≤ 1000) (b1 : -1000 ≤ b) (b2 : b ≤ 1000) : iI a = iI b ↔ a = b := by
  constructor
  · intro h
    have := congrArg Int32.toInt h
    rw [iI_ti a1 a2, iI_ti b1 b2] at this
    exact this
  · intro h; rw [h]
theorem iI_sub {a b : Int} (a1 : -400 ≤ a) (a2 : a ≤ 400) (b1 : -400 ≤ b) (b2 : b ≤ 400) : iI a - iI b = iI (a - b) := by
  apply Int32.toInt_inj.mp
  rw [Int32.toInt_sub, iI_ti (by omega) (by omega), iI_ti (by omega) (by omega), iI_ti (by omega) (by omega)]
  exact Int.bmod_eq_of_le (by omega) (by omega)
theorem iI_n (n : Nat) (h : n ≤ 1000) : nI n = iI n := by
  apply Int32.toInt_inj.mp
  rw [nI_toInt (by omega), iI_ti (by omega) (by omega)]
theorem iI_of (x : Int32) : x = iI x.toInt := Int32.toInt_inj.mp (by
  show _ = (Int32.ofInt x.toInt).toInt
  rw [Int32.ofInt_toInt])
theorem iI_0 : (0 : Int32) = iI 0 := by decide
/-! how many certificates of [a, i) are not self-issued -/
def cw_v (pa : Nat → Int32) (m : Nat) : Nat := if pa (12 * m) = pa (12 * m + 1) then 0 else 1
def cw_c (pa : Nat → Int32) (a : Nat) : Nat → Nat
  | 0 => 0
  | i + 1 => cw_c pa a i + (if a ≤ i then cw_v pa i else 0)
theorem cw_v1 (pa : Nat → Int32) (m : Nat) : cw_v pa m ≤ 1 := by unfold cw_v; split <;> omega
theorem cw_cs {pa : Nat → Int32} {a i : Nat} (h : a ≤ i) : cw_c pa a (i + 1) = cw_c pa a i + cw_v pa i := by
  show cw_c pa a i + (if a ≤ i then cw_v pa i else 0) = _
  rw [if_pos h]
theorem cw_c0 {pa : Nat → Int32} {a : Nat} : ∀ i, i ≤ a → cw_c pa a i = 0 := by
  intro i
  induction i with
  | zero => intro _; rfl
  | succ i ih =>
    intro h
    show cw_c pa a i + (if a ≤ i then cw_v pa i else 0) = 0
    rw [ih (by omega), if_neg (by omega)]
theorem cw_cl {pa : Nat → Int32} {a : Nat} : ∀ i, cw_c pa a i ≤ i := by
  intro i
  induction i with
  | zero => exact Nat.le_refl 0
  | succ i ih =>
    show cw_c pa a i + (if a ≤ i then cw_v pa i else 0) ≤ i + 1
    have := cw_v1 pa i
    split <;> omega
theorem cw_ch {pa : Nat → Int32} {a : Nat} : ∀ i, a < i → cw_c pa a i = cw_v pa a + cw_c pa (a + 1) i := by
  intro i
  induction i with
  | zero => intro h; omega
  | succ i ih =>
    intro h
    rw [cw_cs (by omega)]
    by_cases e : a = i
    · subst e
      rw [cw_c0 a (Nat.le_refl a), cw_c0 (a + 1) (Nat.le_refl _)]
      omega
    · rw [ih (by omega), cw_cs (by omega)]
      omega
/-! a counter of the walk, and the law's reckoning of it -/
def cw_e (pa : Nat → Int32) (e0 : Int32) (f : Nat) : Nat → Int32
  | 0 => e0
  | i + 1 => cp_nx (pa (12 * i)) (pa (12 * i + 1)) (cw_e pa e0 f i) (pa (12 * i + f))
def cw_g (l : Nat → Int) (c : Nat → Nat → Nat) (e0 : Int) (i : Nat) : Nat → Int
  | 0 => e0 - c 0 i
  | k + 1 => if 0 ≤ l k ∧ l k - c (k + 1) i < cw_g l c e0 i k then l k - c (k + 1) i else cw_g l c e0 i k
theorem cw_gs {l : Nat → Int} {c : Nat → Nat → Nat} {v : Nat → Nat} {e0 : Int} {i : Nat} (hc : ∀ a, a ≤ i → c a (i + 1) = c a i + v i) : ∀ k, k ≤ i → cw_g l c e0 (i + 1) k = cw_g l c e0 i k - v i := by
  intro k
  induction k with
  | zero =>
    intro _
    show e0 - (c 0 (i + 1) : Int) = e0 - (c 0 i : Int) - v i
    rw [hc 0 (by omega)]
    omega
  | succ k ih =>
    intro hk
    have h1 := ih (by omega)
    have h2 := hc (k + 1) (by omega)
    show (if 0 ≤ l k ∧ l k - (c (k + 1) (i + 1) : Int) < cw_g l c e0 (i + 1) k then l k - (c (k + 1) (i + 1) : Int) else cw_g l c e0 (i + 1) k) = (if 0 ≤ l k ∧ l k - (c (k + 1) i : Int) < cw_g l c e0 i k then l k - (c (k + 1) i : Int) else cw_g l c e0 i k) - v i
    rw [h1, h2]
    split <;> split <;> omega
theorem cw_gb {l : Nat → Int} {c : Nat → Nat → Nat} {e0 : Int} {i : Nat} (h0 : 0 ≤ e0 ∧ e0 ≤ 9) (hc : ∀ a, c a i ≤ 8) : ∀ k, -8 ≤ cw_g l c e0 i k ∧ cw_g l c e0 i k ≤ 9 := by
  intro k
  induction k with
  | zero =>
    show -8 ≤ e0 - (c 0 i : Int) ∧ e0 - (c 0 i : Int) ≤ 9
    have := hc 0
    omega
  | succ k ih =>
    show -8 ≤ (if 0 ≤ l k ∧ l k - (c (k + 1) i : Int) < cw_g l c e0 i k then l k - (c (k + 1) i : Int) else cw_g l c e0 i k) ∧ (if 0 ≤ l k ∧ l k - (c (k + 1) i : Int) < cw_g l c e0 i k then l k - (c (k + 1) i : Int) else cw_g l c e0 i k) ≤ 9
    have := hc (k + 1)
    split <;> omega
def cw_m (z : Int) : Int := if 0 ≤ z then z else 0
/-- the limits are small -/
def cw_L (pa : Nat → Int32) : Prop := ∀ c f, f = 5 ∨ f = 7 ∨ f = 8 ∨ f = 9 → -1 ≤ (pa (12 * c + f)).toInt ∧ (pa (12 * c + f)).toInt ≤ 15
theorem cw_step {G L : Int} {v : Nat} {is su : Int32} (hv : v = if is = su then 0 else 1) (g1 : -8 ≤ G) (g2 : G ≤ 9) (l1 : -1 ≤ L) (l2 : L ≤ 15) :
    cp_nx is su (iI (cw_m G)) (iI L) = iI (cw_m (if 0 ≤ L ∧ L < G - v then L else G - v)) := by
  have m1 : 0 ≤ cw_m G ∧ cw_m G ≤ 9 := by unfold cw_m; split <;> omega
  have e1 : (if 0 < iI (cw_m G) ∧ ¬ is = su then iI (cw_m G) - 1 else iI (cw_m G)) = iI (cw_m (G - v)) := by
    by_cases h : is = su
    · rw [if_neg (fun q => q.2 h), hv, if_pos h]
      simp
    · rw [hv, if_neg h]
      have z : (0 : Int32) < iI (cw_m G) ↔ 0 < cw_m G := by rw [iI_0, iI_lt (by omega) (by omega) (by omega) (by omega)]
      by_cases hp : 0 < cw_m G
      · rw [if_pos ⟨z.mpr hp, h⟩]
        have o : (1 : Int32) = iI 1 := by decide
        rw [o, iI_sub (by omega) (by omega) (by omega) (by omega)]
        apply congrArg iI
        unfold cw_m at hp ⊢
        split at hp
        · rw [if_pos (by omega), if_pos (by omega)]; rfl
        · omega
      · rw [if_neg (fun q => hp (z.mp q.1))]
        apply congrArg iI
        unfold cw_m at hp ⊢
        split at hp
        · rw [if_pos (by omega)]
          split <;> omega
        · rw [if_neg (by omega)]
          split <;> omega
  have m2 : 0 ≤ cw_m (G - v) ∧ cw_m (G - v) ≤ 9 := by unfold cw_m; split <;> omega
  unfold cp_nx
  rw [e1]
  have a1 : (0 : Int32) ≤ iI L ↔ 0 ≤ L := by rw [iI_0, iI_le (by omega) (by omega) (by omega) (by omega)]
  have a2 : iI L < iI (cw_m (G - v)) ↔ L < cw_m (G - v) := iI_lt (by omega) (by omega) (by omega) (by omega)
  by_cases h : 0 ≤ L ∧ L < G - v
  · have h' : 0 ≤ L ∧ L < cw_m (G - v) := ⟨h.1, by unfold cw_m; rw [if_pos (by omega)]; exact h.2⟩
    rw [if_pos ⟨a1.mpr h'.1, a2.mpr h'.2⟩, if_pos h]
    apply congrArg iI
    unfold cw_m
    rw [if_pos h.1]
  · have h' : ¬ (0 ≤ L ∧ L < cw_m (G - v)) := by
      rintro ⟨q1, q2⟩
      unfold cw_m at q2
      split at q2
      · exact h ⟨q1, q2⟩
      · omega
    rw [if_neg (fun q => h' ⟨a1.mp q.1, a2.mp q.2⟩), if_neg h]
theorem cw_eg {pa : Nat → Int32} (hL : cw_L pa) {e0 : Int} (h0 : 0 ≤ e0 ∧ e0 ≤ 9) {f : Nat} (hf : f = 5 ∨ f = 7 ∨ f = 8 ∨ f = 9) : ∀ i, i ≤ 8 →
    cw_e pa (iI e0) f i = iI (cw_m (cw_g (fun k => (pa (12 * k + f)).toInt) (cw_c pa) e0 i i)) := by
  intro i
  induction i with
  | zero =>
    intro _
    show iI e0 = iI (cw_m (e0 - (cw_c pa 0 0 : Int)))
    rw [cw_c0 0 (Nat.le_refl 0)]
    apply congrArg iI
    unfold cw_m
    rw [if_pos (by omega)]
    omega
  | succ i ih =>
    intro hi
    have hb := cw_gb (l := fun k => (pa (12 * k + f)).toInt) (c := cw_c pa) (i := i) h0 (fun a => Nat.le_trans (cw_cl i) (by omega)) i
    have hs := cw_gs (l := fun k => (pa (12 * k + f)).toInt) (c := cw_c pa) (v := cw_v pa) (e0 := e0) (i := i) (fun a ha => cw_cs ha) i (Nat.le_refl i)
    have hl := hL i f hf
    show cp_nx (pa (12 * i)) (pa (12 * i + 1)) (cw_e pa (iI e0) f i) (pa (12 * i + f)) = iI (cw_m (if 0 ≤ (pa (12 * i + f)).toInt ∧ (pa (12 * i + f)).toInt - (cw_c pa (i + 1) (i + 1) : Int) < cw_g (fun k => (pa (12 * k + f)).toInt) (cw_c pa) e0 (i + 1) i then (pa (12 * i + f)).toInt - (cw_c pa (i + 1) (i + 1) : Int) else cw_g (fun k => (pa (12 * k + f)).toInt) (cw_c pa) e0 (i + 1) i))
    rw [ih (by omega), hs, cw_c0 (i + 1) (Nat.le_refl _)]
    have key := cw_step (G := cw_g (fun k => (pa (12 * k + f)).toInt) (cw_c pa) e0 i i) (L := (pa (12 * i + f)).toInt) (v := cw_v pa i) (is := pa (12 * i)) (su := pa (12 * i + 1)) rfl hb.1 hb.2 hl.1 hl.2
    rw [← iI_of] at key
    rw [key]
    simp
/-! the path length -/
theorem cw_len {pa : Nat → Int32} (hL : cw_L pa) {n : Nat} (hn : n ≤ 8) (h1 : 1 ≤ n) :
    (∀ j, j + 1 < n → ¬ (¬ cp_self pa j ∧ cw_e pa (nI n) 5 j = 0)) ↔ (∀ j, j + 1 < n → 0 ≤ (pa (12 * j + 5)).toInt → (cw_c pa (j + 1) (n - 1) : Int) ≤ (pa (12 * j + 5)).toInt) := by
  have hM : ∀ i, i ≤ 8 → ∃ M : Int, 0 ≤ M ∧ M ≤ 9 ∧ cw_e pa (nI n) 5 i = iI M := by
    intro i hi
    rw [iI_n n (by omega), cw_eg hL (by omega) (Or.inl rfl) i hi]
    have hb := cw_gb (l := fun k => (pa (12 * k + 5)).toInt) (c := cw_c pa) (e0 := (n : Int)) (i := i) (by omega) (fun a => Nat.le_trans (cw_cl i) (by omega)) i
    refine ⟨_, ?_, ?_, rfl⟩ <;> (unfold cw_m; split <;> omega)
  have hS : ∀ i, i + 1 ≤ 8 → ∀ M M' : Int, 0 ≤ M → M ≤ 9 → 0 ≤ M' → M' ≤ 9 → cw_e pa (nI n) 5 i = iI M → cw_e pa (nI n) 5 (i + 1) = iI M' → M' = cw_m (if 0 ≤ (pa (12 * i + 5)).toInt ∧ (pa (12 * i + 5)).toInt < M - cw_v pa i then (pa (12 * i + 5)).toInt else M - cw_v pa i) := by
    intro i hi M M' a1 a2 b1 b2 e1 e2
    have hl := hL i 5 (Or.inl rfl)
    have hv := cw_v1 pa i
    have key := cw_step (G := M) (L := (pa (12 * i + 5)).toInt) (v := cw_v pa i) (is := pa (12 * i)) (su := pa (12 * i + 1)) rfl (by omega) a2 hl.1 hl.2
    rw [← iI_of] at key
    have em : cw_m M = M := if_pos a1
    rw [em, ← e1] at key
    have k2 : iI M' = _ := e2.symm.trans key
    refine (iI_eq (by omega) (by omega) ?_ ?_).mp k2 <;> (unfold cw_m; split <;> (try split) <;> omega)
  have ns : ∀ j, ¬ cp_self pa j → cw_v pa j = 1 := fun j h => if_neg h
  have ss : ∀ j, cp_self pa j → cw_v pa j = 0 := fun j h => if_pos h
  constructor
  · intro H
    have inv : ∀ i, i + 1 ≤ n → ∀ k, k < i → 0 ≤ (pa (12 * k + 5)).toInt → ∀ M, 0 ≤ M → M ≤ 9 → cw_e pa (nI n) 5 i = iI M → M + (cw_c pa (k + 1) i : Int) ≤ (pa (12 * k + 5)).toInt := by
      intro i
      induction i with
      | zero => intro _ k hk; omega
      | succ i ih =>
        intro hi k hk hp M' b1 b2 e2
        obtain ⟨M, a1, a2, e1⟩ := hM i (by omega)
        have hs := hS i (by omega) M M' a1 a2 b1 b2 e1 e2
        have hv := cw_v1 pa i
        have hpos : cw_v pa i = 1 → 0 < M := by
          intro hv1
          have hns : ¬ cp_self pa i := fun q => by rw [ss i q] at hv1; omega
          have := H i (by omega)
          rw [e1, iI_0] at this
          have : ¬ M = 0 := fun q => this ⟨hns, by rw [q]⟩
          omega
        by_cases ek : k = i
        · subst ek
          rw [cw_c0 (k + 1) (Nat.le_refl _)]
          rw [hs]
          unfold cw_m
          split <;> split at * <;> omega
        · have hk' := ih (by omega) k (by omega) hp M a1 a2 e1
          rw [cw_cs (by omega), hs]
          unfold cw_m
          split <;> split at * <;> omega
    intro j hj hp
    obtain ⟨M, a1, a2, e1⟩ := hM (n - 1) (by omega)
    have := inv (n - 1) (by omega) j (by omega) hp M a1 a2 e1
    omega
  · intro H
    have inv : ∀ i, i + 1 ≤ n → ∀ M, 0 ≤ M → M ≤ 9 → cw_e pa (nI n) 5 i = iI M → (cw_c pa i (n - 1) : Int) ≤ M := by
      intro i
      induction i with
      | zero =>
        intro _ M a1 a2 e1
        have e1' : iI (n : Int) = iI M := by rw [← iI_n n (by omega)]; exact e1
        have : (n : Int) = M := (iI_eq (by omega) (by omega) (by omega) (by omega)).mp e1'
        have := cw_cl (pa := pa) (a := 0) (n - 1)
        omega
      | succ i ih =>
        intro hi M' b1 b2 e2
        obtain ⟨M, a1, a2, e1⟩ := hM i (by omega)
        have hs := hS i (by omega) M M' a1 a2 b1 b2 e1 e2
        have h2 := ih (by omega) M a1 a2 e1
        rw [cw_ch (n - 1) (by omega)] at h2
        have h3 := H i (by omega)
        rw [hs]
        unfold cw_m
        split <;> split at * <;> omega
    intro j hj
    rintro ⟨q1, q2⟩
    obtain ⟨M, a1, a2, e1⟩ := hM j (by omega)
    have h2 := inv j (by omega) M a1 a2 e1
    rw [cw_ch (n - 1) (by omega), ns j q1] at h2
    rw [e1, iI_0] at q2
    have := (iI_eq (by omega) (by omega) (by omega) (by omega)).mp q2
    omega
end
section
/-! the law's sets: masks of sixteen pairs -/
def cw_R (m : Int32) (S : Nat → Nat → Prop) : Prop := ∀ q, q < 32 → (bt m q = true ↔ q < 16 ∧ S (q / 4) (q % 4))
def cw_Z (S : Nat → Nat → Prop) : Prop := ∀ d v, d < 16 → v < 16 → S d v → d < 4 ∧ v < 4
def cw_ad (m0 m1 : Int32) (P : Nat → Prop) : Prop := ∀ j, j < 32 → (bt m1 j = true ↔ bt m0 j = true ∨ P j)
theorem cw_ad0 {m0 : Int32} {P : Nat → Prop} (h : ∀ j, ¬ P j) : cw_ad m0 m0 P := fun j _ => ⟨Or.inl, fun q => q.elim id (fun z => absurd z (h j))⟩
theorem cw_adn {m0 m1 : Int32} {P P' : Nat → Prop} (h : cw_ad m0 m1 P) (hp : ∀ j, P' j ↔ P j) : cw_ad m0 m1 P' := fun j hj => by rw [hp j]; exact h j hj
theorem cw_adh {m0 m1 : Int32} {P P' : Nat → Prop} {x : Nat} (hx : x < 32) (h : cw_ad m0 m1 P) (hp : ∀ j, P' j ↔ P j ∨ j = x) : cw_ad m0 (m1 ||| ((1 : Int32) <<< (nI x &&& 31))) P' := by
  intro j hj
  rw [hp j, cx_or1 hx hj, h j hj, or_assoc]
theorem cw_ad1 {m0 m1 : Int32} {P P' : Nat → Prop} (h : cw_ad m0 m1 P) (hp : ∀ j, P' j ↔ P j ∨ j = 0) : cw_ad m0 (m1 ||| 1) P' := by
  intro j hj
  rw [hp j, cx_or0 hj, h j hj, or_assoc]
def cw_I (A : Nat → Nat → Prop) (s : Int32) (k : Nat) (m : Int32) : Prop := ∀ j, j < 32 → (bt m j = true ↔ ∃ x, x < k ∧ bt s x = true ∧ A x j)
theorem cw_I0 {A : Nat → Nat → Prop} {s : Int32} : cw_I A s 0 0 := by
  intro j hj
  rw [b_0]
  constructor
  · intro z; exact absurd z (by decide)
  · rintro ⟨x, a, _⟩; omega
theorem cw_In {A : Nat → Nat → Prop} {s m : Int32} {k : Nat} (h : cw_I A s k m) (hz : bt s k = false) : cw_I A s (k + 1) m := by
  intro j hj
  rw [h j hj]
  constructor
  · rintro ⟨x, a, b⟩; exact ⟨x, by omega, b⟩
  · rintro ⟨x, a, b, c⟩
    by_cases e : x = k
    · subst e; rw [hz] at b; exact absurd b (by decide)
    · exact ⟨x, by omega, b, c⟩
theorem cw_Is {A : Nat → Nat → Prop} {s m m' : Int32} {k : Nat} (h : cw_I A s k m) (hz : bt s k = true) (hn : cw_ad m m' (A k)) : cw_I A s (k + 1) m' := by
  intro j hj
  rw [hn j hj, h j hj]
  constructor
  · rintro (⟨x, a, b⟩ | a)
    · exact ⟨x, by omega, b⟩
    · exact ⟨k, by omega, hz, a⟩
  · rintro ⟨x, a, b, c⟩
    by_cases e : x = k
    · subst e; exact Or.inr c
    · exact Or.inl ⟨x, by omega, b, c⟩
def cw_A (C : Int32) (an op : Prop) (T : Nat → Int32) (x j : Nat) : Prop :=
  (x % 4 ≠ 0 ∧ j = x ∧ (bt C (x % 4) = true ∨ an)) ∨ (x % 4 = 0 ∧ ((∃ q, 1 ≤ q ∧ q < 4 ∧ bt C q = true ∧ j = 5 * q) ∨ (an ∧ (j = 0 ∨ (op ∧ ∃ q, 1 ≤ q ∧ q < 4 ∧ ¬ T q = 0 ∧ j = 5 * q)))))
def cw_C4 (C : Int32) : Prop := ∀ v, 4 ≤ v → v < 32 → bt C v = false
def cw_T4 (T : Nat → Int32) : Prop := ∀ v, v < 16 → (4 ≤ v → T v = 0) ∧ ∀ t, t < 32 → bt (T v) t = true → 1 ≤ t ∧ t < 4
theorem cw_N {s m : Int32} {S : Nat → Nat → Prop} {C : Int32} {an op : Prop} {T : Nat → Int32} (hZ : cp_Z S) (h : cw_R s S) (hI : cw_I (cw_A C an op T) s 16 m) : cw_R m (cp_N S C an op T) := by
  intro j hj
  rw [hI j hj]
  unfold cp_N cw_A
  constructor
  · rintro ⟨x, hx, hs, ⟨a, rfl, b⟩ | ⟨a, b⟩⟩
    · exact ⟨hx, Or.inl ⟨a, ((h j hj).mp hs).2, b⟩⟩
    · have h0 := ((h x (by omega)).mp hs).2
      rw [a] at h0
      have h1 := hZ _ h0
      rw [h1] at h0
      rcases b with ⟨q, q1, q2, q3, rfl⟩ | ⟨c, rfl | ⟨q3, q, q1, q2, q4, rfl⟩⟩
      · have e1 : 5 * q / 4 = q := by omega
        have e2 : 5 * q % 4 = q := by omega
        rw [e1, e2]
        exact ⟨by omega, Or.inr ⟨rfl, h0, Or.inl ⟨by omega, Or.inl q3⟩⟩⟩
      · exact ⟨by omega, Or.inr ⟨rfl, h0, Or.inr ⟨rfl, c⟩⟩⟩
      · have e1 : 5 * q / 4 = q := by omega
        have e2 : 5 * q % 4 = q := by omega
        rw [e1, e2]
        exact ⟨by omega, Or.inr ⟨rfl, h0, Or.inl ⟨by omega, Or.inr ⟨c, q3, q4⟩⟩⟩⟩
  · rintro ⟨j16, ⟨a, b, c⟩ | ⟨a, b, c⟩⟩
    · exact ⟨j, j16, (h j hj).mpr ⟨j16, b⟩, Or.inl ⟨a, rfl, c⟩⟩
    · refine ⟨0, by omega, (h 0 (by omega)).mpr ⟨by omega, b⟩, Or.inr ⟨rfl, ?_⟩⟩
      have hj5 : j = 5 * (j % 4) := by omega
      rcases c with ⟨c1, c2 | ⟨c2, c3, c4⟩⟩ | ⟨c1, c2⟩
      · exact Or.inl ⟨j % 4, by omega, by omega, c2, hj5⟩
      · exact Or.inr ⟨c2, Or.inr ⟨c3, j % 4, by omega, by omega, c4, hj5⟩⟩
      · exact Or.inr ⟨c2, Or.inl (by omega)⟩
theorem cw_ZN {S : Nat → Nat → Prop} {C : Int32} {an op : Prop} {T : Nat → Int32} (hS : cw_Z S) (hC : cw_C4 C) (hT : cw_T4 T) : cw_Z (cp_N S C an op T) := by
  rintro d v hd hv (⟨_, b, _⟩ | ⟨rfl, _, ⟨_, c | ⟨_, _, c⟩⟩ | ⟨c, _⟩⟩)
  · exact hS d v hd hv b
  · have : d < 4 := by
      apply Classical.byContradiction
      intro q
      rw [hC d (by omega) (by omega)] at c
      exact absurd c (by decide)
    exact ⟨this, this⟩
  · have : d < 4 := by
      apply Classical.byContradiction
      intro q
      exact c ((hT d hd).1 (by omega))
    exact ⟨this, this⟩
  · omega
theorem cw_em {m : Int32} {N : Nat → Nat → Prop} (h : cw_R m N) (hZ : cw_Z N) : m = 0 ↔ cp_em N := by
  constructor
  · rintro rfl d v hd hv hN
    have hz := hZ d v hd hv hN
    have e1 : (4 * d + v) / 4 = d := by omega
    have e2 : (4 * d + v) % 4 = v := by omega
    have := (h (4 * d + v) (by omega)).mpr ⟨by omega, by rw [e1, e2]; exact hN⟩
    rw [b_0] at this
    exact absurd this (by decide)
  · intro he
    refine cq_z.mpr fun q hq => ?_
    cases hb : bt m q with
    | false => rfl
    | true =>
      obtain ⟨a, b⟩ := (h q hq).mp hb
      exact absurd b (he _ _ (by omega) (by omega))
def cw_B (p : Int32) (T : Nat → Int32) (x j : Nat) : Prop :=
  (¬ (x % 4 ≠ 0 ∧ ¬ T (x % 4) = 0) ∧ j = x) ∨ ((x % 4 ≠ 0 ∧ ¬ T (x % 4) = 0) ∧ 0 < p ∧ ∃ t, 1 ≤ t ∧ t < 4 ∧ bt (T (x % 4)) t = true ∧ j = 4 * (x / 4) + t)
theorem cw_S {s m : Int32} {N : Nat → Nat → Prop} {p : Int32} {T : Nat → Int32} (hT : cw_T4 T) (hZ : cw_Z N) (h : cw_R m N) (hI : cw_I (cw_B p T) m 16 s) : cw_R s (cp_S N p T) := by
  intro j hj
  rw [hI j hj]
  unfold cp_S cw_B
  constructor
  · rintro ⟨x, hx, hs, ⟨a, rfl⟩ | ⟨⟨a, b⟩, c, t, t1, t2, t3, rfl⟩⟩
    · refine ⟨hx, Or.inl ⟨((h j hj).mp hs).2, ?_⟩⟩
      by_cases z : j % 4 = 0
      · exact Or.inl z
      · exact Or.inr (Classical.byContradiction fun hn => a ⟨z, hn⟩)
    · have e1 : (4 * (x / 4) + t) / 4 = x / 4 := by omega
      have e2 : (4 * (x / 4) + t) % 4 = t := by omega
      rw [e1, e2]
      exact ⟨by omega, Or.inr ⟨c, x % 4, by omega, a, ((h x (by omega)).mp hs).2, b, t3⟩⟩
  · rintro ⟨j16, ⟨a, b⟩ | ⟨a, v, v1, v2, v3, v4, v5⟩⟩
    · refine ⟨j, j16, (h j hj).mpr ⟨j16, a⟩, Or.inl ⟨?_, rfl⟩⟩
      rintro ⟨c, d⟩
      rcases b with b | b
      · exact c b
      · exact d b
    · have hz := hZ (j / 4) v (by omega) v1 v3
      have e1 : (4 * (j / 4) + v) / 4 = j / 4 := by omega
      have e2 : (4 * (j / 4) + v) % 4 = v := by omega
      have ht := (hT v v1).2 (j % 4) (by omega) v5
      refine ⟨4 * (j / 4) + v, by omega, (h _ (by omega)).mpr ⟨by omega, ?_⟩, Or.inr ?_⟩
      · rw [e1, e2]; exact v3
      · rw [e1, e2]; exact ⟨⟨v2, v4⟩, a, j % 4, ht.1, ht.2, v5, by omega⟩
theorem cw_ZS {N : Nat → Nat → Prop} {p : Int32} {T : Nat → Int32} (hT : cw_T4 T) (hZ : cw_Z N) : cw_Z (cp_S N p T) := by
  rintro d v hd hv (⟨a, _⟩ | ⟨_, w, w1, _, w3, _, w5⟩)
  · exact hZ d v hd hv a
  · exact ⟨(hZ d w hd w1 w3).1, ((hT w w1).2 v (by omega) w5).2⟩
theorem cw_R0 : cw_R 1 cp_S0 := by
  intro q hq
  rw [cq_1 q hq, decide_eq_true_eq]
  unfold cp_S0
  omega
theorem cw_Z0 : cw_Z cp_S0 := by
  rintro d v _ _ ⟨rfl, rfl⟩
  omega
def cw_r (m : Int32) (k : Nat) (r : Int32) : Prop := ∀ d, d < 32 → (bt r d = true ↔ ∃ x, x < k ∧ bt m x = true ∧ x / 4 = d)
theorem cw_r0 {m : Int32} : cw_r m 0 0 := fun d _ => by rw [b_0]; simp
theorem cw_rz {m r : Int32} {k : Nat} (h : cw_r m k r) (hz : bt m k = false) : cw_r m (k + 1) r := by
  intro d hd
  rw [h d hd]
  constructor
  · rintro ⟨x, a, b⟩; exact ⟨x, by omega, b⟩
  · rintro ⟨x, a, b, c⟩
    by_cases e : x = k
    · subst e; rw [hz] at b; exact absurd b (by decide)
    · exact ⟨x, by omega, b, c⟩
theorem cw_rs {m r : Int32} {k : Nat} (hk : k < 16) (h : cw_r m k r) (hz : bt m k = true) : cw_r m (k + 1) (r ||| ((1 : Int32) <<< (nI (k / 4) &&& 31))) := by
  intro d hd
  rw [cx_or1 (by omega) hd, h d hd]
  constructor
  · rintro (⟨x, a, b⟩ | rfl)
    · exact ⟨x, by omega, b⟩
    · exact ⟨k, by omega, hz, rfl⟩
  · rintro ⟨x, a, b, c⟩
    by_cases e : x = k
    · subst e; exact Or.inr c.symm
    · exact Or.inl ⟨x, by omega, b, c⟩
theorem cw_rR {m r : Int32} {N : Nat → Nat → Prop} (h : cw_r m 16 r) (hN : cw_R m N) (hZ : cw_Z N) : cp_R N r := by
  intro d hd
  rw [h d hd]
  constructor
  · rintro ⟨x, a, b, rfl⟩
    exact ⟨by omega, x % 4, by omega, ((hN x (by omega)).mp b).2⟩
  · rintro ⟨a, v, hv, hb⟩
    have hz := hZ d v a hv hb
    have e1 : (4 * d + v) / 4 = d := by omega
    have e2 : (4 * d + v) % 4 = v := by omega
    refine ⟨4 * d + v, by omega, (hN _ (by omega)).mpr ⟨by omega, ?_⟩, e1⟩
    rw [e1, e2]
    exact hb
/-! the sequences of the walk -/
def cw_SS (pa mp : Nat → Int32) (fl : Int32) (n : Nat) : Nat → Nat → Nat → Prop
  | 0 => cp_S0
  | i + 1 => cp_S (cp_NN pa mp n i (cw_e pa (cp_c0 fl 2 n) 8 i) (cw_e pa (cp_c0 fl 4 n) 9 i) (cw_SS pa mp fl n i)) (cw_e pa (cp_c0 fl 2 n) 8 i) (fun v => mp (16 * i + v))
def cw_NS (pa mp : Nat → Int32) (fl : Int32) (n i : Nat) : Nat → Nat → Prop := cp_NN pa mp n i (cw_e pa (cp_c0 fl 2 n) 8 i) (cw_e pa (cp_c0 fl 4 n) 9 i) (cw_SS pa mp fl n i)
def cw_o1 (pa : Nat → Int32) (tm : Int32) (i : Nat) : Prop := ¬ (tm < pa (12 * i + 2) ∨ pa (12 * i + 3) < tm)
def cw_o2 (pa : Nat → Int32) (anc : Int32) (i : Nat) : Prop := pa (12 * i) = cp_want pa anc i
def cw_o3 (pa su : Nat → Int32) (n i : Nat) : Prop := ¬ (¬ cp_ex pa n i ∧ cp_bad pa su i)
def cw_o4 (pa mp : Nat → Int32) (fl : Int32) (n i : Nat) : Prop := ¬ (cw_e pa (cp_c0 fl 1 n) 7 i = 0 ∧ cp_em (cw_NS pa mp fl n i))
def cw_o6 (pa : Nat → Int32) (i : Nat) : Prop := ¬ pa (12 * i + 4) &&& 1 = 0 ∧ ¬ (¬ pa (12 * i + 4) &&& 2 = 0 ∧ pa (12 * i + 4) &&& 4 = 0)
def cw_o7 (pa : Nat → Int32) (n i : Nat) : Prop := ¬ (¬ cp_self pa i ∧ cw_e pa (nI n) 5 i = 0)
def cw_ok (pa mp su : Nat → Int32) (anc fl tm : Int32) (n i : Nat) : Prop :=
  cw_o1 pa tm i ∧ cw_o2 pa anc i ∧ cw_o3 pa su n i ∧ cw_o4 pa mp fl n i ∧ (i + 1 ≠ n → cw_o6 pa i ∧ cw_o7 pa n i)
theorem cw_V {pa mp su : Nat → Int32} {anc up fl tm : Int32} {n : Nat} {post : Int32 → Int32 → Int32 → Int32 → Prop} : ∀ d i, i + d = n → 1 ≤ d →
    ((∀ j, i ≤ j → j < n → cw_ok pa mp su anc fl tm n j) → cp_W pa up n post (cw_e pa (cp_c0 fl 1 n) 7 (n - 1)) (cw_NS pa mp fl n (n - 1))) →
    ((¬ ∀ j, i ≤ j → j < n → cw_ok pa mp su anc fl tm n j) → ∀ s x : Int32, ¬ s = 0 → post s x 0 0) →
    cp_V pa mp su anc up tm n post d i (cw_e pa (cp_c0 fl 1 n) 7 i) (cw_e pa (cp_c0 fl 2 n) 8 i) (cw_e pa (cp_c0 fl 4 n) 9 i) (cw_e pa (nI n) 5 i) (cw_SS pa mp fl n i) := by
  intro d
  induction d with
  | zero => intro i h1 h2; omega
  | succ d ih =>
    intro i h1 h2 hg hb
    unfold cp_V
    refine br_c (fun c1 => hb (fun H => (H i (by omega) (by omega)).1 c1) _ _ (by decide)) (fun c1 => br_c (fun c2 => hb (fun H => c2 (H i (by omega) (by omega)).2.1) _ _ (by decide)) (fun c2 => br_c (fun c3 => hb (fun H => (H i (by omega) (by omega)).2.2.1 c3) _ _ (by decide)) (fun c3 => br_c (fun c4 => hb (fun H => (H i (by omega) (by omega)).2.2.2.1 c4) _ _ (by decide)) (fun c4 => br_c (fun c5 => ?_) (fun c5 => br_c (fun c6 => hb (fun H => ((H i (by omega) (by omega)).2.2.2.2 c5).1.1 c6) _ _ (by decide)) (fun c6 => br_c (fun c7 => hb (fun H => ((H i (by omega) (by omega)).2.2.2.2 c5).2 c7) _ _ (by decide)) (fun c7 => br_c (fun c8 => hb (fun H => ((H i (by omega) (by omega)).2.2.2.2 c5).1.2 c8) _ _ (by decide)) (fun c8 => ?_))))))))
    · have e : n - 1 = i := by omega
      rw [e] at hg
      refine hg (fun j j1 j2 => ?_)
      obtain rfl : j = i := by omega
      exact ⟨c1, Classical.byContradiction c2, c3, c4, fun q => absurd c5 q⟩
    · have hi : cw_ok pa mp su anc fl tm n i := ⟨c1, Classical.byContradiction c2, c3, c4, fun _ => ⟨⟨c6, c8⟩, c7⟩⟩
      refine ih (i + 1) (by omega) (by omega) (fun H => hg (fun j j1 j2 => ?_)) (fun H => hb (fun H' => H (fun j j1 j2 => H' j (by omega) j2)))
      by_cases e : j = i
      · subst e; exact hi
      · exact H j (by omega) j2
end
section
/-! what the law's building keeps -/
def cw_Q (pa mp : Nat → Int32) : Prop := (∀ c, cw_C4 (pa (12 * c + 6))) ∧ (∀ c, cw_T4 (fun v => mp (16 * c + v))) ∧ cw_L pa
theorem cw_T40 {T : Nat → Int32} (h : ∀ v, v < 16 → T v = 0) : cw_T4 T := by
  intro v hv
  rw [h v hv]
  refine ⟨fun _ => rfl, fun t _ hb => ?_⟩
  rw [b_0] at hb
  exact absurd hb (by decide)
theorem cw_Q0 : cw_Q (fun _ => 0) (fun _ => 0) :=
  ⟨fun _ v _ _ => b_0 v, fun _ => cw_T40 fun _ _ => rfl, fun _ _ _ => (by decide : -1 ≤ (0 : Int32).toInt ∧ (0 : Int32).toInt ≤ 15)⟩
theorem cw_QN {pa mp : Nat → Int32} {c f : Nat} {y : Int32} (h : cw_Q pa mp) (hf : f < 12) (h1 : f < 4 ∨ f = 4 ∨ f = 10 ∨ f = 11) : cw_Q (upd pa (12 * c + f) y) mp := by
  refine ⟨fun d => ?_, h.2.1, fun d g hg => ?_⟩
  · rw [pk_un (by omega)]; exact h.1 d
  · rw [pk_un (by omega)]; exact h.2.2 d g hg
theorem cw_QL {pa mp : Nat → Int32} {c f : Nat} {y : Int32} (h : cw_Q pa mp) (hf : f = 5 ∨ f = 7 ∨ f = 8 ∨ f = 9) (h1 : -1 ≤ y ∧ y ≤ 15) : cw_Q (upd pa (12 * c + f) y) mp := by
  refine ⟨fun d => ?_, h.2.1, fun d g hg => ?_⟩
  · rw [pk_un (by omega)]; exact h.1 d
  · by_cases e : 12 * d + g = 12 * c + f
    · rw [e, pk_us]
      have a := Int32.le_iff_toInt_le.mp h1.1
      have b := Int32.le_iff_toInt_le.mp h1.2
      have a1 : (-1 : Int32).toInt = -1 := by decide
      have b1 : (15 : Int32).toInt = 15 := by decide
      rw [a1] at a
      rw [b1] at b
      exact ⟨a, b⟩
    · rw [pk_un e]; exact h.2.2 d g hg
theorem cw_Q6 {pa mp : Nat → Int32} {c k : Nat} (h : cw_Q pa mp) (hk : k < 4) : cw_Q (upd pa (12 * c + 6) (pa (12 * c + 6) ||| ((1 : Int32) <<< (nI k &&& 31)))) mp := by
  refine ⟨fun d => ?_, h.2.1, fun d g hg => ?_⟩
  · by_cases e : d = c
    · subst e
      rw [pk_us]
      intro v v4 v32
      cases hb : bt (pa (12 * d + 6) ||| ((1 : Int32) <<< (nI k &&& 31))) v with
      | false => rfl
      | true =>
        rcases (cx_or1 (by omega) v32).mp hb with a | a
        · rw [h.1 d v v4 v32] at a; exact absurd a (by decide)
        · omega
    · rw [pk_un (by omega)]; exact h.1 d
  · rw [pk_un (by omega)]; exact h.2.2 d g hg
theorem cw_QT {pa mp : Nat → Int32} {c s t : Nat} (h : cw_Q pa mp) (hs : s < 4) (t1 : 1 ≤ t) (t2 : t < 4) : cw_Q pa (upd mp (16 * c + s) (mp (16 * c + s) ||| ((1 : Int32) <<< (nI t &&& 31)))) := by
  refine ⟨h.1, fun d v hv => ?_, h.2.2⟩
  have hd := h.2.1 d v hv
  dsimp only at hd ⊢
  by_cases e : 16 * d + v = 16 * c + s
  · rw [e] at hd ⊢
    rw [pk_us]
    refine ⟨fun q => by omega, fun u hu hb => ?_⟩
    rcases (cx_or1 (by omega) hu).mp hb with a | a
    · exact hd.2 u hu a
    · omega
  · rw [pk_un e]; exact hd
theorem cw_QC {pa q mp mp' : Nat → Int32} {n : Nat} (h : cw_Q pa mp) (hq : ∀ j, q j = if 12 * n ≤ j ∧ j < 12 * n + 12 then 0 else pa j) (hm : ∀ j, mp' j = if 16 * n ≤ j ∧ j < 16 * n + 16 then 0 else mp j) : cw_Q q mp' := by
  refine ⟨fun d => ?_, fun d => ?_, fun d g hg => ?_⟩
  · rw [hq]
    split
    · exact cw_Q0.1 0
    · exact h.1 d
  · by_cases e : d = n
    · subst e
      exact cw_T40 fun v hv => by rw [hm, if_pos (by omega)]
    · intro v hv
      dsimp only
      rw [hm, if_neg (by omega)]
      exact h.2.1 d v hv
  · rw [hq]
    split
    · exact cw_Q0.2.2 0 g hg
    · exact h.2.2 d g hg
/-- for every state that the building may have reached -/
def cw_al (n : Nat) (post : Int32 → St2 → Prop) : Prop := ∀ (r anc up fl ls lf la lr el ml al ll : Int32) (pa mp su ex no : Nat → Int32), cp_Inv pa mp su → cw_Q pa mp → post r ((nI 8), (nI n), anc, up, fl, ls, lf, la, lr, el, ml, al, ll, pa, mp, su, ex, no)
def cw_as (n : Nat) (P : (Int32 → Int32 → Int32 → Int32 → Int32 → Int32 → Int32 → Int32 → Int32 → Int32 → Int32 → Int32 → Int32 → (Nat → Int32) → (Nat → Int32) → (Nat → Int32) → (Nat → Int32) → (Nat → Int32) → Prop)) : Prop := ∀ (anc up fl ls lf la lr el ml al ll : Int32) (pa mp su ex no : Nat → Int32), cp_Inv pa mp su → cw_Q pa mp → P (nI 8) (nI n) anc up fl ls lf la lr el ml al ll pa mp su ex no
section LB
variable {cap cnt anc up fl ls lf la lr el ml al ll : Int32} {pa mp su ex no : Nat → Int32}
theorem l_cell {post : Int32 → Prop} {L k : Nat} {xs : Nat → Int32} (hk : k < 1000) (hL : L ≤ 260) (H : ∀ r, post r) : wpL_cell post L xs () (nI k) := by
  unfold wpL_cell
  refine br_c (fun _ => H _) (fun h => ⟨vp_in_nI ?_ (by omega), H _⟩)
  have h' : ¬ nI L ≤ nI k := h
  rw [nI_leI (by omega) (by omega)] at h'
  omega
theorem l_nm {post : Int32 → Prop} {x : Int32} (H : ∀ r, cp_nm r → post r) : wpL_nm post () x := by
  unfold wpL_nm
  have k : ∀ y : Int32, (0 ≤ y ∧ y ≤ 65535) → (∀ k, k < 3 → ¬ cp_g y (k + 1) = 0 → ¬ cp_g y k = 0) → post y := fun y a b => H y ⟨a, b⟩
  refine nm_e (br_c (fun _ => k _ (by decide) (by decide +kernel)) (fun _ => br_c (fun _ => k _ (by decide) (by decide +kernel)) (fun _ => br_c (fun _ => k _ (by decide) (by decide +kernel)) (fun _ => br_c (fun _ => k _ (by decide) (by decide +kernel)) (fun _ => br_c (fun _ => k _ (by decide) (by decide +kernel)) (fun _ => br_c (fun _ => k _ (by decide) (by decide +kernel)) (fun _ => br_c (fun _ => k _ (by decide) (by decide +kernel)) (fun _ => k _ (by decide) (by decide +kernel)))))))))
theorem l_opt {post : Int32 → Prop} {x : Int32} (H : ∀ r, post r) : wpL_opt post () x := by
  unfold wpL_opt
  exact br_c (fun _ => H _) (fun _ => H _)
theorem l_addSub {post : Int32 → St2 → Prop} {n i kd : Nat} (hn : n ≤ 8) (hi : i < n) (hkd : kd < 2) {y : Int32} (hy : cp_nm y) (hI : cp_Inv pa mp su) (hQ : cw_Q pa mp) (H : cw_al n post) : wpX_addSubtree post ((nI 8), (nI n), anc, up, fl, ls, lf, la, lr, el, ml, al, ll, pa, mp, su, ex, no) (nI i) (nI kd) y := by
  obtain ⟨K, hK, hp⟩ := hI.2.1 i kd hkd
  refine x_addSubtree hn hi hkd hK hp hy (fun q => H _ _ _ _ _ _ _ _ _ _ _ _ _ _ _ _ _ (cp_InvS (cp_InvK hI hkd (by omega)) hy) (cw_QN hQ (by omega) (by omega))) (fun _ => H _ _ _ _ _ _ _ _ _ _ _ _ _ _ _ _ _ hI hQ)
theorem l_setPC {post : Int32 → St2 → Prop} {n i : Nat} (hn : n ≤ 8) (hi : i < n) {a b c : Int32} (hI : cp_Inv pa mp su) (hQ : cw_Q pa mp) (H : cw_al n post) : wpX_setPolicyConstraints post ((nI 8), (nI n), anc, up, fl, ls, lf, la, lr, el, ml, al, ll, pa, mp, su, ex, no) (nI i) a b c :=
  x_setPC hn hi (fun q => H _ _ _ _ _ _ _ _ _ _ _ _ _ _ _ _ _ (cp_InvN (cp_InvN (cp_InvN hI (by decide) (by decide) (by decide)) (by decide) (by decide) (by decide)) (by decide) (by decide) (by decide)) (cw_QL (cw_QL (cw_QL hQ (by decide) q.1) (by decide) q.2.1) (by decide) q.2.2)) (fun _ => H _ _ _ _ _ _ _ _ _ _ _ _ _ _ _ _ _ hI hQ)
theorem l_setBasic {post : Int32 → St2 → Prop} {n i : Nat} (hn : n ≤ 8) (hi : i < n) {a b : Int32} (hI : cp_Inv pa mp su) (hQ : cw_Q pa mp) (H : cw_al n post) : wpX_setBasic post ((nI 8), (nI n), anc, up, fl, ls, lf, la, lr, el, ml, al, ll, pa, mp, su, ex, no) (nI i) a b :=
  x_setBasic hn hi (fun q => H _ _ _ _ _ _ _ _ _ _ _ _ _ _ _ _ _ (cp_InvN (cp_InvN hI (by decide) (by decide) (by decide)) (by decide) (by decide) (by decide)) (cw_QL (cw_QN hQ (by decide) (by decide)) (by decide) q.2)) (fun _ => H _ _ _ _ _ _ _ _ _ _ _ _ _ _ _ _ _ hI hQ)
theorem l_addPolicy {post : Int32 → St2 → Prop} {n i k : Nat} (hn : n ≤ 8) (hi : i < n) (hk : k < 4) (hI : cp_Inv pa mp su) (hQ : cw_Q pa mp) (H : cw_al n post) : wpX_addPolicy post ((nI 8), (nI n), anc, up, fl, ls, lf, la, lr, el, ml, al, ll, pa, mp, su, ex, no) (nI i) (nI k) :=
  x_addPolicy hn hi (fun q => H _ _ _ _ _ _ _ _ _ _ _ _ _ _ _ _ _ (cp_InvN hI (by decide) (by decide) (by decide)) (cw_Q6 hQ hk)) (fun _ => H _ _ _ _ _ _ _ _ _ _ _ _ _ _ _ _ _ hI hQ)
theorem l_addMapping {post : Int32 → St2 → Prop} {n i s t : Nat} (hn : n ≤ 8) (hi : i < n) (hs : s < 4) (t1 : 1 ≤ t) (t2 : t < 4) (hI : cp_Inv pa mp su) (hQ : cw_Q pa mp) (H : cw_al n post) : wpX_addMapping post ((nI 8), (nI n), anc, up, fl, ls, lf, la, lr, el, ml, al, ll, pa, mp, su, ex, no) (nI i) (nI s) (nI t) := by
  refine x_addMapping hn hi (fun s' t' es et s2 t3 => ?_) (fun _ => H _ _ _ _ _ _ _ _ _ _ _ _ _ _ _ _ _ hI hQ)
  have a : s' = s := ((nI_eq (by omega) (by omega)).mp es).symm
  have b : t' = t := ((nI_eq (by omega) (by omega)).mp et).symm
  subst a b
  exact H _ _ _ _ _ _ _ _ _ _ _ _ _ _ _ _ _ (cp_InvT hI t3.1 t3.2) (cw_QT hQ hs t1 t2)
theorem l_addCert {post : Int32 → St2 → Prop} {n : Nat} (hn : n < 8) {a b c d : Int32} (ha : cp_nm a) (hb : cp_nm b) (hI : cp_Inv pa mp su) (hQ : cw_Q pa mp) (H : cw_al (n + 1) post) : wpX_addCert post ((nI 8), (nI n), anc, up, fl, ls, lf, la, lr, el, ml, al, ll, pa, mp, su, ex, no) a b c d := by
  refine x_addCert (by omega) (by omega) (fun _ q mp' hq hm => H _ _ _ _ _ _ _ _ _ _ _ _ _ _ _ _ _ ?_ ?_) (fun q => absurd ⟨hn, ha, hb⟩ q)
  · exact cp_InvN (cp_InvN (cp_Inv1 (cp_InvN (cp_InvN (cp_InvN (cp_InvN (cp_InvN (cp_InvC hI hq hm) (by decide) (by decide) (by decide)) (by decide) (by decide) (by decide)) (by decide) (by decide) (by decide)) (by decide) (by decide) (by decide)) (by decide) (by decide) (by decide)) hb) (by decide) (by decide) (by decide)) (by decide) (by decide) (by decide)
  · exact cw_QN (cw_QN (cw_QN (cw_QN (cw_QL (cw_QL (cw_QL (cw_QL (cw_QC hQ hq hm) (by decide) (by decide)) (by decide) (by decide)) (by decide) (by decide)) (by decide) (by decide)) (by decide) (by decide)) (by decide) (by decide)) (by decide) (by decide)) (by decide) (by decide)
/-! the law's building, from its last step back -/
theorem l_548 {post : Int32 → Prop} {L : Nat} {xs : Nat → Int32} {J : (Int32 → Int32 → Int32 → Int32 → Int32 → Int32 → Int32 → Int32 → Int32 → Int32 → Int32 → Int32 → Int32 → Int32 → Int32 → (Nat → Int32) → (Nat → Int32) → (Nat → Int32) → (Nat → Int32) → (Nat → Int32) → Prop)} {x2 x5 x20 : Int32} {kc ks n i : Nat} (hn : n ≤ 8) (hi : i < n) (H : cw_as n (J x5 (nI (i + 1)))) (hI : cp_Inv pa mp su) (hQ : cw_Q pa mp) :
    wL_law_548 post L xs J x2 x5 (nI i) x20 kc ks (nI 8) (nI n) anc up fl ls lf la lr el ml al ll pa mp su ex no := by
  unfold wL_law_548
  refine br_c (fun _ => l_nm (fun r hr => l_addSub (kd := 0) hn hi (by decide) hr hI hQ ?_)) (fun _ => nm_r (nI_1 i) (H _ _ _ _ _ _ _ _ _ _ _ _ _ _ _ _ hI hQ))
  intro r anc up fl ls lf la lr el ml al ll pa mp su ex no hI hQ
  exact nm_r (nI_1 i) (H _ _ _ _ _ _ _ _ _ _ _ _ _ _ _ _ hI hQ)
theorem l_522 {post : Int32 → Prop} {L : Nat} {xs : Nat → Int32} {J : (Int32 → Int32 → Int32 → Int32 → Int32 → Int32 → Int32 → Int32 → Int32 → Int32 → Int32 → Int32 → Int32 → Int32 → Int32 → (Nat → Int32) → (Nat → Int32) → (Nat → Int32) → (Nat → Int32) → (Nat → Int32) → Prop)} {x2 x5 x20 : Int32} {kc ks n i : Nat} (hn : n ≤ 8) (hi : i < n) (H : cw_as n (J x5 (nI (i + 1)))) (hI : cp_Inv pa mp su) (hQ : cw_Q pa mp) :
    wL_law_522 post L xs J x2 x5 (nI i) x20 kc ks (nI 8) (nI n) anc up fl ls lf la lr el ml al ll pa mp su ex no := by
  unfold wL_law_522
  refine br_c (fun _ => l_nm (fun r hr => l_addSub (kd := 1) hn hi (by decide) hr hI hQ ?_)) (fun _ => l_548 hn hi H hI hQ)
  intro r anc up fl ls lf la lr el ml al ll pa mp su ex no hI hQ
  exact l_548 hn hi H hI hQ
theorem l_450 {post : Int32 → Prop} {L : Nat} {xs : Nat → Int32} {J : (Int32 → Int32 → Int32 → Int32 → Int32 → Int32 → Int32 → Int32 → Int32 → Int32 → Int32 → Int32 → Int32 → Int32 → Int32 → (Nat → Int32) → (Nat → Int32) → (Nat → Int32) → (Nat → Int32) → (Nat → Int32) → Prop)} {x2 x5 : Int32} {kc ks n i : Nat} (hL : L ≤ 260) (hn : n ≤ 8) (hi : i < n) (H : cw_as n (J x5 (nI (i + 1)))) (hI : cp_Inv pa mp su) (hQ : cw_Q pa mp) :
    wL_law_450 post L xs J x2 x5 (nI i) (nI (4 + 8 * i)) kc ks (nI 8) (nI n) anc up fl ls lf la lr el ml al ll pa mp su ex no := by
  unfold wL_law_450
  have e6 : nI (4 + 8 * i) + 6 = nI (4 + 8 * i + 6) := nI_add _ 6
  have e7 : nI (4 + 8 * i) + 7 = nI (4 + 8 * i + 7) := nI_add _ 7
  rw [e6, e7]
  refine l_cell (by omega) hL (fun r => l_opt (fun a => l_opt (fun b => l_opt (fun c => l_setPC hn hi hI hQ ?_))))
  intro r anc up fl ls lf la lr el ml al ll pa mp su ex no hI hQ
  refine l_cell (by omega) hL (fun r => br_c (fun _ => l_nm (fun r hr => l_addSub (kd := 0) hn hi (by decide) hr hI hQ ?_)) (fun _ => l_522 hn hi H hI hQ))
  intro r anc up fl ls lf la lr el ml al ll pa mp su ex no hI hQ
  exact l_522 hn hi H hI hQ
theorem l_t {x : Int32} {sh : Int32} : ∃ j, j < 3 ∧ 1 + (((x >>> sh) &&& 3) - ((x >>> sh) &&& 3) / 3 * 3) = nI (1 + j) := by
  obtain ⟨j, hj, e⟩ := pk_andE (x >>> sh) (m := 3) 2 (by decide)
  rw [e]
  have e3 : nI j - nI j / 3 * 3 = nI (j % 3) := pk_rem (d := 3) (by omega) (by decide) (by decide)
  rw [e3]
  exact ⟨j % 3, Nat.mod_lt _ (by omega), nI_add 1 _⟩
theorem l_417 {post : Int32 → Prop} {L : Nat} {xs : Nat → Int32} {J : (Int32 → Int32 → Int32 → Int32 → Int32 → Int32 → Int32 → Int32 → Int32 → Int32 → Int32 → Int32 → Int32 → Int32 → Int32 → (Nat → Int32) → (Nat → Int32) → (Nat → Int32) → (Nat → Int32) → (Nat → Int32) → Prop)} {x2 x5 x18 : Int32} {kc ks n i : Nat} (hL : L ≤ 260) (hn : n ≤ 8) (hi : i < n) (H : cw_as n (J x5 (nI (i + 1)))) (hI : cp_Inv pa mp su) (hQ : cw_Q pa mp) :
    wL_law_417 post L xs J x2 x5 (nI i) (nI (4 + 8 * i)) x18 kc ks (nI 8) (nI n) anc up fl ls lf la lr el ml al ll pa mp su ex no := by
  unfold wL_law_417
  refine br_c (fun _ => l_450 hL hn hi H hI hQ) (fun _ => ⟨by decide, ?_⟩)
  obtain ⟨j, hj, e⟩ := pk_andE (x18 >>> ((4 : Int32) &&& 31)) (m := 3) 2 (by decide)
  obtain ⟨t, ht, e2⟩ := l_t (x := x18) (sh := (6 : Int32) &&& 31)
  rw [e, e2]
  refine l_addMapping hn hi (by omega) (by omega) (by omega) hI hQ ?_
  intro r anc up fl ls lf la lr el ml al ll pa mp su ex no hI hQ
  exact l_450 hL hn hi H hI hQ
theorem l_348 {post : Int32 → Prop} {L : Nat} {xs : Nat → Int32} {J : (Int32 → Int32 → Int32 → Int32 → Int32 → Int32 → Int32 → Int32 → Int32 → Int32 → Int32 → Int32 → Int32 → Int32 → Int32 → (Nat → Int32) → (Nat → Int32) → (Nat → Int32) → (Nat → Int32) → (Nat → Int32) → Prop)} {x2 x5 x17 : Int32} {kc ks n i : Nat} (hL : L ≤ 260) (hn : n ≤ 8) (hi : i < n) (H : cw_as n (J x5 (nI (i + 1)))) :
    ∀ d k, k + d = 4 → cw_as n (wL_law_348 post L xs J x2 x5 (nI i) (nI (4 + 8 * i)) x17 kc ks (d + 1) (nI k)) := by
  intro d
  induction d with
  | zero =>
    intro k hk anc up fl ls lf la lr el ml al ll pa mp su ex no hI hQ
    obtain rfl : k = 4 := by omega
    have e5 : nI (4 + 8 * i) + 5 = nI (4 + 8 * i + 5) := nI_add _ 5
    refine br_t (by decide) ?_
    rw [e5]
    refine l_cell (by omega) hL (fun r => br_c (fun _ => l_417 hL hn hi H hI hQ) (fun _ => ⟨by decide, ?_⟩))
    obtain ⟨j, hj, e⟩ := pk_andE r (m := 3) 2 (by decide)
    obtain ⟨t, ht, e2⟩ := l_t (x := r) (sh := (2 : Int32) &&& 31)
    rw [e, e2]
    refine l_addMapping hn hi (by omega) (by omega) (by omega) hI hQ ?_
    intro _ anc up fl ls lf la lr el ml al ll pa mp su ex no hI hQ
    exact l_417 hL hn hi H hI hQ
  | succ d ih =>
    intro k hk anc up fl ls lf la lr el ml al ll pa mp su ex no hI hQ
    refine br_f (nI_ge (b := 4) (by omega) (by decide)) (br_c (fun _ => nm_r (nI_1 k) (ih (k + 1) (by omega) _ _ _ _ _ _ _ _ _ _ _ _ _ _ _ _ hI hQ)) (fun _ => l_addPolicy hn hi (by omega) hI hQ ?_))
    intro r anc up fl ls lf la lr el ml al ll pa mp su ex no hI hQ
    exact nm_r (nI_1 k) (ih (k + 1) (by omega) _ _ _ _ _ _ _ _ _ _ _ _ _ _ _ _ hI hQ)
theorem l_331 {post : Int32 → Prop} {L : Nat} {xs : Nat → Int32} {J : (Int32 → Int32 → Int32 → Int32 → Int32 → Int32 → Int32 → Int32 → Int32 → Int32 → Int32 → Int32 → Int32 → Int32 → Int32 → (Nat → Int32) → (Nat → Int32) → (Nat → Int32) → (Nat → Int32) → (Nat → Int32) → Prop)} {x2 x5 z0 z1 : Int32} {kc ks n i : Nat} (hL : L ≤ 260) (hn : n ≤ 8) (hi : i < n) (H : cw_as n (J x5 (nI (i + 1)))) (hI : cp_Inv pa mp su) (hQ : cw_Q pa mp) :
    wL_law_331 post L xs J x2 x5 (nI i) (nI (4 + 8 * i)) z0 z1 (nI i) kc ks (nI 8) (nI n) anc up fl ls lf la lr el ml al ll pa mp su ex no := by
  unfold wL_law_331
  have e4 : nI (4 + 8 * i) + 4 = nI (4 + 8 * i + 4) := nI_add _ 4
  rw [e4]
  refine l_setBasic hn hi hI hQ ?_
  intro r anc up fl ls lf la lr el ml al ll pa mp su ex no hI hQ
  exact l_cell (by omega) hL (fun r => ⟨5, l_348 hL hn hi H 4 0 rfl _ _ _ _ _ _ _ _ _ _ _ _ _ _ _ _ hI hQ⟩)
theorem l_284 {post : Int32 → Prop} {L : Nat} {xs : Nat → Int32} {J : (Int32 → Int32 → Int32 → Int32 → Int32 → Int32 → Int32 → Int32 → Int32 → Int32 → Int32 → Int32 → Int32 → Int32 → Int32 → (Nat → Int32) → (Nat → Int32) → (Nat → Int32) → (Nat → Int32) → (Nat → Int32) → Prop)} {x2 x5 x15 x16 : Int32} {kc ks n i : Nat} (hL : L ≤ 260) (hn : n ≤ 8) (hi : i < n) (H : cw_as n (J x5 (nI (i + 1)))) (hI : cp_Inv pa mp su) (hQ : cw_Q pa mp) :
    wL_law_284 post L xs J x2 x5 (nI i) (nI (4 + 8 * i)) x15 x16 kc ks (nI 8) (nI n) anc up fl ls lf la lr el ml al ll pa mp su ex no := by
  unfold wL_law_284
  have k : ∀ y, wL_law_305 post L xs J x2 x5 (nI i) (nI (4 + 8 * i)) x15 y kc ks (nI 8) (nI n) anc up fl ls lf la lr el ml al ll pa mp su ex no := by
    intro y
    unfold wL_law_305
    exact br_c (fun _ => l_331 hL hn hi H hI hQ) (fun _ => l_331 hL hn hi H hI hQ)
  exact br_c (fun _ => k _) (fun _ => br_c (fun _ => k _) (fun _ => nm_e (k _)))
theorem l_159 {post : Int32 → Prop} {L : Nat} {xs : Nat → Int32} {J : (Int32 → Int32 → Int32 → Int32 → Int32 → Int32 → Int32 → Int32 → Int32 → Int32 → Int32 → Int32 → Int32 → Int32 → Int32 → (Nat → Int32) → (Nat → Int32) → (Nat → Int32) → (Nat → Int32) → (Nat → Int32) → Prop)} {x2 x8 x9 x10 z0 : Int32} {kc ks i : Nat} (hL : L ≤ 260) (hi : i < 8) (hz : cp_nm z0) (H : ∀ x5, cp_nm x5 → cw_as (i + 1) (J x5 (nI (i + 1)))) (hI : cp_Inv pa mp su) (hQ : cw_Q pa mp) :
    wL_law_159 post L xs J x2 (nI i) (nI (4 + 8 * i)) x8 x9 x10 z0 kc ks (nI 8) (nI i) anc up fl ls lf la lr el ml al ll pa mp su ex no := by
  unfold wL_law_159
  have e3 : nI (4 + 8 * i) + 3 = nI (4 + 8 * i + 3) := nI_add _ 3
  have k234 : ∀ y a b, cp_nm y → wL_law_234 post L xs J x2 (nI i) (nI (4 + 8 * i)) z0 y a b kc ks (nI 8) (nI i) anc up fl ls lf la lr el ml al ll pa mp su ex no := by
    intro y a b hy
    unfold wL_law_234
    rw [e3]
    refine l_addCert hi hz hy hI hQ ?_
    intro r anc up fl ls lf la lr el ml al ll pa mp su ex no hI hQ
    exact l_cell (by omega) hL (fun r => nm_e (br_c (fun _ => l_284 hL (by omega) (by omega) (H y hy) hI hQ) (fun _ => nm_e (l_284 hL (by omega) (by omega) (H y hy) hI hQ))))
  have k206 : ∀ y a, cp_nm y → wL_law_206 post L xs J x2 (nI i) (nI (4 + 8 * i)) x10 z0 y a kc ks (nI 8) (nI i) anc up fl ls lf la lr el ml al ll pa mp su ex no := by
    intro y a hy
    unfold wL_law_206
    exact br_c (fun _ => k234 _ _ _ hy) (fun _ => k234 _ _ _ hy)
  have k182 : ∀ y, cp_nm y → wL_law_182 post L xs J x2 (nI i) (nI (4 + 8 * i)) x10 z0 y kc ks (nI 8) (nI i) anc up fl ls lf la lr el ml al ll pa mp su ex no := by
    intro y hy
    unfold wL_law_182
    exact br_c (fun _ => k206 _ _ hy) (fun _ => k206 _ _ hy)
  exact br_c (fun _ => k182 _ hz) (fun _ => l_nm (fun r hr => k182 _ hr))
theorem l_getG {post : Int32 → Prop} : (post cnt → wpX_getField post (cap, cnt, anc, up, fl, ls, lf, la, lr, el, ml, al, ll, pa, mp, su, ex, no) (-1) 0) ∧ (post anc → wpX_getField post (cap, cnt, anc, up, fl, ls, lf, la, lr, el, ml, al, ll, pa, mp, su, ex, no) (-1) 2) ∧ (post up → wpX_getField post (cap, cnt, anc, up, fl, ls, lf, la, lr, el, ml, al, ll, pa, mp, su, ex, no) (-1) 3) ∧ (post fl → wpX_getField post (cap, cnt, anc, up, fl, ls, lf, la, lr, el, ml, al, ll, pa, mp, su, ex, no) (-1) 4) := by
  refine ⟨fun h => ?_, fun h => ?_, fun h => ?_, fun h => ?_⟩
  · exact br_t rfl (br_f (by decide) (br_f (by decide) (br_t rfl h)))
  · exact br_t rfl (br_f (by decide) (br_f (by decide) (br_f (by decide) (br_f (by decide) (br_t rfl h)))))
  · exact br_t rfl (br_f (by decide) (br_f (by decide) (br_f (by decide) (br_f (by decide) (br_f (by decide) (br_t rfl h))))))
  · exact br_t rfl (br_f (by decide) (br_f (by decide) (br_f (by decide) (br_f (by decide) (br_f (by decide) (br_f (by decide) (br_t rfl h)))))))
theorem l_98 {post : Int32 → Prop} {L : Nat} {xs : Nat → Int32} {kc ks n : Nat} (hL : L ≤ 260) (h1 : 1 ≤ n) (hn : n ≤ 8)
    (H : ∀ (anc up fl ls lf la lr el ml al ll : Int32) (pa mp su ex no : Nat → Int32), cp_Inv pa mp su → cw_Q pa mp → wL_law_622 post L xs (nI n) anc up fl 1 kc ks (nI 8) (nI n) anc up fl ls lf la lr el ml al ll pa mp su ex no) :
    ∀ d i x5, i + d = n → cp_nm x5 → cw_as i (wL_law_98 post L xs (nI n) kc ks (d + 1) x5 (nI i)) := by
  intro d
  induction d with
  | zero =>
    intro i x5 hi h5 anc up fl ls lf la lr el ml al ll pa mp su ex no hI hQ
    obtain rfl : i = n := by omega
    refine br_t (nI_le (by omega) (by omega)) (l_getG.1 (l_getG.2.1 (l_getG.2.2.1 (l_getG.2.2.2 ?_))))
    exact pk_lt i 1 (fun q => by omega) (fun _ => H _ _ _ _ _ _ _ _ _ _ _ _ _ _ _ _ hI hQ)
  | succ d ih =>
    intro i x5 hi h5 anc up fl ls lf la lr el ml al ll pa mp su ex no hI hQ
    have e8 : 4 + 8 * nI i = nI (4 + 8 * i) := by
      have a : 8 * nI i = nI (8 * i) := pk_mul 8 i
      rw [a]
      exact nI_add 4 _
    have e1 : nI (4 + 8 * i) + 1 = nI (4 + 8 * i + 1) := nI_add _ 1
    have e2 : nI (4 + 8 * i) + 2 = nI (4 + 8 * i + 2) := nI_add _ 2
    refine br_f (nI_ge (by omega) (by omega)) (nm_r e8 (l_cell (by omega) hL (fun a => ?_)))
    rw [e1, e2]
    refine l_cell (by omega) hL (fun b => l_cell (by omega) hL (fun c => br_c (fun _ => l_nm (fun r hr => ?_)) (fun _ => ?_)))
    · exact l_159 hL (by omega) hr (fun y hy => ih (i + 1) y (by omega) hy) hI hQ
    · exact l_159 hL (by omega) h5 (fun y hy => ih (i + 1) y (by omega) hy) hI hQ
/-- the law, given what follows the building -/
theorem l_law {post : Int32 → Prop} {L : Nat} {xs : Nat → Int32} (hL : L ≤ 260)
    (H : ∀ (n : Nat), 1 ≤ n → n ≤ 8 → ∀ (anc up fl ls lf la lr el ml al ll : Int32) (pa mp su ex no : Nat → Int32), cp_Inv pa mp su → cw_Q pa mp → wL_law_622 post L xs (nI n) anc up fl 1 6 338 (nI 8) (nI n) anc up fl ls lf la lr el ml al ll pa mp su ex no) : wpL_law post L xs := by
  refine ⟨5, 320, by decide, by decide, ?_⟩
  unfold wpX_init
  refine ⟨by decide, by decide, by decide, by decide, by decide, by decide, by decide, by decide, by decide, by decide, br_t (by decide) (br_t (by decide) ?_)⟩
  refine x_reset (l_cell (k := 0) (by omega) hL (fun r => ?_))
  obtain ⟨j, hj, e⟩ := pk_andE r (m := 7) 3 (by decide)
  have e1 : 1 + nI j = nI (1 + j) := nI_add 1 j
  rw [e, e1]
  refine nm_e (l_cell (k := 1) (by omega) hL (fun r => l_nm (fun a ha => ?_)))
  have k81 : ∀ (x4 z : Int32), cw_as 0 (wL_law_81 post L xs (nI (1 + j)) z x4 6 338) := by
    intro x4 z anc up fl ls lf la lr el ml al ll pa mp su ex no hI hQ
    unfold wL_law_81
    refine x_setInitial (fun _ => ?_) (fun _ => ?_)
    · exact l_cell (k := 1) (by omega) hL (fun r => l_nm (fun y hy => ⟨1 + j + 1, l_98 hL (by omega) (by omega) (H (1 + j) (by omega) (by omega)) (1 + j) 0 y (by omega) hy _ _ _ _ _ _ _ _ _ _ _ _ _ _ _ _ hI hQ⟩))
    · exact l_cell (k := 1) (by omega) hL (fun r => l_nm (fun y hy => ⟨1 + j + 1, l_98 hL (by omega) (by omega) (H (1 + j) (by omega) (by omega)) (1 + j) 0 y (by omega) hy _ _ _ _ _ _ _ _ _ _ _ _ _ _ _ _ hI hQ⟩))
  have k59 : ∀ (x3 x4 : Int32), cw_as 0 (wL_law_59 post L xs (nI (1 + j)) x3 x4 6 338) := by
    intro x3 x4 anc up fl ls lf la lr el ml al ll pa mp su ex no hI hQ
    unfold wL_law_59
    exact br_c (fun _ => k81 _ _ _ _ _ _ _ _ _ _ _ _ _ _ _ _ _ _ hI hQ) (fun _ => k81 _ _ _ _ _ _ _ _ _ _ _ _ _ _ _ _ _ _ hI hQ)
  refine x_setAnchor (fun _ => ?_) (fun q => absurd ha q)
  exact l_cell (k := 2) (by omega) hL (fun r => nm_e (br_c (fun _ => nm_e (k59 _ _ _ _ _ _ _ _ _ _ _ _ _ _ _ _ _ _ cp_Inv0 cw_Q0)) (fun _ => k59 _ _ _ _ _ _ _ _ _ _ _ _ _ _ _ _ _ _ cp_Inv0 cw_Q0)))
end LB
end
section
section LR
variable {cap cnt anc up fl ls lf la lr el ml al ll : Int32} {pa mp su ex no : Nat → Int32}
/-! reading the object -/
theorem l_ne {c : Nat} (h : c < 2 ^ 31) : ¬ nI c = -1 := by
  intro e
  have := nI_pos (n := c) h
  rw [e] at this
  exact this (by decide)
theorem l_getF {post : Int32 → Prop} {n c f : Nat} (hn : n ≤ 8) (hc : c < n) (hf : f < 12) (h : post (pa (12 * c + f))) : wpX_getField post (cap, (nI n), anc, up, fl, ls, lf, la, lr, el, ml, al, ll, pa, mp, su, ex, no) (nI c) (nI f) := by
  unfold wpX_getField
  exact br_f (l_ne (by omega)) (x_isCert hn (fun _ => br_f (by decide) (x_inRange (fun _ => br_f (by decide) (x_part (by omega) hf h)) (fun q => absurd ⟨nI_pos' (by omega), nI_le (b := 11) (by omega) (by omega)⟩ q))) (fun q => absurd ⟨nI_pos' (by omega), nI_lt hc (by omega)⟩ q))
theorem l_getMT {post : Int32 → Prop} {n c s : Nat} (hn : n ≤ 8) (hc : c < n) (s1 : 1 ≤ s) (s2 : s < 16) (h : post (mp (16 * c + s))) : wpX_getMappingTargets post (cap, (nI n), anc, up, fl, ls, lf, la, lr, el, ml, al, ll, pa, mp, su, ex, no) (nI c) (nI s) := by
  unfold wpX_getMappingTargets
  exact x_isCert hn (fun _ => br_f (by decide) (x_isSpec (fun _ => br_f (by decide) (x_targets (by omega) s2 h)) (fun q => absurd ⟨nI_le (a := 1) s1 (by omega), nI_le (b := 15) (by omega) (by omega)⟩ q))) (fun q => absurd ⟨nI_pos' (by omega), nI_lt hc (by omega)⟩ q)
theorem l_getSub {post : Int32 → Prop} {n c kd k K : Nat} (hn : n ≤ 8) (hc : c < n) (hkd : kd < 2) (hK : K ≤ 4) (hp : pa (12 * c + (10 + kd)) = nI K) (hk : k < K) (h : post (su (8 * c + 4 * kd + k))) : wpX_getSubtree post (cap, (nI n), anc, up, fl, ls, lf, la, lr, el, ml, al, ll, pa, mp, su, ex, no) (nI c) (nI kd) (nI k) := by
  unfold wpX_getSubtree
  have kk : nI kd = 0 ∨ nI kd = 1 := by
    have : kd = 0 ∨ kd = 1 := by omega
    rcases this with rfl | rfl
    · exact Or.inl rfl
    · exact Or.inr rfl
  refine x_isCert hn (fun _ => br_f (by decide) (x_isKind (fun _ => br_f (by decide) (br_f (nI_pos (by omega)) (x_subCnt (by omega) hkd ?_))) (fun q => absurd kk q))) (fun q => absurd ⟨nI_pos' (by omega), nI_lt hc (by omega)⟩ q)
  rw [hp]
  refine br_t (nI_lt hk (by omega)) (x_first ?_)
  have e : nI (8 * c + 4 * kd) + nI k = nI (8 * c + 4 * kd + k) := nI_add _ _
  rw [e, nI_clamp (by omega)]
  exact ⟨vp_in_nI (by omega) (by omega), h⟩
/-! the law's lies -/
theorem l_b15 : ∀ b, b < 4 → bt 15 b = true := by decide +kernel
theorem l_b15h : ∀ b, b < 32 → 4 ≤ b → bt 15 b = false := by decide +kernel
theorem l_gb {x : Int32} {k b : Nat} (hk : k < 4) (hb : b < 4) : bt (cp_g x k) b = bt x (4 * k + b) := by
  unfold cp_g
  rw [b_and, b_sshr (4 * k) (by omega) x (by omega), if_pos (by omega), l_b15 b hb, Bool.and_true]
theorem l_ge {x y : Int32} {k : Nat} (hk : k < 4) (h : ∀ b, b < 4 → bt x (4 * k + b) = bt y (4 * k + b)) : cp_g x k = cp_g y k := by
  refine b_ext fun b hb => ?_
  by_cases h4 : b < 4
  · rw [l_gb hk h4, l_gb hk h4]; exact h b h4
  · unfold cp_g
    rw [b_and, b_and, l_b15h b hb (by omega), Bool.and_false, Bool.and_false]
theorem l_mask : ∀ l, l < 5 → ∀ i, i < 32 → bt (((1 : Int32) <<< (nI (4 * l) &&& 31)) - 1) i = decide (i < 4 * l) := by decide +kernel
theorem l_hi {s : Int32} (h : 0 ≤ s ∧ s ≤ 65535) {i : Nat} (h16 : 16 ≤ i) (hi : i < 32) : bt s i = false := by
  obtain ⟨j, _, j2, rfl⟩ := x_rng (a := 0) (b := 65535) (by omega) h (by omega)
  show (BitVec.ofNat 32 j).getLsbD i = false
  rw [BitVec.getLsbD_ofNat, Nat.testBit_lt_two_pow (Nat.lt_of_lt_of_le (show j < 2 ^ 16 by omega) (Nat.pow_le_pow_right (by omega) h16)), Bool.and_false]
theorem l_lie {x s : Int32} (hs : cp_nm s) : x &&& (((1 : Int32) <<< (nI (4 * cp_l s) &&& 31)) - 1) = s ↔ cp_lie x s := by
  have l4 := cp_l4 s
  constructor
  · intro e k hk hg
    have kl := (cp_lk hs k hk).mp hg
    refine l_ge hk fun b hb => ?_
    have := congrArg (fun z => bt z (4 * k + b)) e
    rw [b_and, l_mask _ (by omega) _ (by omega), decide_eq_true (by omega), Bool.and_true] at this
    exact this.symm
  · intro h
    refine b_ext fun i hi => ?_
    rw [b_and, l_mask _ (by omega) i hi]
    by_cases c : i < 4 * cp_l s
    · rw [decide_eq_true c, Bool.and_true]
      have hk : i / 4 < 4 := by omega
      have hg := (cp_lk hs (i / 4) hk).mpr (by omega)
      have e := h (i / 4) hk hg
      have := congrArg (fun z => bt z (i % 4)) e
      rw [l_gb hk (by omega), l_gb hk (by omega)] at this
      have ei : 4 * (i / 4) + i % 4 = i := by omega
      rw [ei] at this
      exact this.symm
    · rw [decide_eq_false c, Bool.and_false]
      by_cases h16 : 16 ≤ i
      · exact (l_hi hs.1 h16 hi).symm
      · have hk : i / 4 < 4 := by omega
        have hg : cp_g s (i / 4) = 0 := Classical.byContradiction fun q => absurd ((cp_lk hs (i / 4) hk).mp q) (by omega)
        have := l_gb (x := s) (k := i / 4) (b := i % 4) hk (by omega)
        have ei : 4 * (i / 4) + i % 4 = i := by omega
        rw [hg, b_0, ei] at this
        exact this
theorem l_lies2 {post : Int32 → Prop} {x s : Int32} (hs : cp_nm s) (h : wL_lies_24 post x s (nI (cp_l s))) : ∀ d k, k + d = cp_l s → wL_lies_2 post x s (d + 1) (nI k) := by
  have l4 := cp_l4 s
  intro d
  induction d with
  | zero =>
    intro k hk
    obtain rfl : k = cp_l s := by omega
    refine br_c (fun _ => h) (fun q => ?_)
    have e : 4 * nI (cp_l s) = nI (4 * cp_l s) := pk_mul 4 _
    rw [e]
    refine br_t ?_ h
    by_cases c : cp_l s = 4
    · rw [c] at q; exact absurd (by decide) q
    · exact Classical.byContradiction fun z => absurd ((cp_lk hs (cp_l s) (by omega)).mp z) (by omega)
  | succ d ih =>
    intro k hk
    refine br_f (nI_ge (b := 4) (by omega) (by decide)) ?_
    have e : 4 * nI k = nI (4 * k) := pk_mul 4 _
    rw [e]
    exact br_f ((cp_lk hs k (by omega)).mpr (by omega)) (nm_r (nI_1 k) (ih (k + 1) (by omega)))
theorem l_lies {post : Int32 → Prop} {x s : Int32} (hs : cp_nm s) (h1 : cp_lie x s → post 1) (h0 : ¬ cp_lie x s → post 0) : wpL_lies post () x s := by
  refine ⟨cp_l s + 1, l_lies2 hs ?_ (cp_l s) 0 (by omega)⟩
  unfold wL_lies_24
  have e : 4 * nI (cp_l s) = nI (4 * cp_l s) := pk_mul 4 _
  rw [e]
  exact nm_e (br_c (fun q => h1 ((l_lie hs).mp q)) (fun q => h0 (fun z => q ((l_lie hs).mpr z))))
/-! a flag of the law -/
def cw_b (x : Int32) (P : Prop) : Prop := (x = 1 ∧ P) ∨ (x = 0 ∧ ¬ P)
theorem cw_bt {x : Int32} {P C : Prop} (h : cw_b x P) (c : C) : cw_b x (P ∧ C) := h.elim (fun q => Or.inl ⟨q.1, q.2, c⟩) (fun q => Or.inr ⟨q.1, fun z => q.2 z.1⟩)
theorem cw_bf {P C : Prop} (c : ¬ C) : cw_b 0 (P ∧ C) := Or.inr ⟨rfl, fun z => c z.2⟩
theorem cw_bi {x : Int32} {P P' : Prop} (h : cw_b x P) (e : P ↔ P') : cw_b x P' := h.elim (fun q => Or.inl ⟨q.1, e.mp q.2⟩) (fun q => Or.inr ⟨q.1, fun z => q.2 (e.mpr z)⟩)
theorem cw_b0 {x : Int32} {P : Prop} (h : cw_b x P) : x = 0 ↔ ¬ P := by
  rcases h with ⟨rfl, p⟩ | ⟨rfl, p⟩
  · exact ⟨fun q => absurd q (by decide), fun q => absurd p q⟩
  · exact ⟨fun _ => p, fun _ => rfl⟩
variable {post : Int32 → Prop} {L : Nat} {xs : Nat → Int32} {J : Int32 → Int32 → Int32 → Int32 → Int32 → Prop} {kc ks n i : Nat} {x9 x10 x12 x13 : Int32} {P : Prop}
/-! the leaf's answer -/
theorem l_1690 {x2 x6 x7 x8 R x14 F : Int32} (hb : cw_b x9 P) (h : ∀ y, cw_b y (P ∧ ¬ (x14 = 0 ∧ F = 0)) → J y x10 R F (nI (i + 1))) : wL_law_1690 post L xs J x2 x6 x7 x8 x9 x10 R x14 (nI i) F kc ks cap cnt anc up fl ls lf la lr el ml al ll pa mp su ex no := by
  unfold wL_law_1690
  rw [nI_1]
  exact br_c (fun a => br_c (fun b => nm_e (h 0 (cw_bf (fun q => q ⟨a, b⟩)))) (fun b => nm_e (h x9 (cw_bt hb (fun q => b q.2))))) (fun a => nm_e (h x9 (cw_bt hb (fun q => a q.1))))
theorem l_s2 {k : Nat} (hk : k < 16) : nI k >>> ((2 : Int32) &&& 31) = nI (k / 4) := pk_shrN (by omega) _ 2 (by decide)
theorem l_m3 {k : Nat} (hk : k < 16) : nI k &&& 3 = nI (k % 4) := pk_andN (by omega) 2 (by decide)
theorem l_1625 {x2 x6 x8 m x14 : Int32} {N : Nat → Nat → Prop} (hN : cw_R m N) (hZ : cw_Z N) (hb : cw_b x9 P) (h : ∀ R y, cp_R N R → cw_b y (P ∧ ¬ (x14 = 0 ∧ cp_F up R = 0)) → J y x10 R (cp_F up R) (nI (i + 1))) :
    ∀ (d k : Nat) (R : Int32), k + d = 16 → cw_r m k R → wL_law_1625 post L xs J x2 x6 up x8 x9 x10 m x14 (nI i) kc ks cap cnt anc up fl ls lf la lr el ml al ll pa mp su ex no (d + 1) R (nI k) := by
  intro d
  induction d with
  | zero =>
    intro k R hk H
    obtain rfl : k = 16 := by omega
    have hR := cw_rR H hN hZ
    have h' := fun y => h R y hR
    unfold cp_F at h'
    refine br_t (by decide) (br_c (fun u0 => br_c (fun r0 => ?_) (fun r0 => ?_)) (fun u0 => ?_))
    · rw [if_pos u0, if_pos r0] at h'
      exact l_1690 hb h'
    · rw [if_pos u0, if_neg r0] at h'
      exact l_1690 hb h'
    · rw [if_neg u0] at h'
      exact l_1690 hb h'
  | succ d ih =>
    intro k R hk H
    refine br_f (nI_ge (b := 16) (by omega) (by decide)) ?_
    rw [l_s2 (by omega)]
    exact br_c (fun hz => nm_r (nI_1 k) (ih (k + 1) R (by omega) (cw_rz H ((cq_by m (by omega)).mp hz)))) (fun hz => nm_e (nm_r (nI_1 k) (ih (k + 1) _ (by omega) (cw_rs (by omega) H (cq_nf.mp (mt (cq_by m (by omega)).mpr hz))))))
/-! the next set -/
theorem l_1535 {J2 : Int32 → Int32 → Prop} {x2 x6 x7 x8 x11 x20 tv m0 : Int32} {k : Nat} (hk : k < 16)
    (h : ∀ s, cw_ad m0 s (fun j => ∃ t, 1 ≤ t ∧ t < 4 ∧ bt tv t = true ∧ j = 4 * (k / 4) + t) → J2 s (nI (k + 1))) :
    ∀ (d t : Nat) (s : Int32), t + d = 4 → 1 ≤ t → cw_ad m0 s (fun j => ∃ t', 1 ≤ t' ∧ t' < t ∧ bt tv t' = true ∧ j = 4 * (k / 4) + t') →
    wL_law_1535 post L xs J J2 x2 x6 x7 x8 x9 x11 x12 x13 (nI i) x20 (nI k) (nI (k / 4)) tv kc ks cap cnt anc up fl ls lf la lr el ml al ll pa mp su ex no (d + 1) s (nI t) := by
  intro d
  induction d with
  | zero =>
    intro t s ht t1 H
    obtain rfl : t = 4 := by omega
    exact br_t (by decide) (nm_r (nI_1 k) (h s H))
  | succ d ih =>
    intro t s ht t1 H
    refine br_f (nI_ge (b := 4) (by omega) (by decide)) ?_
    have e : nI (k / 4) * 4 + nI t = nI (4 * (k / 4) + t) := x_ix
    rw [e]
    refine br_c (fun hb => nm_r (nI_1 t) (ih (t + 1) s (by omega) (by omega) (cw_adn H fun j => ⟨?_, ?_⟩))) (fun hb => nm_e (nm_r (nI_1 t) (ih (t + 1) _ (by omega) (by omega) (cw_adh (by omega) H fun j => ⟨?_, ?_⟩))))
    · rintro ⟨t', a, b, c, f⟩
      by_cases eq : t' = t
      · subst eq; rw [(cq_by tv (by omega)).mp hb] at c; exact absurd c (by decide)
      · exact ⟨t', a, by omega, c, f⟩
    · rintro ⟨t', a, b, c⟩
      exact ⟨t', a, by omega, c⟩
    · rintro ⟨t', a, b, c, f⟩
      by_cases eq : t' = t
      · subst eq; exact Or.inr f
      · exact Or.inl ⟨t', a, by omega, c, f⟩
    · rintro (⟨t', a, b, c⟩ | a)
      · exact ⟨t', a, by omega, c⟩
      · exact ⟨t, t1, by omega, cq_nf.mp (mt (cq_by tv (by omega)).mpr hb), a⟩
theorem l_1471 {x2 x6 x7 x8 m p : Int32} (hn : n ≤ 8) (hi : i < n)
    (h : ∀ s, cw_I (cw_B p (fun v => mp (16 * i + v))) m 16 s → J x9 s x12 x13 (nI (i + 1))) :
    ∀ (d k : Nat) (s : Int32), k + d = 16 → cw_I (cw_B p (fun v => mp (16 * i + v))) m k s → wL_law_1471 post L xs J x2 x6 x7 x8 x9 m x12 x13 (nI i) p kc ks cap (nI n) anc up fl ls lf la lr el ml al ll pa mp su ex no (d + 1) s (nI k) := by
  intro d
  induction d with
  | zero =>
    intro k s hk H
    obtain rfl : k = 16 := by omega
    exact br_t (by decide) (nm_r (nI_1 i) (h s H))
  | succ d ih =>
    intro k s hk H
    refine br_f (nI_ge (b := 16) (by omega) (by decide)) (br_c (fun s0 => nm_r (nI_1 k) (ih (k + 1) s (by omega) (cw_In H ((cq_by m (by omega)).mp s0)))) (fun s0 => nm_r (l_s2 (by omega)) (nm_r (l_m3 (by omega)) ?_)))
    have hb := cq_nf.mp (mt (cq_by m (by omega)).mpr s0)
    have hit : ¬ (k % 4 ≠ 0 ∧ ¬ mp (16 * i + k % 4) = 0) → wL_law_1471 post L xs J x2 x6 x7 x8 x9 m x12 x13 (nI i) p kc ks cap (nI n) anc up fl ls lf la lr el ml al ll pa mp su ex no (d + 1) (s ||| ((1 : Int32) <<< (nI k &&& 31))) (nI (k + 1)) := by
      intro hq
      refine ih (k + 1) _ (by omega) (cw_Is H hb (cw_adh (P := fun _ => False) (by omega) (cw_ad0 fun _ a => a) fun j => ⟨?_, ?_⟩))
      · rintro (⟨a, b⟩ | ⟨a, _⟩)
        · exact Or.inr b
        · exact absurd a hq
      · rintro (a | a)
        · exact absurd a id
        · exact Or.inl ⟨hq, a⟩
    refine pk_eq (k % 4) 0 (fun e0 => ?_) (fun e0 => ?_)
    · unfold wL_law_1520
      exact br_t rfl (nm_e (nm_r (nI_1 k) (hit fun a => a.1 e0)))
    · refine l_getMT hn hi (by omega) (by omega) ?_
      unfold wL_law_1520
      refine br_c (fun m0 => nm_e (nm_r (nI_1 k) (hit fun a => a.2 m0))) (fun m0 => br_c (fun p0 => nm_r (nI_1 k) (ih (k + 1) s (by omega) (cw_Is H hb (cw_ad0 fun j => ?_)))) (fun p0 => ⟨4, l_1535 (by omega) (m0 := s) (fun s' h' => ih (k + 1) s' (by omega) (cw_Is H hb (cw_adn h' fun j => ⟨?_, ?_⟩))) 3 1 s rfl (by omega) (cw_ad0 ?_)⟩))
      · rintro (⟨a, _⟩ | ⟨_, a, _⟩)
        · exact a ⟨e0, m0⟩
        · exact absurd a (Int32.not_lt.mpr p0)
      · rintro (⟨a, _⟩ | ⟨_, _, a⟩)
        · exact absurd ⟨e0, m0⟩ a
        · exact a
      · intro a
        exact Or.inr ⟨⟨e0, m0⟩, Int32.not_le.mp p0, a⟩
      · rintro j ⟨t, a, b, _⟩
        omega
theorem l_1460 {x2 x6 x8 m E p lt : Int32} (hn : n ≤ 8) (hi : i < n) (hE : 0 ≤ E) {N : Nat → Nat → Prop} (hN : cw_R m N) (hZ : cw_Z N) (hT : cw_T4 (fun v => mp (16 * i + v))) (hb : cw_b x9 P)
    (hA : lt = 0 → ∀ s, cw_R s (cp_S N p (fun v => mp (16 * i + v))) → J x9 s 0 0 (nI (i + 1)))
    (hB : ¬ lt = 0 → ∀ R y, cp_R N R → cw_b y (P ∧ ¬ ((E ≤ 1 ∨ pa (12 * i + 7) = 0) ∧ cp_F up R = 0)) → J y x10 R (cp_F up R) (nI (i + 1))) :
    wL_law_1460 post L xs J x2 x6 up x8 x9 x10 m 0 0 (nI i) lt E p kc ks cap (nI n) anc up fl ls lf la lr el ml al ll pa mp su ex no := by
  unfold wL_law_1460
  have fin : ¬ lt = 0 → ∀ x14 : Int32, (x14 = 0 ↔ (E ≤ 1 ∨ pa (12 * i + 7) = 0)) → ∃ fu, wL_law_1625 post L xs J x2 x6 up x8 x9 x10 m x14 (nI i) kc ks cap (nI n) anc up fl ls lf la lr el ml al ll pa mp su ex no fu 0 0 := by
    intro hl x14 hx
    refine ⟨17, l_1625 hN hZ hb (fun R y hR hy => hB hl R y hR (cw_bi hy ?_)) 16 0 0 rfl cw_r0⟩
    rw [hx]
  refine br_c (fun l0 => ⟨17, l_1471 hn hi (fun s hs => hA l0 s (cw_S hT hZ hN hs)) 16 0 0 rfl cw_I0⟩) (fun l0 => l_getF (f := 7) hn hi (by decide) (br_c (fun r0 => fin l0 0 ⟨fun _ => Or.inr r0, fun _ => rfl⟩) (fun r0 => ?_)))
  obtain ⟨j, hj, rfl⟩ := nI_of (x := E) (Int32.not_lt.mpr hE)
  refine pk_le j 0 (fun a => fin l0 0 ⟨fun _ => Or.inl ?_, fun _ => rfl⟩) (fun a => nm_e (fin l0 _ ?_))
  · obtain rfl : j = 0 := by omega
    decide
  · obtain ⟨q, rfl⟩ : ∃ q, j = q + 1 := ⟨j - 1, by omega⟩
    rw [nI_pred]
    have a1 : nI q = 0 ↔ q = 0 := nI_eq (b := 0) (by omega) (by omega)
    have a2 : nI (q + 1) ≤ 1 ↔ q + 1 ≤ 1 := nI_leI (b := 1) (by omega) (by omega)
    rw [a1, a2]
    constructor
    · intro z; exact Or.inl (by omega)
    · rintro (z | z)
      · omega
      · exact absurd z r0
end LR
end
section
section LN
variable {cap cnt anc up fl ls lf la lr el ml al ll : Int32} {pa mp su ex no : Nat → Int32}
variable {post : Int32 → Prop} {L : Nat} {xs : Nat → Int32} {J : Int32 → Int32 → Int32 → Int32 → Int32 → Prop} {kc ks n i : Nat} {x9 x10 x12 x13 : Int32} {P : Prop}
theorem l_5 {q : Nat} : nI q * 5 = nI (5 * q) := by
  have e : nI q * 5 = nI (q * 5) := pk_mul q 5
  rw [e, Nat.mul_comm]
/-! the node set -/
theorem l_1407 {J2 : Int32 → Int32 → Prop} {x2 x6 x7 x8 lt E p C z m0 : Int32} {k : Nat} (hn : n ≤ 8) (hi : i < n)
    (h : ∀ m, cw_ad m0 m (fun j => ∃ q, 1 ≤ q ∧ q < 4 ∧ ¬ mp (16 * i + q) = 0 ∧ j = 5 * q) → J2 m (nI (k + 1))) :
    ∀ (d q : Nat) (m : Int32), q + d = 4 → 1 ≤ q → cw_ad m0 m (fun j => ∃ q', 1 ≤ q' ∧ q' < q ∧ ¬ mp (16 * i + q') = 0 ∧ j = 5 * q') →
    wL_law_1407 post L xs J J2 x2 x6 x7 x8 x9 x10 x12 x13 (nI i) lt E p C z (nI k) kc ks cap (nI n) anc up fl ls lf la lr el ml al ll pa mp su ex no (d + 1) m (nI q) := by
  intro d
  induction d with
  | zero =>
    intro q m hq q1 H
    obtain rfl : q = 4 := by omega
    exact br_t (by decide) (nm_r (nI_1 k) (h m H))
  | succ d ih =>
    intro q m hq q1 H
    refine br_f (nI_ge (b := 4) (by omega) (by decide)) (l_getMT hn hi q1 (by omega) ?_)
    rw [l_5]
    refine br_c (fun hb => nm_r (nI_1 q) (ih (q + 1) m (by omega) (by omega) (cw_adn H fun j => ⟨?_, ?_⟩))) (fun hb => nm_e (nm_r (nI_1 q) (ih (q + 1) _ (by omega) (by omega) (cw_adh (by omega) H fun j => ⟨?_, ?_⟩))))
    · rintro ⟨t', a, b, c, f⟩
      by_cases eq : t' = q
      · subst eq; exact absurd hb c
      · exact ⟨t', a, by omega, c, f⟩
    · rintro ⟨t', a, b, c⟩
      exact ⟨t', a, by omega, c⟩
    · rintro ⟨t', a, b, c, f⟩
      by_cases eq : t' = q
      · subst eq; exact Or.inr f
      · exact Or.inl ⟨t', a, by omega, c, f⟩
    · rintro (⟨t', a, b, c⟩ | a)
      · exact ⟨t', a, by omega, c⟩
      · exact ⟨q, q1, by omega, hb, a⟩
theorem l_1350 {J2 : Int32 → Int32 → Prop} {x2 x6 x7 x8 lt E p C z m0 : Int32} {k : Nat} {an : Prop} (hn : n ≤ 8) (hi : i < n) (hz : z = 0 ↔ ¬ an) (hl : lt = 0 ↔ i + 1 ≠ n)
    (h : ∀ m, cw_ad m0 m (fun j => (∃ q, 1 ≤ q ∧ q < 4 ∧ bt C q = true ∧ j = 5 * q) ∨ (an ∧ (j = 0 ∨ (cp_op n p i ∧ ∃ q, 1 ≤ q ∧ q < 4 ∧ ¬ mp (16 * i + q) = 0 ∧ j = 5 * q)))) → J2 m (nI (k + 1))) :
    ∀ (d q : Nat) (m : Int32), q + d = 4 → 1 ≤ q → cw_ad m0 m (fun j => ∃ q', 1 ≤ q' ∧ q' < q ∧ bt C q' = true ∧ j = 5 * q') →
    wL_law_1350 post L xs J J2 x2 x6 x7 x8 x9 x10 x12 x13 (nI i) lt E p C z (nI k) kc ks cap (nI n) anc up fl ls lf la lr el ml al ll pa mp su ex no (d + 1) m (nI q) := by
  intro d
  induction d with
  | zero =>
    intro q m hq q1 H
    obtain rfl : q = 4 := by omega
    refine br_t (by decide) (br_c (fun z0 => nm_r (nI_1 k) (h m (cw_adn H fun j => ⟨?_, Or.inl⟩))) (fun z0 => nm_e ?_))
    · rintro (a | a)
      · exact a
      · exact absurd a.1 (hz.mp z0)
    · have ha : an := Classical.byContradiction fun c => z0 (hz.mpr c)
      have H1 : cw_ad m0 (m ||| 1) (fun j => (∃ q', 1 ≤ q' ∧ q' < 4 ∧ bt C q' = true ∧ j = 5 * q') ∨ j = 0) := cw_ad1 H fun j => Iff.rfl
      have nop : ¬ cp_op n p i → J2 (m ||| 1) (nI (k + 1)) := by
        intro ho
        refine h _ (cw_adn H1 fun j => ⟨?_, ?_⟩)
        · rintro (a | ⟨_, a | a⟩)
          · exact Or.inl a
          · exact Or.inr a
          · exact absurd a.1 ho
        · rintro (a | a)
          · exact Or.inl a
          · exact Or.inr ⟨ha, Or.inl a⟩
      refine br_c (fun l0 => br_c (fun p0 => nm_r (nI_1 k) (nop fun a => absurd a.2 (Int32.not_lt.mpr p0))) (fun p0 => ⟨4, ?_⟩)) (fun l0 => nm_r (nI_1 k) (nop fun a => l0 (hl.mpr a.1)))
      have ho : cp_op n p i := ⟨hl.mp l0, Int32.not_le.mp p0⟩
      refine l_1407 hn hi (m0 := m ||| 1) (fun m' h' => h m' fun j hj => ?_) 3 1 _ rfl (by omega) (cw_ad0 ?_)
      · rw [h' j hj, H1 j hj]
        constructor
        · rintro ((a | a | a) | a)
          · exact Or.inl a
          · exact Or.inr (Or.inl a)
          · exact Or.inr (Or.inr ⟨ha, Or.inl a⟩)
          · exact Or.inr (Or.inr ⟨ha, Or.inr ⟨ho, a⟩⟩)
        · rintro (a | a | ⟨_, a | ⟨_, a⟩⟩)
          · exact Or.inl (Or.inl a)
          · exact Or.inl (Or.inr (Or.inl a))
          · exact Or.inl (Or.inr (Or.inr a))
          · exact Or.inr a
      · rintro j ⟨q', a, b, _⟩
        omega
  | succ d ih =>
    intro q m hq q1 H
    refine br_f (nI_ge (b := 4) (by omega) (by decide)) ?_
    rw [l_5]
    refine br_c (fun hb => nm_r (nI_1 q) (ih (q + 1) m (by omega) (by omega) (cw_adn H fun j => ⟨?_, ?_⟩))) (fun hb => nm_e (nm_r (nI_1 q) (ih (q + 1) _ (by omega) (by omega) (cw_adh (by omega) H fun j => ⟨?_, ?_⟩))))
    · rintro ⟨t', a, b, c, f⟩
      by_cases eq : t' = q
      · subst eq; rw [(cq_by C (by omega)).mp hb] at c; exact absurd c (by decide)
      · exact ⟨t', a, by omega, c, f⟩
    · rintro ⟨t', a, b, c⟩
      exact ⟨t', a, by omega, c⟩
    · rintro ⟨t', a, b, c, f⟩
      by_cases eq : t' = q
      · subst eq; exact Or.inr f
      · exact Or.inl ⟨t', a, by omega, c, f⟩
    · rintro (⟨t', a, b, c⟩ | a)
      · exact ⟨t', a, by omega, c⟩
      · exact ⟨q, q1, by omega, cq_nf.mp (mt (cq_by C (by omega)).mpr hb), a⟩
theorem l_1289 {x2 x6 x7 x8 lt E p C z s : Int32} {an : Prop} (hn : n ≤ 8) (hi : i < n) (hz : z = 0 ↔ ¬ an) (hl : lt = 0 ↔ i + 1 ≠ n) (hb : cw_b x9 P)
    (h : ∀ m y, cw_I (cw_A C an (cp_op n p i) (fun v => mp (16 * i + v))) s 16 m → cw_b y (P ∧ ¬ (E = 0 ∧ m = 0)) → wL_law_1460 post L xs J x2 x6 x7 x8 y s m x12 x13 (nI i) lt E p kc ks cap (nI n) anc up fl ls lf la lr el ml al ll pa mp su ex no) :
    ∀ (d k : Nat) (m : Int32), k + d = 16 → cw_I (cw_A C an (cp_op n p i) (fun v => mp (16 * i + v))) s k m → wL_law_1289 post L xs J x2 x6 x7 x8 x9 s x12 x13 (nI i) lt E p C z kc ks cap (nI n) anc up fl ls lf la lr el ml al ll pa mp su ex no (d + 1) m (nI k) := by
  intro d
  induction d with
  | zero =>
    intro k m hk H
    obtain rfl : k = 16 := by omega
    exact br_t (by decide) (br_c (fun e0 => br_c (fun m0 => h m 0 H (cw_bf fun q => q ⟨e0, m0⟩)) (fun m0 => h m x9 H (cw_bt hb fun q => m0 q.2))) (fun e0 => h m x9 H (cw_bt hb fun q => e0 q.1)))
  | succ d ih =>
    intro k m hk H
    refine br_f (nI_ge (b := 16) (by omega) (by decide)) (br_c (fun s0 => nm_r (nI_1 k) (ih (k + 1) m (by omega) (cw_In H ((cq_by s (by omega)).mp s0)))) (fun s0 => nm_r (l_m3 (by omega)) (pk_eq (k % 4) 0 (fun e0 => ?_) (fun e0 => ?_))))
    · have hs := cq_nf.mp (mt (cq_by s (by omega)).mpr s0)
      refine ⟨4, l_1350 hn hi hz hl (m0 := m) (fun m' h' => ih (k + 1) m' (by omega) (cw_Is H hs (cw_adn h' fun j => ⟨?_, ?_⟩))) 3 1 m rfl (by omega) (cw_ad0 ?_)⟩
      · rintro (⟨a, _⟩ | a)
        · exact absurd e0 a
        · exact a.2
      · intro a; exact Or.inr ⟨e0, a⟩
      · rintro j ⟨q', a, b, _⟩
        omega
    · have hs := cq_nf.mp (mt (cq_by s (by omega)).mpr s0)
      have hit : (bt C (k % 4) = true ∨ an) → wL_law_1335 post L xs J (wL_law_1289 post L xs J x2 x6 x7 x8 x9 s x12 x13 (nI i) lt E p C z kc ks cap (nI n) anc up fl ls lf la lr el ml al ll pa mp su ex no (d + 1)) x2 x6 x7 x8 x9 s m x12 x13 (nI i) lt E p C z (nI k) kc ks cap (nI n) anc up fl ls lf la lr el ml al ll pa mp su ex no := by
        intro hq
        unfold wL_law_1335
        refine nm_e (nm_r (nI_1 k) (ih (k + 1) _ (by omega) (cw_Is H hs (cw_adh (P := fun _ => False) (by omega) (cw_ad0 fun _ a => a) fun j => ⟨?_, ?_⟩))))
        · rintro (⟨a, b, c⟩ | ⟨a, _⟩)
          · exact Or.inr b
          · exact absurd a e0
        · rintro (a | a)
          · exact absurd a id
          · exact Or.inl ⟨e0, a, hq⟩
      refine br_c (fun c0 => br_c (fun z0 => nm_r (nI_1 k) (ih (k + 1) m (by omega) (cw_Is H hs (cw_ad0 fun j => ?_)))) (fun z0 => hit (Or.inr (Classical.byContradiction fun c => z0 (hz.mpr c))))) (fun c0 => hit (Or.inl (cq_nf.mp (mt (cq_by C (by omega)).mpr c0))))
      rintro (⟨_, _, a | a⟩ | ⟨a, _⟩)
      · rw [(cq_by C (by omega)).mp c0] at a; exact absurd a (by decide)
      · exact absurd a (hz.mp z0)
      · exact absurd a e0
theorem l_1244 {x2 x6 x7 x8 lt ns E p a s : Int32} (hn : n ≤ 8) (hi : i < n) (hns : ns = 0 ↔ cp_self pa i) (hl : lt = 0 ↔ i + 1 ≠ n) (hb : cw_b x9 P)
    (h : ∀ m y, cw_I (cw_A (pa (12 * i + 6)) (cp_an pa n a i) (cp_op n p i) (fun v => mp (16 * i + v))) s 16 m → cw_b y (P ∧ ¬ (E = 0 ∧ m = 0)) → wL_law_1460 post L xs J x2 x6 x7 x8 y s m x12 x13 (nI i) lt E p kc ks cap (nI n) anc up fl ls lf la lr el ml al ll pa mp su ex no) :
    wL_law_1244 post L xs J x2 x6 x7 x8 x9 s x12 x13 (nI i) lt ns E p a kc ks cap (nI n) anc up fl ls lf la lr el ml al ll pa mp su ex no := by
  unfold wL_law_1244
  have key : ∀ z : Int32, (z = 0 ↔ ¬ cp_an pa n a i) → ∃ fu, wL_law_1289 post L xs J x2 x6 x7 x8 x9 s x12 x13 (nI i) lt E p (pa (12 * i + 6)) z kc ks cap (nI n) anc up fl ls lf la lr el ml al ll pa mp su ex no fu 0 0 := by
    intro z hz
    exact ⟨17, l_1289 hn hi hz hl hb h 16 0 0 rfl cw_I0⟩
  refine l_getF (f := 6) hn hi (by decide) (br_c (fun b0 => key 0 ⟨fun _ q => ?_, fun _ => rfl⟩) (fun b0 => ?_))
  · have q1 := q.1
    rw [(cq_b0 _).mp b0] at q1
    exact absurd q1 (by decide)
  · have hb1 := cq_nf.mp (mt (cq_b0 _).mpr b0)
    refine br_c (fun a0 => key 1 ⟨fun q => absurd q (by decide), fun q => absurd ⟨hb1, Or.inl a0⟩ q⟩) (fun a0 => br_c (fun s0 => br_c (fun l0 => key 1 ⟨fun q => absurd q (by decide), fun q => absurd ⟨hb1, Or.inr ⟨hns.mp s0, hl.mp l0⟩⟩ q⟩) (fun l0 => key 0 ⟨fun _ q => q.2.elim a0 (fun w => l0 (hl.mpr w.2)), fun _ => rfl⟩)) (fun s0 => key 0 ⟨fun _ q => q.2.elim a0 (fun w => s0 (hns.mpr w.1)), fun _ => rfl⟩))
/-! the counters -/
theorem l_min {Q : Int32 → Prop} {G : Int} {c : Nat} {l : Int32} (g1 : -300 ≤ G) (g2 : G ≤ 300) (hc : c ≤ 8) (hl : -1 ≤ l.toInt ∧ l.toInt ≤ 15)
    (h : Q (iI (if 0 ≤ l.toInt ∧ l.toInt - c < G then l.toInt - c else G))) : (l < 0 → Q (iI G)) ∧ (¬ l < 0 → (iI G ≤ l - nI c → Q (iI G)) ∧ (¬ iI G ≤ l - nI c → Q (l - nI c))) := by
  have e : l - nI c = iI (l.toInt - c) := by
    have e1 := iI_sub (a := l.toInt) (b := (c : Int)) (by omega) (by omega) (by omega) (by omega)
    rw [← iI_of, ← iI_n c (by omega)] at e1
    exact e1
  have z : l < 0 ↔ l.toInt < 0 := by
    rw [Int32.lt_iff_toInt_lt]
    rfl
  rw [e, z, iI_le (by omega) (by omega) (by omega) (by omega)]
  refine ⟨fun a => ?_, fun a => ⟨fun b => ?_, fun b => ?_⟩⟩
  · rw [if_neg (by omega)] at h; exact h
  · rw [if_neg (by omega)] at h; exact h
  · rw [if_pos (by omega)] at h; exact h
theorem l_clamp {Q : Int32 → Prop} {G : Int} (g1 : -300 ≤ G) (g2 : G ≤ 300) (h : Q (iI (cw_m G))) : (0 ≤ iI G → Q (iI G)) ∧ (¬ 0 ≤ iI G → Q 0) := by
  have z : 0 ≤ iI G ↔ 0 ≤ G := by rw [iI_0, iI_le (by omega) (by omega) (by omega) (by omega)]
  rw [z]
  unfold cw_m at h
  refine ⟨fun a => ?_, fun a => ?_⟩
  · rw [if_pos a] at h; exact h
  · rw [if_neg a] at h; exact h
theorem l_1056a {J4 : Int32 → Int32 → Int32 → Int32 → Prop} {x2 x6 x7 x8 lt ns : Int32} {e p a : Int} (he : -20 ≤ e ∧ e ≤ 20) (hp : -20 ≤ p ∧ p ≤ 20) (ha : -20 ≤ a ∧ a ≤ 20) (hn : n ≤ 8) (hi : i < n)
    (h : J4 (iI (e - cw_c pa 0 i)) (iI (p - cw_c pa 0 i)) (iI (a - cw_c pa 0 i)) 0) :
    ∀ d m, m + d = i → wL_law_1056 post L xs J J4 x2 x6 x7 x8 x9 x10 x12 x13 (nI i) lt ns (iI e) (iI p) (iI a) (-1) kc ks cap (nI n) anc up fl ls lf la lr el ml al ll pa mp su ex no (d + 1) (nI (cw_c pa 0 m)) (nI m) := by
  intro d
  induction d with
  | zero =>
    intro m hm
    obtain rfl : m = i := by omega
    have hc := cw_cl (pa := pa) (a := 0) m
    have s : ∀ z : Int, -20 ≤ z ∧ z ≤ 20 → iI z - nI (cw_c pa 0 m) = iI (z - cw_c pa 0 m) := by
      intro z hz
      rw [iI_n _ (by omega)]
      exact iI_sub (by omega) (by omega) (by omega) (by omega)
    exact br_t (nI_le (by omega) (by omega)) (br_f (by decide) (nm_r (s e he) (nm_r (s p hp) (nm_r (s a ha) (nm_r (by decide) h)))))
  | succ d ih =>
    intro m hm
    have hs : cw_c pa 0 (m + 1) = cw_c pa 0 m + cw_v pa m := cw_cs (by omega)
    have h' := ih (m + 1) (by omega)
    refine br_f (nI_ge (by omega) (by omega)) (l_getF (f := 0) hn (by omega) (by decide) (l_getF (f := 1) hn (by omega) (by decide) (br_c (fun q => nm_r (nI_1 m) ?_) (fun q => nm_r (nI_1 _) (nm_r (nI_1 m) ?_)))))
    · have v0 : cw_v pa m = 0 := if_pos q
      rw [hs, v0] at h'
      exact h'
    · have v1 : cw_v pa m = 1 := if_neg q
      rw [hs, v1] at h'
      exact h'
theorem l_1056b {J4 : Int32 → Int32 → Int32 → Int32 → Prop} {x2 x6 x7 x8 lt ns : Int32} {e p a : Int} {k : Nat} (he : -20 ≤ e ∧ e ≤ 20) (hp : -20 ≤ p ∧ p ≤ 20) (ha : -20 ≤ a ∧ a ≤ 20) (hn : n ≤ 8) (hi : i < n) (hk : k < i) (hL : cw_L pa)
    (h : J4 (iI (if 0 ≤ (pa (12 * k + 7)).toInt ∧ (pa (12 * k + 7)).toInt - cw_c pa (k + 1) i < e then (pa (12 * k + 7)).toInt - cw_c pa (k + 1) i else e))
      (iI (if 0 ≤ (pa (12 * k + 8)).toInt ∧ (pa (12 * k + 8)).toInt - cw_c pa (k + 1) i < p then (pa (12 * k + 8)).toInt - cw_c pa (k + 1) i else p))
      (iI (if 0 ≤ (pa (12 * k + 9)).toInt ∧ (pa (12 * k + 9)).toInt - cw_c pa (k + 1) i < a then (pa (12 * k + 9)).toInt - cw_c pa (k + 1) i else a)) (nI (k + 1))) :
    ∀ d m, m + d = i → k + 1 ≤ m → wL_law_1056 post L xs J J4 x2 x6 x7 x8 x9 x10 x12 x13 (nI i) lt ns (iI e) (iI p) (iI a) (nI k) kc ks cap (nI n) anc up fl ls lf la lr el ml al ll pa mp su ex no (d + 1) (nI (cw_c pa (k + 1) m)) (nI m) := by
  intro d
  induction d with
  | zero =>
    intro m hm km
    obtain rfl : m = i := by omega
    have hc := cw_cl (pa := pa) (a := k + 1) m
    refine br_t (nI_le (by omega) (by omega)) (br_t (nI_pos' (by omega)) (l_getF (f := 7) hn (by omega) (by decide) (l_getF (f := 8) hn (by omega) (by decide) (l_getF (f := 9) hn (by omega) (by decide) ?_))))
    have k1192 : ∀ y w, J4 y w (iI (if 0 ≤ (pa (12 * k + 9)).toInt ∧ (pa (12 * k + 9)).toInt - cw_c pa (k + 1) m < a then (pa (12 * k + 9)).toInt - cw_c pa (k + 1) m else a)) (nI (k + 1)) → wL_law_1192 post L xs J J4 x2 x6 x7 x8 x9 x10 x12 x13 (nI m) lt ns y w (iI a) (nI k) (nI (cw_c pa (k + 1) m)) (pa (12 * k + 9)) kc ks cap (nI n) anc up fl ls lf la lr el ml al ll pa mp su ex no := by
      intro y w hj
      unfold wL_law_1192
      rw [nI_1]
      have t := l_min (Q := fun q => J4 y w q (nI (k + 1))) (G := a) (by omega) (by omega) (show cw_c pa (k + 1) m ≤ 8 by omega) (hL k 9 (by decide)) hj
      exact ⟨fun q => nm_e (t.1 q), fun q => ⟨fun r => nm_e ((t.2 q).1 r), fun r => nm_e (nm_e ((t.2 q).2 r))⟩⟩
    have k1170 : ∀ y, J4 y (iI (if 0 ≤ (pa (12 * k + 8)).toInt ∧ (pa (12 * k + 8)).toInt - cw_c pa (k + 1) m < p then (pa (12 * k + 8)).toInt - cw_c pa (k + 1) m else p)) (iI (if 0 ≤ (pa (12 * k + 9)).toInt ∧ (pa (12 * k + 9)).toInt - cw_c pa (k + 1) m < a then (pa (12 * k + 9)).toInt - cw_c pa (k + 1) m else a)) (nI (k + 1)) → wL_law_1170 post L xs J J4 x2 x6 x7 x8 x9 x10 x12 x13 (nI m) lt ns y (iI p) (iI a) (nI k) (nI (cw_c pa (k + 1) m)) (pa (12 * k + 8)) (pa (12 * k + 9)) kc ks cap (nI n) anc up fl ls lf la lr el ml al ll pa mp su ex no := by
      intro y hj
      unfold wL_law_1170
      have t := l_min (Q := fun q => J4 y q (iI (if 0 ≤ (pa (12 * k + 9)).toInt ∧ (pa (12 * k + 9)).toInt - cw_c pa (k + 1) m < a then (pa (12 * k + 9)).toInt - cw_c pa (k + 1) m else a)) (nI (k + 1))) (G := p) (by omega) (by omega) (show cw_c pa (k + 1) m ≤ 8 by omega) (hL k 8 (by decide)) hj
      exact ⟨fun q => k1192 _ _ (t.1 q), fun q => ⟨fun r => k1192 _ _ ((t.2 q).1 r), fun r => nm_e (k1192 _ _ ((t.2 q).2 r))⟩⟩
    have t := l_min (Q := fun q => J4 q (iI (if 0 ≤ (pa (12 * k + 8)).toInt ∧ (pa (12 * k + 8)).toInt - cw_c pa (k + 1) m < p then (pa (12 * k + 8)).toInt - cw_c pa (k + 1) m else p)) (iI (if 0 ≤ (pa (12 * k + 9)).toInt ∧ (pa (12 * k + 9)).toInt - cw_c pa (k + 1) m < a then (pa (12 * k + 9)).toInt - cw_c pa (k + 1) m else a)) (nI (k + 1))) (G := e) (by omega) (by omega) (show cw_c pa (k + 1) m ≤ 8 by omega) (hL k 7 (by decide)) h
    exact ⟨fun q => k1170 _ (t.1 q), fun q => ⟨fun r => k1170 _ ((t.2 q).1 r), fun r => nm_e (k1170 _ ((t.2 q).2 r))⟩⟩
  | succ d ih =>
    intro m hm km
    have hs : cw_c pa (k + 1) (m + 1) = cw_c pa (k + 1) m + cw_v pa m := cw_cs (by omega)
    have h' := ih (m + 1) (by omega) (by omega)
    refine br_f (nI_ge (by omega) (by omega)) (l_getF (f := 0) hn (by omega) (by decide) (l_getF (f := 1) hn (by omega) (by decide) (br_c (fun q => nm_r (nI_1 m) ?_) (fun q => nm_r (nI_1 _) (nm_r (nI_1 m) ?_)))))
    · have v0 : cw_v pa m = 0 := if_pos q
      rw [hs, v0] at h'
      exact h'
    · have v1 : cw_v pa m = 1 := if_neg q
      rw [hs, v1] at h'
      exact h'
def cw_G (pa : Nat → Int32) (f : Nat) (e : Int) (i k : Nat) : Int := cw_g (fun k => (pa (12 * k + f)).toInt) (cw_c pa) e i k
theorem cw_Gb {e : Int} {f k : Nat} (h0 : 0 ≤ e ∧ e ≤ 9) (hi : i ≤ 8) : -8 ≤ cw_G pa f e i k ∧ cw_G pa f e i k ≤ 9 :=
  cw_gb h0 (fun _ => Nat.le_trans (cw_cl i) hi) k
theorem l_1040 {x2 x6 x7 x8 lt ns : Int32} {e p a : Int} (he : 0 ≤ e ∧ e ≤ 9) (hp : 0 ≤ p ∧ p ≤ 9) (ha : 0 ≤ a ∧ a ≤ 9) (hn : n ≤ 8) (hi : i < n) (hL : cw_L pa)
    (h : wL_law_1244 post L xs J x2 x6 x7 x8 x9 x10 x12 x13 (nI i) lt ns (iI (cw_m (cw_G pa 7 e i i))) (iI (cw_m (cw_G pa 8 p i i))) (iI (cw_m (cw_G pa 9 a i i))) kc ks cap (nI n) anc up fl ls lf la lr el ml al ll pa mp su ex no) :
    ∀ d k, k + d = i → wL_law_1040 post L xs J x2 x6 x7 x8 x9 x10 x12 x13 (nI i) lt ns kc ks cap (nI n) anc up fl ls lf la lr el ml al ll pa mp su ex no (d + 1) (iI (cw_G pa 7 e i k)) (iI (cw_G pa 8 p i k)) (iI (cw_G pa 9 a i k)) (nI k) := by
  intro d
  induction d with
  | zero =>
    intro k hk
    obtain rfl : k = i := by omega
    have b7 := cw_Gb (pa := pa) (i := k) (f := 7) (k := k) he (by omega)
    have b8 := cw_Gb (pa := pa) (i := k) (f := 8) (k := k) hp (by omega)
    have b9 := cw_Gb (pa := pa) (i := k) (f := 9) (k := k) ha (by omega)
    have k1236 : ∀ y w, wL_law_1244 post L xs J x2 x6 x7 x8 x9 x10 x12 x13 (nI k) lt ns y w (iI (cw_m (cw_G pa 9 a k k))) kc ks cap (nI n) anc up fl ls lf la lr el ml al ll pa mp su ex no → wL_law_1236 post L xs J x2 x6 x7 x8 x9 x10 x12 x13 (nI k) lt ns y w (iI (cw_G pa 9 a k k)) kc ks cap (nI n) anc up fl ls lf la lr el ml al ll pa mp su ex no := by
      intro y w hj
      unfold wL_law_1236
      exact l_clamp (Q := fun q => wL_law_1244 post L xs J x2 x6 x7 x8 x9 x10 x12 x13 (nI k) lt ns y w q kc ks cap (nI n) anc up fl ls lf la lr el ml al ll pa mp su ex no) (by omega) (by omega) hj
    have k1228 : ∀ y, wL_law_1244 post L xs J x2 x6 x7 x8 x9 x10 x12 x13 (nI k) lt ns y (iI (cw_m (cw_G pa 8 p k k))) (iI (cw_m (cw_G pa 9 a k k))) kc ks cap (nI n) anc up fl ls lf la lr el ml al ll pa mp su ex no → wL_law_1228 post L xs J x2 x6 x7 x8 x9 x10 x12 x13 (nI k) lt ns y (iI (cw_G pa 8 p k k)) (iI (cw_G pa 9 a k k)) kc ks cap (nI n) anc up fl ls lf la lr el ml al ll pa mp su ex no := by
      intro y hj
      unfold wL_law_1228
      exact l_clamp (Q := fun q => wL_law_1236 post L xs J x2 x6 x7 x8 x9 x10 x12 x13 (nI k) lt ns y q (iI (cw_G pa 9 a k k)) kc ks cap (nI n) anc up fl ls lf la lr el ml al ll pa mp su ex no) (by omega) (by omega) (k1236 _ _ hj)
    exact br_t (nI_le (by omega) (by omega)) (l_clamp (Q := fun q => wL_law_1228 post L xs J x2 x6 x7 x8 x9 x10 x12 x13 (nI k) lt ns q (iI (cw_G pa 8 p k k)) (iI (cw_G pa 9 a k k)) kc ks cap (nI n) anc up fl ls lf la lr el ml al ll pa mp su ex no) (by omega) (by omega) (k1228 _ h))
  | succ d ih =>
    intro k hk
    have b7 := cw_Gb (pa := pa) (i := i) (f := 7) (k := k) he (by omega)
    have b8 := cw_Gb (pa := pa) (i := i) (f := 8) (k := k) hp (by omega)
    have b9 := cw_Gb (pa := pa) (i := i) (f := 9) (k := k) ha (by omega)
    have t := l_1056b (cap := cap) (anc := anc) (up := up) (fl := fl) (ls := ls) (lf := lf) (la := la) (lr := lr) (el := el) (ml := ml) (al := al) (ll := ll) (pa := pa) (mp := mp) (su := su) (ex := ex) (no := no) (post := post) (L := L) (xs := xs) (J := J) (kc := kc) (ks := ks) (x9 := x9) (x10 := x10) (x12 := x12) (x13 := x13) (x2 := x2) (x6 := x6) (x7 := x7) (x8 := x8) (lt := lt) (ns := ns) (e := cw_G pa 7 e i k) (p := cw_G pa 8 p i k) (a := cw_G pa 9 a i k) (k := k) ⟨by omega, by omega⟩ ⟨by omega, by omega⟩ ⟨by omega, by omega⟩ hn hi (by omega) hL (ih (k + 1) (by omega)) (i - (k + 1)) (k + 1) (by omega) (Nat.le_refl _)
    rw [cw_c0 (k + 1) (Nat.le_refl _)] at t
    exact br_f (nI_ge (by omega) (by omega)) (nm_r (nI_1 k) ⟨_, t⟩)
theorem l_1040s {x2 x6 x7 x8 lt ns : Int32} {e p a : Int} (he : 0 ≤ e ∧ e ≤ 9) (hp : 0 ≤ p ∧ p ≤ 9) (ha : 0 ≤ a ∧ a ≤ 9) (hn : n ≤ 8) (hi : i < n) (hL : cw_L pa)
    (h : wL_law_1244 post L xs J x2 x6 x7 x8 x9 x10 x12 x13 (nI i) lt ns (iI (cw_m (cw_G pa 7 e i i))) (iI (cw_m (cw_G pa 8 p i i))) (iI (cw_m (cw_G pa 9 a i i))) kc ks cap (nI n) anc up fl ls lf la lr el ml al ll pa mp su ex no) :
    ∃ fu, wL_law_1040 post L xs J x2 x6 x7 x8 x9 x10 x12 x13 (nI i) lt ns kc ks cap (nI n) anc up fl ls lf la lr el ml al ll pa mp su ex no fu (iI e) (iI p) (iI a) (-1) := by
  refine ⟨i + 2, br_f ?_ (nm_r (show (-1 : Int32) + 1 = nI 0 by decide) ⟨i + 1, ?_⟩)⟩
  · intro q
    have := Int32.le_trans (nI_pos' (n := i) (by omega)) q
    exact absurd this (by decide)
  · exact l_1056a ⟨by omega, by omega⟩ ⟨by omega, by omega⟩ ⟨by omega, by omega⟩ hn hi (l_1040 he hp ha hn hi hL h i 0 (by omega)) i 0 (by omega)
theorem l_c0 {b : Int32} : cp_c0 fl b n = iI (if fl &&& b = 0 then ((n + 1 : Nat) : Int) else 0) ∨ 1000 < n := by
  by_cases h : n ≤ 900
  · left
    unfold cp_c0
    split
    · rw [nI_1]; exact iI_n (n + 1) (by omega)
    · exact iI_0
  · by_cases h2 : 1000 < n
    · exact Or.inr h2
    · left
      unfold cp_c0
      split
      · rw [nI_1]
        by_cases h3 : n + 1 ≤ 1000
        · exact iI_n (n + 1) h3
        · have : n = 1000 := by omega
          subst this
          decide
      · exact iI_0
theorem l_989 {x6 x7 lt ns : Int32} (hn : n ≤ 8) (hi : i < n) (hL : cw_L pa)
    (h : wL_law_1244 post L xs J (nI n) x6 x7 fl x9 x10 x12 x13 (nI i) lt ns (cw_e pa (cp_c0 fl 1 n) 7 i) (cw_e pa (cp_c0 fl 2 n) 8 i) (cw_e pa (cp_c0 fl 4 n) 9 i) kc ks cap (nI n) anc up fl ls lf la lr el ml al ll pa mp su ex no) :
    wL_law_989 post L xs J (nI n) x6 x7 fl x9 x10 x12 x13 (nI i) lt ns kc ks cap (nI n) anc up fl ls lf la lr el ml al ll pa mp su ex no := by
  have cc : ∀ b : Int32, ∃ e : Int, (0 ≤ e ∧ e ≤ 9) ∧ cp_c0 fl b n = iI e := by
    intro b
    refine ⟨if fl &&& b = 0 then ((n + 1 : Nat) : Int) else 0, by split <;> omega, ?_⟩
    rcases l_c0 (fl := fl) (n := n) (b := b) with q | q
    · exact q
    · omega
  obtain ⟨e, he, e1⟩ := cc 1
  obtain ⟨p, hp, e2⟩ := cc 2
  obtain ⟨a, ha, e3⟩ := cc 4
  rw [e1, e2, e3, cw_eg hL he (by decide) i (by omega), cw_eg hL hp (by decide) i (by omega), cw_eg hL ha (by decide) i (by omega)] at h
  have key := l_1040s (post := post) (L := L) (xs := xs) (J := J) (kc := kc) (ks := ks) (x9 := x9) (x10 := x10) (x12 := x12) (x13 := x13) he hp ha hn hi hL h
  rw [← e1, ← e2, ← e3] at key
  have k1019 : ∀ y w : Int32, y = cp_c0 fl 1 n → w = cp_c0 fl 2 n → wL_law_1019 post L xs J (nI n) x6 x7 fl x9 x10 x12 x13 (nI i) lt ns y w kc ks cap (nI n) anc up fl ls lf la lr el ml al ll pa mp su ex no := by
    rintro y w rfl rfl
    unfold wL_law_1019
    refine br_c (fun q => nm_e ?_) (fun q => ?_)
    · have : cp_c0 fl 4 n = nI n + 1 := if_pos q
      rw [this] at key; exact key
    · have : cp_c0 fl 4 n = 0 := if_neg q
      rw [this] at key; exact key
  have k1003 : ∀ y : Int32, y = cp_c0 fl 1 n → wL_law_1003 post L xs J (nI n) x6 x7 fl x9 x10 x12 x13 (nI i) lt ns y kc ks cap (nI n) anc up fl ls lf la lr el ml al ll pa mp su ex no := by
    intro y hy
    unfold wL_law_1003
    exact br_c (fun q => k1019 _ _ hy (if_pos q).symm) (fun q => k1019 _ _ hy (if_neg q).symm)
  unfold wL_law_989
  exact br_c (fun q => k1003 _ (if_pos q).symm) (fun q => k1003 _ (if_neg q).symm)
end LN
end
section
section LC
variable {cap cnt anc up fl ls lf la lr el ml al ll : Int32} {pa mp su ex no : Nat → Int32}
variable {post : Int32 → Prop} {L : Nat} {xs : Nat → Int32} {J : Int32 → Int32 → Int32 → Int32 → Int32 → Prop} {kc ks n i : Nat} {x9 x10 x12 x13 : Int32} {P : Prop}
/-! path length, basic flags -/
def cw_p7 (pa : Nat → Int32) (n j : Nat) : Prop := 0 ≤ (pa (12 * j + 5)).toInt → (cw_c pa (j + 1) (n - 1) : Int) ≤ (pa (12 * j + 5)).toInt
theorem l_940 {x6 x7 x8 lt ns : Int32} (hn : n ≤ 8) (hi : i + 1 < n) (hb : cw_b x9 P)
    (h : ∀ y, cw_b y (P ∧ cw_p7 pa n i) → wL_law_989 post L xs J (nI n) x6 x7 x8 y x10 x12 x13 (nI i) lt ns kc ks cap (nI n) anc up fl ls lf la lr el ml al ll pa mp su ex no) :
    ∀ d m, m + d = n - 1 → i + 1 ≤ m → wL_law_940 post L xs J (nI n) x6 x7 x8 x9 x10 x12 x13 (nI i) lt ns (pa (12 * i + 5)) kc ks cap (nI n) anc up fl ls lf la lr el ml al ll pa mp su ex no (d + 1) (nI (cw_c pa (i + 1) m)) (nI m) := by
  have e1 : nI n - 1 = nI (n - 1) := by
    obtain ⟨k, rfl⟩ : ∃ k, n = k + 1 := ⟨n - 1, by omega⟩
    exact nI_pred k
  intro d
  induction d with
  | zero =>
    intro m hm im
    obtain rfl : m = n - 1 := by omega
    have hc := cw_cl (pa := pa) (a := i + 1) (n - 1)
    have z : pa (12 * i + 5) < 0 ↔ (pa (12 * i + 5)).toInt < 0 := by
      rw [Int32.lt_iff_toInt_lt]
      rfl
    have z2 : nI (cw_c pa (i + 1) (n - 1)) ≤ pa (12 * i + 5) ↔ (cw_c pa (i + 1) (n - 1) : Int) ≤ (pa (12 * i + 5)).toInt := by
      rw [Int32.le_iff_toInt_le, nI_toInt (by omega)]
    unfold wL_law_940
    rw [e1]
    refine br_t (nI_le (by omega) (by omega)) (br_c (fun a => h x9 (cw_bt hb fun q => ?_)) (fun a => br_c (fun b => h x9 (cw_bt hb fun _ => z2.mp b)) (fun b => h 0 (cw_bf fun q => b (z2.mpr (q ?_))))))
    · have := z.mp a
      omega
    · have := mt z.mpr a
      omega
  | succ d ih =>
    intro m hm im
    have hs : cw_c pa (i + 1) (m + 1) = cw_c pa (i + 1) m + cw_v pa m := cw_cs (by omega)
    have h' := ih (m + 1) (by omega) (by omega)
    unfold wL_law_940
    rw [e1]
    refine br_f (nI_ge (by omega) (by omega)) (l_getF (f := 0) hn (by omega) (by decide) (l_getF (f := 1) hn (by omega) (by decide) (br_c (fun q => nm_r (nI_1 m) ?_) (fun q => nm_r (nI_1 _) (nm_r (nI_1 m) ?_)))))
    · have v0 : cw_v pa m = 0 := if_pos q
      rw [hs, v0] at h'
      exact h'
    · have v1 : cw_v pa m = 1 := if_neg q
      rw [hs, v1] at h'
      exact h'
theorem l_884 {x6 x7 x8 lt ns : Int32} (hn : n ≤ 8) (hi : i < n) (hl : lt = 0 ↔ i + 1 ≠ n) (hb : cw_b x9 P)
    (h : ∀ y, cw_b y (P ∧ (i + 1 ≠ n → cw_o6 pa i ∧ cw_p7 pa n i)) → wL_law_989 post L xs J (nI n) x6 x7 x8 y x10 x12 x13 (nI i) lt ns kc ks cap (nI n) anc up fl ls lf la lr el ml al ll pa mp su ex no) :
    wL_law_884 post L xs J (nI n) x6 x7 x8 x9 x10 x12 x13 (nI i) lt ns kc ks cap (nI n) anc up fl ls lf la lr el ml al ll pa mp su ex no := by
  unfold wL_law_884
  refine br_c (fun l0 => l_getF (f := 4) hn hi (by decide) (l_getF (f := 5) hn hi (by decide) ?_)) (fun l0 => h x9 (cw_bt hb fun q => absurd (hl.mpr q) l0))
  have hl' := hl.mp l0
  have key : ∀ y, cw_b y (P ∧ cw_o6 pa i) → ∃ fu, wL_law_940 post L xs J (nI n) x6 x7 x8 y x10 x12 x13 (nI i) lt ns (pa (12 * i + 5)) kc ks cap (nI n) anc up fl ls lf la lr el ml al ll pa mp su ex no fu 0 (nI (i + 1)) := by
    intro y hy
    have t := l_940 (cap := cap) (anc := anc) (up := up) (fl := fl) (ls := ls) (lf := lf) (la := la) (lr := lr) (el := el) (ml := ml) (al := al) (ll := ll) (pa := pa) (mp := mp) (su := su) (ex := ex) (no := no) (post := post) (L := L) (xs := xs) (J := J) (kc := kc) (ks := ks) (x9 := y) (x10 := x10) (x12 := x12) (x13 := x13) (x6 := x6) (x7 := x7) (x8 := x8) (lt := lt) (ns := ns) hn (by omega) hy (fun w hw => h w (cw_bi hw ⟨fun q => ⟨q.1.1, fun _ => ⟨q.1.2, q.2⟩⟩, fun q => ⟨⟨q.1, (q.2 hl').1⟩, (q.2 hl').2⟩⟩)) (n - 1 - (i + 1)) (i + 1) (by omega) (Nat.le_refl _)
    rw [cw_c0 (i + 1) (Nat.le_refl _)] at t
    exact ⟨_, t⟩
  exact br_c (fun a => nm_r (nI_1 i) (key 0 (cw_bf fun q => q.1 a))) (fun a => br_c (fun b => nm_r (nI_1 i) (key x9 (cw_bt hb ⟨a, fun q => q.1 b⟩))) (fun b => br_c (fun c => nm_r (nI_1 i) (key 0 (cw_bf fun q => q.2 ⟨b, c⟩))) (fun c => nm_r (nI_1 i) (key x9 (cw_bt hb ⟨a, fun q => c q.2⟩)))))
/-! names -/
theorem l_831 {J2 : Int32 → Int32 → Prop} {x6 x7 x8 lt ns y : Int32} {j K : Nat} {A : Prop} (hn : n ≤ 8) (hj : j < n) (hsu : ∀ j, cp_nm (su j)) (hK : K ≤ 4) (hp : pa (12 * j + (10 + 1)) = nI K)
    (h0 : ¬ (A ∧ ∀ q, q < K → ¬ cp_lie y (su (8 * j + 4 * 1 + q))) → J2 0 (nI (j + 1))) (h1 : (A ∧ ∀ q, q < K → ¬ cp_lie y (su (8 * j + 4 * 1 + q))) → J2 x9 (nI (j + 1))) :
    ∀ (d k : Nat) (f : Int32), k + d = K → cw_b f (A ∧ ∀ q, q < k → ¬ cp_lie y (su (8 * j + 4 * 1 + q))) → wL_law_831 post L xs J J2 (nI n) x6 x7 x8 x9 x10 x12 x13 (nI i) lt y ns (nI j) kc ks cap (nI n) anc up fl ls lf la lr el ml al ll pa mp su ex no (d + 1) f (nI k) := by
  intro d
  induction d with
  | zero =>
    intro k f hk hf
    obtain rfl : k = K := by omega
    refine l_getF (f := 11) hn hj (by decide) ?_
    have hp' : pa (12 * j + 11) = nI k := hp
    rw [hp']
    exact br_t (nI_le (by omega) (by omega)) (br_c (fun a => nm_r (nI_1 j) (h0 ((cw_b0 hf).mp a))) (fun a => nm_r (nI_1 j) (h1 (Classical.byContradiction fun q => a ((cw_b0 hf).mpr q)))))
  | succ d ih =>
    intro k f hk hf
    refine l_getF (f := 11) hn hj (by decide) ?_
    have hp' : pa (12 * j + 11) = nI K := hp
    rw [hp']
    refine br_f (nI_ge (by omega) (by omega)) (l_getSub (kd := 1) hn hj (by decide) hK hp (by omega) (l_lies (hsu _) (fun hl => br_f (by decide) (nm_r (nI_1 k) (ih (k + 1) 0 (by omega) (cw_bf fun q => q k (by omega) hl)))) (fun hl => br_t rfl (nm_r (nI_1 k) (ih (k + 1) f (by omega) (cw_bi hf ⟨fun q => ⟨q.1, fun r hr => ?_⟩, fun q => ⟨q.1, fun r hr => q.2 r (by omega)⟩⟩))))))
    by_cases e : r = k
    · subst e; exact hl
    · exact q.2 r (by omega)
theorem l_795 {J2 : Int32 → Int32 → Prop} {x6 x7 x8 lt ns y : Int32} {j K : Nat} (hn : n ≤ 8) (hj : j < n) (hsu : ∀ j, cp_nm (su j)) (hK : K ≤ 4) (hp : pa (12 * j + (10 + 0)) = nI K)
    (h : ∀ f, cw_b f (K = 0 ∨ ∃ q, q < K ∧ cp_lie y (su (8 * j + 4 * 0 + q))) → ∃ fu, wL_law_831 post L xs J J2 (nI n) x6 x7 x8 x9 x10 x12 x13 (nI i) lt y ns (nI j) kc ks cap (nI n) anc up fl ls lf la lr el ml al ll pa mp su ex no fu f 0) :
    ∀ (d k : Nat) (f : Int32), k + d = K → cw_b f (K = 0 ∨ ∃ q, q < k ∧ cp_lie y (su (8 * j + 4 * 0 + q))) → wL_law_795 post L xs J J2 (nI n) x6 x7 x8 x9 x10 x12 x13 (nI i) lt y ns (nI j) (nI K) kc ks cap (nI n) anc up fl ls lf la lr el ml al ll pa mp su ex no (d + 1) f (nI k) := by
  intro d
  induction d with
  | zero =>
    intro k f hk hf
    obtain rfl : k = K := by omega
    exact br_t (nI_le (by omega) (by omega)) (h f hf)
  | succ d ih =>
    intro k f hk hf
    refine br_f (nI_ge (by omega) (by omega)) (l_getSub (kd := 0) hn hj (by decide) hK hp (by omega) (l_lies (hsu _) (fun hl => br_f (by decide) (nm_r (nI_1 k) (ih (k + 1) 1 (by omega) (Or.inl ⟨rfl, Or.inr ⟨k, by omega, hl⟩⟩)))) (fun hl => br_t rfl (nm_r (nI_1 k) (ih (k + 1) f (by omega) (cw_bi hf ⟨?_, ?_⟩))))))
    · rintro (a | ⟨q, a, b⟩)
      · exact Or.inl a
      · exact Or.inr ⟨q, by omega, b⟩
    · rintro (a | ⟨q, a, b⟩)
      · exact Or.inl a
      · by_cases e : q = k
        · subst e; exact absurd b hl
        · exact Or.inr ⟨q, by omega, b⟩
theorem l_bj {y : Int32} {j K0 K1 : Nat} (k0 : K0 ≤ 4) (k1 : K1 ≤ 4) (p0 : pa (12 * j + (10 + 0)) = nI K0) (p1 : pa (12 * j + (10 + 1)) = nI K1) :
    ((K0 = 0 ∨ ∃ q, q < K0 ∧ cp_lie y (su (8 * j + 4 * 0 + q))) ∧ ∀ q, q < K1 → ¬ cp_lie y (su (8 * j + 4 * 1 + q))) ↔ ¬ cp_bj pa su y j := by
  have a0 : cp_any pa su y j 0 ↔ ∃ q, q < K0 ∧ cp_lie y (su (8 * j + 4 * 0 + q)) := by
    unfold cp_any
    rw [p0]
    constructor
    · rintro ⟨q, q4, ql, h⟩
      exact ⟨q, (nI_ltI (by omega) (by omega)).mp ql, h⟩
    · rintro ⟨q, ql, h⟩
      exact ⟨q, by omega, nI_lt ql (by omega), h⟩
  have a1 : cp_any pa su y j 1 ↔ ∃ q, q < K1 ∧ cp_lie y (su (8 * j + 4 * 1 + q)) := by
    unfold cp_any
    rw [p1]
    constructor
    · rintro ⟨q, q4, ql, h⟩
      exact ⟨q, (nI_ltI (by omega) (by omega)).mp ql, h⟩
    · rintro ⟨q, ql, h⟩
      exact ⟨q, by omega, nI_lt ql (by omega), h⟩
  have p0' : pa (12 * j + 10) = nI K0 := p0
  have z : (0 : Int32) < nI K0 ↔ 0 < K0 := nI_ltI (a := 0) (by omega) (by omega)
  unfold cp_bj
  rw [a0, a1, p0', z]
  constructor
  · rintro ⟨h, h'⟩ (⟨b, c⟩ | ⟨q, b, c⟩)
    · rcases h with h | h
      · omega
      · exact c h
    · exact h' q b c
  · intro h
    refine ⟨?_, fun q hq hl => h (Or.inr ⟨q, hq, hl⟩)⟩
    apply Classical.byContradiction
    intro hn
    exact h (Or.inl ⟨Nat.pos_of_ne_zero fun q => hn (Or.inl q), fun q => hn (Or.inr q)⟩)
theorem l_763 {x6 x7 x8 lt ns y : Int32} (hn : n ≤ 8) (hi : i < n) (hsu : ∀ j, cp_nm (su j)) (hK : cp_K pa)
    (h : ∀ w, cw_b w (P ∧ ∀ j, j < i → ¬ cp_bj pa su y j) → wL_law_884 post L xs J (nI n) x6 x7 x8 w x10 x12 x13 (nI i) lt ns kc ks cap (nI n) anc up fl ls lf la lr el ml al ll pa mp su ex no) :
    ∀ (d j : Nat) (w : Int32), j + d = i → cw_b w (P ∧ ∀ q, q < j → ¬ cp_bj pa su y q) → wL_law_763 post L xs J (nI n) x6 x7 x8 x10 x12 x13 (nI i) lt y ns kc ks cap (nI n) anc up fl ls lf la lr el ml al ll pa mp su ex no (d + 1) w (nI j) := by
  intro d
  induction d with
  | zero =>
    intro j w hj hw
    obtain rfl : j = i := by omega
    exact br_t (nI_le (by omega) (by omega)) (h w hw)
  | succ d ih =>
    intro j w hj hw
    obtain ⟨K0, k0, p0⟩ := hK j 0 (by decide)
    obtain ⟨K1, k1, p1⟩ := hK j 1 (by decide)
    have bj := l_bj (su := su) (y := y) k0 k1 p0 p1
    have key : ∀ f, cw_b f (K0 = 0 ∨ ∃ q, q < 0 ∧ cp_lie y (su (8 * j + 4 * 0 + q))) → ∃ fu, wL_law_795 post L xs J (wL_law_763 post L xs J (nI n) x6 x7 x8 x10 x12 x13 (nI i) lt y ns kc ks cap (nI n) anc up fl ls lf la lr el ml al ll pa mp su ex no (d + 1)) (nI n) x6 x7 x8 w x10 x12 x13 (nI i) lt y ns (nI j) (nI K0) kc ks cap (nI n) anc up fl ls lf la lr el ml al ll pa mp su ex no fu f 0 := by
      intro f hf
      refine ⟨K0 + 1, l_795 hn (by omega) hsu k0 p0 (fun f' hf' => ⟨K1 + 1, l_831 hn (by omega) hsu k1 p1 (fun q => ih (j + 1) 0 (by omega) ?_) (fun q => ih (j + 1) w (by omega) ?_) K1 0 f' (by omega) (cw_bi hf' ⟨fun a => ⟨a, fun r hr => absurd hr (by omega)⟩, fun a => a.1⟩)⟩) K0 0 f (by omega) hf⟩
      · refine Or.inr ⟨rfl, fun a => q (bj.mpr (a.2 j (by omega)))⟩
      · refine cw_bi hw ⟨fun a => ⟨a.1, fun r hr => ?_⟩, fun a => ⟨a.1, fun r hr => a.2 r (by omega)⟩⟩
        by_cases e : r = j
        · subst e; exact bj.mp q
        · exact a.2 r (by omega)
    refine br_f (nI_ge (by omega) (by omega)) (l_getF (f := 10) hn (by omega) (by decide) ?_)
    have p0' : pa (12 * j + 10) = nI K0 := p0
    rw [p0']
    refine pk_eq K0 0 (fun a => key 1 (Or.inl ⟨rfl, Or.inl a⟩)) (fun a => key 0 (Or.inr ⟨rfl, ?_⟩))
    rintro (b | ⟨q, b, _⟩)
    · exact a b
    · omega
theorem l_750 {x6 x7 x8 lt ns : Int32} (hn : n ≤ 8) (hi : i < n) (hsu : ∀ j, cp_nm (su j)) (hK : cp_K pa) (hns : ns = 0 ↔ cp_self pa i) (hl : lt = 0 ↔ i + 1 ≠ n) (hb : cw_b x9 P)
    (h : ∀ w, cw_b w (P ∧ cw_o3 pa su n i) → wL_law_884 post L xs J (nI n) x6 x7 x8 w x10 x12 x13 (nI i) lt ns kc ks cap (nI n) anc up fl ls lf la lr el ml al ll pa mp su ex no) :
    wL_law_750 post L xs J (nI n) x6 x7 x8 x9 x10 x12 x13 (nI i) lt (pa (12 * i + 1)) ns kc ks cap (nI n) anc up fl ls lf la lr el ml al ll pa mp su ex no := by
  unfold wL_law_750
  have key : ¬ cp_ex pa n i → ∃ fu, wL_law_763 post L xs J (nI n) x6 x7 x8 x10 x12 x13 (nI i) lt (pa (12 * i + 1)) ns kc ks cap (nI n) anc up fl ls lf la lr el ml al ll pa mp su ex no fu x9 0 := by
    intro hx
    refine ⟨i + 1, l_763 hn hi hsu hK (fun w hw => h w (cw_bi hw ⟨fun q => ⟨q.1, fun r => ?_⟩, fun q => ⟨q.1, fun j hj hb => q.2 ⟨hx, j, hj, hb⟩⟩⟩)) i 0 x9 (by omega) (cw_bt hb fun q hq => absurd hq (by omega))⟩
    obtain ⟨_, j, hj, hbj⟩ := r
    exact q.2 j hj hbj
  exact br_c (fun l0 => br_c (fun s0 => h x9 (cw_bt hb fun q => q.1 ⟨hns.mp s0, hl.mp l0⟩)) (fun s0 => key fun q => s0 (hns.mpr q.1))) (fun l0 => key fun q => l0 (hl.mpr q.2))
/-- one certificate, up to its node set -/
theorem l_661 {x7 x8 lt : Int32} (hn : n ≤ 8) (hi : i < n) (hsu : ∀ j, cp_nm (su j)) (hK : cp_K pa) (hl : lt = 0 ↔ i + 1 ≠ n) (hb : cw_b x9 P)
    (h : ∀ (w ns : Int32), (ns = 0 ↔ cp_self pa i) → cw_b w ((((P ∧ cw_o1 pa 10 i) ∧ cw_o2 pa anc i) ∧ cw_o3 pa su n i) ∧ (i + 1 ≠ n → cw_o6 pa i ∧ cw_p7 pa n i)) → wL_law_989 post L xs J (nI n) anc x7 x8 w x10 x12 x13 (nI i) lt ns kc ks cap (nI n) anc up fl ls lf la lr el ml al ll pa mp su ex no) :
    wL_law_661 post L xs J (nI n) anc x7 x8 x9 x10 x12 x13 (nI i) lt kc ks cap (nI n) anc up fl ls lf la lr el ml al ll pa mp su ex no := by
  have k718 : ∀ w ns : Int32, (ns = 0 ↔ cp_self pa i) → cw_b w (P ∧ cw_o1 pa 10 i) → wL_law_718 post L xs J (nI n) anc x7 x8 w x10 x12 x13 (nI i) lt (pa (12 * i + 1)) ns kc ks cap (nI n) anc up fl ls lf la lr el ml al ll pa mp su ex no := by
    intro w ns hns hw
    have k744 : ∀ z : Int32, z = cp_want pa anc i → wL_law_744 post L xs J (nI n) anc x7 x8 w x10 x12 x13 (nI i) lt (pa (12 * i + 1)) ns z (pa (12 * i)) kc ks cap (nI n) anc up fl ls lf la lr el ml al ll pa mp su ex no := by
      rintro z rfl
      unfold wL_law_744
      exact br_c (fun q => l_750 hn hi hsu hK hns hl (cw_bt hw (C := cw_o2 pa anc i) q) (fun v hv => l_884 hn hi hl hv (fun u hu => h u ns hns hu))) (fun q => l_750 hn hi hsu hK hns hl (cw_bf (P := P ∧ cw_o1 pa 10 i) (C := cw_o2 pa anc i) q) (fun v hv => l_884 hn hi hl hv (fun u hu => h u ns hns hu)))
    unfold wL_law_718
    refine l_getF (f := 0) hn hi (by decide) (pk_eq i 0 (fun e0 => k744 _ (by rw [e0]; rfl)) (fun e0 => ?_))
    obtain ⟨q, rfl⟩ : ∃ q, i = q + 1 := ⟨i - 1, by omega⟩
    rw [nI_pred]
    exact l_getF (f := 1) hn (by omega) (by decide) (k744 _ rfl)
  have k689 : ∀ ns : Int32, (ns = 0 ↔ cp_self pa i) → wL_law_689 post L xs J (nI n) anc x7 x8 x9 x10 x12 x13 (nI i) lt (pa (12 * i + 1)) ns kc ks cap (nI n) anc up fl ls lf la lr el ml al ll pa mp su ex no := by
    intro ns hns
    unfold wL_law_689
    exact l_getF (f := 2) hn hi (by decide) (br_c (fun q => k718 0 ns hns (cw_bf fun r => r (Or.inl q))) (fun q => l_getF (f := 3) hn hi (by decide) (br_c (fun r => k718 x9 ns hns (cw_bt hb fun s => s.elim q (Int32.not_lt.mpr r))) (fun r => k718 0 ns hns (cw_bf fun s => s (Or.inr (Int32.not_le.mp r)))))))
  unfold wL_law_661
  exact l_getF (f := 1) hn hi (by decide) (l_getF (f := 0) hn hi (by decide) (br_c (fun q => k689 0 ⟨fun _ => q, fun _ => rfl⟩) (fun q => k689 1 ⟨fun z => absurd z (by decide), fun z => absurd z q⟩)))
end LC
end
section
section LE
variable {cap cnt anc up fl ls lf la lr el ml al ll : Int32} {pa mp su ex no : Nat → Int32}
variable {post : Int32 → Prop} {L : Nat} {xs : Nat → Int32} {kc ks n i : Nat}
/-! the law's own verdict, certificate by certificate -/
def cw_oW (pa mp : Nat → Int32) (up fl : Int32) (n i : Nat) : Prop := ∀ R, cp_R (cw_NS pa mp fl n i) R → ¬ ((cw_e pa (cp_c0 fl 1 n) 7 i ≤ 1 ∨ pa (12 * i + 7) = 0) ∧ cp_F up R = 0)
def cw_lk' (pa mp su : Nat → Int32) (anc up fl : Int32) (n i : Nat) : Prop :=
  cw_o1 pa 10 i ∧ cw_o2 pa anc i ∧ cw_o3 pa su n i ∧ (i + 1 ≠ n → cw_o6 pa i ∧ cw_p7 pa n i) ∧ cw_o4 pa mp fl n i ∧ (i + 1 = n → cw_oW pa mp up fl n i)
theorem cw_eq (hL : cw_L pa) (h1 : 1 ≤ n) (hn : n ≤ 8) : (∀ j, j < n → cw_lk' pa mp su anc up fl n j) ↔ (∀ j, 0 ≤ j → j < n → cw_ok pa mp su anc fl 10 n j) ∧ cw_oW pa mp up fl n (n - 1) := by
  have hlen := cw_len hL hn h1
  constructor
  · intro H
    have h7 : ∀ j, j + 1 < n → cw_o7 pa n j := hlen.mpr (fun j hj => ((H j (by omega)).2.2.2.1 (by omega)).2)
    refine ⟨fun j _ hj => ?_, (H (n - 1) (by omega)).2.2.2.2.2 (by omega)⟩
    have q := H j hj
    exact ⟨q.1, q.2.1, q.2.2.1, q.2.2.2.2.1, fun r => ⟨(q.2.2.2.1 r).1, h7 j (by omega)⟩⟩
  · rintro ⟨H, hW⟩ j hj
    have h7 : ∀ j, j + 1 < n → cw_p7 pa n j := hlen.mp (fun j hj => ((H j (by omega) (by omega)).2.2.2.2 (by omega)).2)
    have q := H j (by omega) hj
    refine ⟨q.1, q.2.1, q.2.2.1, fun r => ⟨(q.2.2.2.2 r).1, h7 j (by omega)⟩, q.2.2.2.1, fun r => ?_⟩
    have e : n - 1 = j := by omega
    rw [e] at hW
    exact hW
theorem cw_e0 {e0 : Int32} {f : Nat} (h : 0 ≤ e0) : ∀ i, 0 ≤ cw_e pa e0 f i := by
  intro i
  induction i with
  | zero => exact h
  | succ i ih => exact cp_nx0 ih
theorem cw_c00 {b : Int32} (hn : n ≤ 8) : 0 ≤ cp_c0 fl b n := by
  unfold cp_c0
  split
  · rw [nI_1]; exact nI_pos' (by omega)
  · decide
theorem cw_SZ (hT : ∀ j, cp_T (mp j)) : ∀ i, cp_Z (cw_SS pa mp fl n i) := by
  intro i
  cases i with
  | zero => exact cp_ZS0
  | succ i => exact cp_ZS cp_ZN (fun v => cp_T0 (hT _))
theorem cw_S4 (hQ : cw_Q pa mp) : ∀ i, cw_Z (cw_SS pa mp fl n i) := by
  intro i
  induction i with
  | zero => exact cw_Z0
  | succ i ih => exact cw_ZS (hQ.2.1 i) (cw_ZN ih (hQ.1 i) (hQ.2.1 i))
theorem cw_N4 (hQ : cw_Q pa mp) (i : Nat) : cw_Z (cw_NS pa mp fl n i) := cw_ZN (cw_S4 hQ i) (hQ.1 i) (hQ.2.1 i)
theorem l_iter {J : Int32 → Int32 → Int32 → Int32 → Int32 → Prop} {x9 x10 lt : Int32} (hn : n ≤ 8) (hi : i < n) (hI : cp_Inv pa mp su) (hQ : cw_Q pa mp) (hl : lt = 0 ↔ i + 1 ≠ n)
    (hb : cw_b x9 (∀ j, j < i → cw_lk' pa mp su anc up fl n j)) (hS : cw_R x10 (cw_SS pa mp fl n i))
    (HA : i + 1 ≠ n → ∀ y s, cw_b y (∀ j, j < i + 1 → cw_lk' pa mp su anc up fl n j) → cw_R s (cw_SS pa mp fl n (i + 1)) → J y s 0 0 (nI (i + 1)))
    (HB : i + 1 = n → ∀ y R, cp_R (cw_NS pa mp fl n i) R → cw_b y (∀ j, j < i + 1 → cw_lk' pa mp su anc up fl n j) → J y x10 R (cp_F up R) (nI (i + 1))) :
    wL_law_661 post L xs J (nI n) anc up fl x9 x10 0 0 (nI i) lt kc ks cap (nI n) anc up fl ls lf la lr el ml al ll pa mp su ex no := by
  refine l_661 hn hi hI.2.2.2 hI.2.1 hl hb (fun w ns hns hw => l_989 hn hi hQ.2.2 (l_1244 hn hi hns hl hw (fun m y hm hy => ?_)))
  have hN : cw_R m (cw_NS pa mp fl n i) := cw_N (cw_SZ hI.2.2.1 i) hS hm
  have hz := cw_em hN (cw_N4 hQ i)
  refine l_1460 hn hi (cw_e0 (cw_c00 hn) i) hN (cw_N4 hQ i) (hQ.2.1 i) hy (fun l0 s hs => HA (hl.mp l0) y s (cw_bi hy ⟨?_, ?_⟩) hs) (fun l0 R v hR hv => HB (Classical.byContradiction fun q => l0 (hl.mpr q)) v R hR (cw_bi hv ⟨?_, ?_⟩))
  · rintro ⟨⟨⟨⟨⟨a, b⟩, c⟩, d⟩, e⟩, f⟩ j hj
    by_cases ej : j = i
    · subst ej
      exact ⟨b, c, d, e, fun q => f ⟨q.1, hz.mpr q.2⟩, fun q => absurd q (hl.mp l0)⟩
    · exact a j (by omega)
  · intro H
    obtain ⟨b, c, d, e, f, _⟩ := H i (by omega)
    exact ⟨⟨⟨⟨⟨fun j hj => H j (by omega), b⟩, c⟩, d⟩, e⟩, fun q => f ⟨q.1, hz.mp q.2⟩⟩
  · rintro ⟨⟨⟨⟨⟨⟨a, b⟩, c⟩, d⟩, e⟩, f⟩, g⟩ j hj
    by_cases ej : j = i
    · subst ej
      refine ⟨b, c, d, e, fun q => f ⟨q.1, hz.mpr q.2⟩, fun _ R' hR' => ?_⟩
      rw [cp_Run hR' hR]
      exact g
    · exact a j (by omega)
  · intro H
    obtain ⟨b, c, d, e, f, g⟩ := H i (by omega)
    exact ⟨⟨⟨⟨⟨⟨fun j hj => H j (by omega), b⟩, c⟩, d⟩, e⟩, fun q => f ⟨q.1, hz.mp q.2⟩⟩, g (Classical.byContradiction fun q => l0 (hl.mpr q)) R hR⟩
theorem l_fin {x9 R : Int32} (hp : post 1) (h1 : 1 ≤ n) (hn : n ≤ 8) (hI : cp_Inv pa mp su) (hQ : cw_Q pa mp) (hb : cw_b x9 (∀ j, j < n → cw_lk' pa mp su anc up fl n j)) (hR : cp_R (cw_NS pa mp fl n (n - 1)) R) {x10 : Int32} :
    wL_law_642 post L xs (nI n) anc up fl kc ks cap (nI n) anc up fl ls lf la lr el ml al ll pa mp su ex no 1 x9 x10 R (cp_F up R) (nI n) := by
  have hq := cw_eq (mp := mp) (su := su) (anc := anc) (up := up) (fl := fl) hQ.2.2 h1 hn
  refine br_t (nI_le (by omega) (by omega)) (x_val h1 hn hI.2.1 hI.2.2.1 ?_)
  have bad : (¬ ∀ j, j < n → cw_lk' pa mp su anc up fl n j) → ∀ (s x : Int32), ¬ s = 0 → ∀ (el ml al ll : Int32) (ex no : Nat → Int32), ((s = 0 → wL_law_1729 post L xs x9 R (cp_F up R) s 1 kc ks cap (nI n) anc up fl s x 0 0 el ml al ll pa mp su ex no) ∧ (¬ s = 0 → wL_law_1729 post L xs x9 R (cp_F up R) s 0 kc ks cap (nI n) anc up fl s x 0 0 el ml al ll pa mp su ex no)) := by
    intro hh s x hs el ml al ll ex no
    have e9 : x9 = 0 := (cw_b0 hb).mpr hh
    refine br_f hs ?_
    unfold wL_law_1729
    exact br_t e9.symm (br_f hs hp)
  refine cw_V n 0 (by omega) h1 (fun H R' hR' => ?_) (fun H s x hs el ml al ll ex no => ?_)
  · cases cp_Run hR hR'
    refine br_c (fun q el ml al ll ex no => ?_) (fun q el ml al ll ex no => ?_)
    · exact bad (fun H' => ((hq.mp H').2 R hR) q) 5 _ (by decide) el ml al ll ex no
    · have hall : ∀ j, j < n → cw_lk' pa mp su anc up fl n j := by
        refine hq.mpr ⟨H, fun R2 hR2 => ?_⟩
        rw [cp_Run hR2 hR]
        exact q
      have e9 : x9 = 1 := by
        rcases hb with ⟨a, _⟩ | ⟨_, a⟩
        · exact a
        · exact absurd hall a
      refine br_t rfl ?_
      unfold wL_law_1729
      exact br_t e9.symm (br_t rfl (br_t rfl (br_t rfl (br_t rfl hp))))
  · exact bad (fun H' => H (hq.mp H').1) s x hs el ml al ll ex no
theorem l_642 (hp : post 1) (h1 : 1 ≤ n) (hn : n ≤ 8) (hI : cp_Inv pa mp su) (hQ : cw_Q pa mp) :
    ∀ (d i : Nat) (x9 x10 x12 x13 : Int32), i + d = n → cw_b x9 (∀ j, j < i → cw_lk' pa mp su anc up fl n j) → (i < n → cw_R x10 (cw_SS pa mp fl n i) ∧ x12 = 0 ∧ x13 = 0) →
    (i = n → ∃ R, cp_R (cw_NS pa mp fl n (n - 1)) R ∧ x12 = R ∧ x13 = cp_F up R) → wL_law_642 post L xs (nI n) anc up fl kc ks cap (nI n) anc up fl ls lf la lr el ml al ll pa mp su ex no (d + 1) x9 x10 x12 x13 (nI i) := by
  intro d
  induction d with
  | zero =>
    intro i x9 x10 x12 x13 hi hb hA hB
    obtain rfl : i = n := by omega
    obtain ⟨R, hR, rfl, rfl⟩ := hB rfl
    exact l_fin hp h1 hn hI hQ hb hR
  | succ d ih =>
    intro i x9 x10 x12 x13 hi hb hA hB
    obtain ⟨hS, rfl, rfl⟩ := hA (by omega)
    have e1 : nI n - 1 = nI (n - 1) := by
      obtain ⟨k, rfl⟩ : ∃ k, n = k + 1 := ⟨n - 1, by omega⟩
      exact nI_pred k
    have key : ∀ lt : Int32, (lt = 0 ↔ i + 1 ≠ n) → wL_law_661 post L xs (wL_law_642 post L xs (nI n) anc up fl kc ks cap (nI n) anc up fl ls lf la lr el ml al ll pa mp su ex no (d + 1)) (nI n) anc up fl x9 x10 0 0 (nI i) lt kc ks cap (nI n) anc up fl ls lf la lr el ml al ll pa mp su ex no := by
      intro lt hl
      refine l_iter hn (by omega) hI hQ hl hb hS (fun hne y s hy hs => ih (i + 1) y s 0 0 (by omega) hy (fun _ => ⟨hs, rfl, rfl⟩) (fun q => absurd q hne)) (fun he y R hR hy => ih (i + 1) y x10 R _ (by omega) hy (fun q => absurd he (by omega)) (fun _ => ⟨R, ?_, rfl, rfl⟩))
      have e : n - 1 = i := by omega
      rw [e]
      exact hR
    refine br_f (nI_ge (by omega) (by omega)) ?_
    rw [e1]
    exact pk_eq i (n - 1) (fun q => key 1 ⟨fun z => absurd z (by decide), fun z => absurd (by omega) z⟩) (fun q => key 0 ⟨fun _ => by omega, fun _ => rfl⟩)
end LE
end
section
theorem i_vc (xs : Nat → Int32) (L : Nat) (hL : L ≤ 260) : wpL_law (fun r => r = 1) L xs := by
  refine l_law hL (fun n h1 hn anc up fl ls lf la lr el ml al ll pa mp su ex no hI hQ => ?_)
  unfold wL_law_622
  exact ⟨n + 1, l_642 (post := fun r => r = 1) rfl h1 hn hI hQ n 0 1 1 0 0 (by omega) (Or.inl ⟨rfl, fun j hj => absurd hj (by omega)⟩) (fun _ => ⟨cw_R0, rfl, rfl⟩) (fun q => by omega)⟩
end
