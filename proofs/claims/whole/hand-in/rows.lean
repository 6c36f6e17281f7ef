section
/-! rows pasted from kit/rows: PURE-ROWS and the bt family of BITS -/
theorem pk_us {f : Nat → Int32} {k : Nat} {x : Int32} : upd f k x k = x := if_pos rfl
theorem pk_un {f : Nat → Int32} {k j : Nat} {x : Int32} (h : j ≠ k) : upd f k x j = f j := if_neg h
theorem pk_sub {a b : Nat} (h : b ≤ a) : nI a - nI b = nI (a - b) := by
  obtain ⟨c, rfl⟩ : ∃ c, a = c + b := ⟨a - b, by omega⟩
  rw [← nI_add, Int32.add_sub_cancel, Nat.add_sub_cancel]
theorem pk_m1 (n : Nat) : nI (n + 1) + (-1) = nI n := by
  rw [← nI_1, Int32.add_assoc, show (1 : Int32) + (-1) = 0 from rfl, Int32.add_zero]
theorem pk_mul (a b : Nat) : nI a * nI b = nI (a * b) := (Int32.ofNat_mul a b).symm
theorem pk_ix (x : Int32) {n : Nat} (hn : n < 2 ^ 31) : x < 0 ∨ nI n ≤ x ∨ ∃ j : Nat, j < n ∧ x = nI j := by
  by_cases h : x < 0
  · exact Or.inl h
  · obtain ⟨j, hj, rfl⟩ := nI_of h
    by_cases h2 : j < n
    · exact Or.inr (Or.inr ⟨j, h2, rfl⟩)
    · exact Or.inr (Or.inl (nI_le (by omega) hj))
theorem pk_le {x y : Int32} {A B : Prop} (a b : Nat) (f : a ≤ b → A) (g : b < a → B) (hx : x = nI a := by rfl) (hy : y = nI b := by rfl) (ha : a < 2 ^ 31 := by omega) (hb : b < 2 ^ 31 := by omega) : (x ≤ y → A) ∧ (¬ x ≤ y → B) := by
  subst hx hy
  rw [nI_leI ha hb]
  exact ⟨f, fun z => g (by omega)⟩
theorem pk_lt {x y : Int32} {A B : Prop} (a b : Nat) (f : a < b → A) (g : b ≤ a → B) (hx : x = nI a := by rfl) (hy : y = nI b := by rfl) (ha : a < 2 ^ 31 := by omega) (hb : b < 2 ^ 31 := by omega) : (x < y → A) ∧ (¬ x < y → B) := by
  subst hx hy
  rw [nI_ltI ha hb]
  exact ⟨f, fun z => g (by omega)⟩
theorem pk_eq {x y : Int32} {A B : Prop} (a b : Nat) (f : a = b → A) (g : a ≠ b → B) (hx : x = nI a := by rfl) (hy : y = nI b := by rfl) (ha : a < 2 ^ 31 := by omega) (hb : b < 2 ^ 31 := by omega) : (x = y → A) ∧ (¬ x = y → B) := by
  subst hx hy
  rw [nI_eq ha hb]
  exact ⟨f, g⟩
theorem pk_in {x : Int32} (n N : Nat) (h : n < N) (hx : x = nI n := by rfl) (hN : N < 2 ^ 31 := by omega) : vp_in x N := by
  subst hx
  exact vp_in_nI h hN
theorem pk_cl {x : Int32} (n : Nat) (hx : x = nI n := by rfl) (h : n < 2 ^ 31 := by omega) : x.toNatClampNeg = n := by
  subst hx
  exact nI_clamp h
theorem pk_tn {n : Nat} (h : n < 2 ^ 32) : (nI n).toBitVec.toNat = n := Nat.mod_eq_of_lt h
theorem pk_and (x : Int32) {m : Int32} (k : Nat) (hm : m.toBitVec.toNat = 2 ^ k - 1) : x &&& m = nI (x.toBitVec.toNat % 2 ^ k) := by
  apply Int32.toBitVec_inj.mp
  apply BitVec.eq_of_toNat_eq
  rw [Int32.toBitVec_and, BitVec.toNat_and, hm, Nat.and_two_pow_sub_one_eq_mod]
  show _ = (BitVec.ofNat 32 _).toNat
  rw [BitVec.toNat_ofNat]
  exact (Nat.mod_eq_of_lt (Nat.lt_of_le_of_lt (Nat.mod_le _ _) x.toBitVec.isLt)).symm
theorem pk_andN {n : Nat} (h : n < 2 ^ 32) {m : Int32} (k : Nat) (hm : m.toBitVec.toNat = 2 ^ k - 1) : nI n &&& m = nI (n % 2 ^ k) := by
  rw [pk_and _ k hm, pk_tn h]
theorem pk_andE (x : Int32) {m : Int32} (k : Nat) (hm : m.toBitVec.toNat = 2 ^ k - 1) : ∃ j : Nat, j < 2 ^ k ∧ x &&& m = nI j := ⟨_, Nat.mod_lt _ (Nat.two_pow_pos k), pk_and x k hm⟩
theorem pk_andIn (x : Int32) {m : Int32} (k : Nat) (hm : m.toBitVec.toNat = 2 ^ k - 1) (hk : k ≤ 30) : vp_in (x &&& m) (2 ^ k) := by
  obtain ⟨j, hj, e⟩ := pk_andE x k hm
  rw [e]
  exact vp_in_nI hj (Nat.lt_of_le_of_lt (Nat.pow_le_pow_right (by decide) hk) (by decide))
theorem pk_shl (a s : Int32) (k : Nat) (hs : (s.toBitVec.smod 32).toNat = k) : (a <<< s).toBitVec.toNat = a.toBitVec.toNat * 2 ^ k % 2 ^ 32 := by
  show (a.toBitVec <<< (s.toBitVec.smod 32).toNat).toNat = _
  rw [hs, BitVec.toNat_shiftLeft, Nat.shiftLeft_eq]
theorem pk_shlN {n : Nat} (s : Int32) (k : Nat) (hs : (s.toBitVec.smod 32).toNat = k) (h : n * 2 ^ k < 2 ^ 32) : nI n <<< s = nI (n * 2 ^ k) := by
  apply Int32.toBitVec_inj.mp
  apply BitVec.eq_of_toNat_eq
  have hn : n < 2 ^ 32 := Nat.lt_of_le_of_lt (Nat.le_mul_of_pos_right n (Nat.two_pow_pos k)) h
  rw [pk_shl _ _ k hs, pk_tn hn, pk_tn h, Nat.mod_eq_of_lt h]
theorem pk_shr (a s : Int32) (k : Nat) (hs : (s.toBitVec.smod 32).toNat = k) : (a >>> s).toInt = a.toInt >>> k := by
  show (a.toBitVec.sshiftRight (s.toBitVec.smod 32).toNat).toInt = _
  rw [hs, BitVec.toInt_sshiftRight]
  rfl
theorem pk_shrN {n : Nat} (h : n < 2 ^ 31) (s : Int32) (k : Nat) (hs : (s.toBitVec.smod 32).toNat = k) : nI n >>> s = nI (n / 2 ^ k) := by
  apply Int32.toInt_inj.mp
  have h2 : n / 2 ^ k ≤ n := Nat.div_le_self _ _
  rw [pk_shr _ _ k hs, nI_toInt h, nI_toInt (by omega), Int.shiftRight_eq_div_pow]
  rfl
theorem pk_loop {σ : Type} (W : Nat → Nat → σ → Prop) (I : Nat → σ → Prop) (e i0 : Nat) (s : σ) (hi : i0 ≤ e) (h0 : I i0 s) (hx : ∀ n s, I e s → W (n + 1) e s)
    (hs : ∀ n i s, i < e → I i s → (∀ s', I (i + 1) s' → W n (i + 1) s') → W (n + 1) i s) : ∃ n, W n i0 s :=
  ⟨e + 1, loop_i W I e hx hs (e + 1) i0 s hi (by omega) h0⟩
def bt (x : Int32) (i : Nat) : Bool := x.toBitVec.getLsbD i
theorem b_ext {x y : Int32} (h : ∀ i, i < 32 → bt x i = bt y i) : x = y := Int32.toBitVec_inj.mp (BitVec.eq_of_getLsbD_eq (fun i hi => h i hi))
theorem b_or (x y : Int32) (i : Nat) : bt (x ||| y) i = (bt x i || bt y i) := by unfold bt; rw [Int32.toBitVec_or, BitVec.getLsbD_or]
theorem b_and (x y : Int32) (i : Nat) : bt (x &&& y) i = (bt x i && bt y i) := by unfold bt; rw [Int32.toBitVec_and, BitVec.getLsbD_and]
theorem b_xor (x y : Int32) (i : Nat) : bt (x ^^^ y) i = (bt x i ^^ bt y i) := by unfold bt; rw [Int32.toBitVec_xor, BitVec.getLsbD_xor]
theorem b_big {x : Int32} {i : Nat} (h : 32 ≤ i) : bt x i = false := BitVec.getLsbD_of_ge _ _ h
theorem b_255 (i : Nat) : bt 255 i = decide (i < 8) := by
  rcases Nat.lt_or_ge i 32 with h | h
  · exact (by decide +kernel : ∀ i, i < 32 → bt 255 i = decide (i < 8)) i h
  · rw [b_big h, decide_eq_false (by omega)]
theorem b_65535 (i : Nat) : bt 65535 i = decide (i < 16) := by
  rcases Nat.lt_or_ge i 32 with h | h
  · exact (by decide +kernel : ∀ i, i < 32 → bt 65535 i = decide (i < 16)) i h
  · rw [b_big h, decide_eq_false (by omega)]
theorem b_m1 : ∀ i, i < 32 → bt (-1) i = true := by decide +kernel
theorem b_0 (i : Nat) : bt 0 i = false := BitVec.getLsbD_zero
theorem s_l : ∀ n, n < 32 → ((nI n &&& 31).toBitVec.smod 32).toNat = n := by decide +kernel
theorem s_u : ∀ n, n < 32 → (((nI n).toUInt32 &&& Int32.toUInt32 31).toBitVec % 32).toNat = n := by decide +kernel
theorem b_shl (n : Nat) (hn : n < 32) (x : Int32) {i : Nat} (hi : i < 32) : bt (x <<< (nI n &&& 31)) i = (decide (n ≤ i) && bt x (i - n)) := by
  unfold bt
  rw [Int32.toBitVec_shiftLeft]
  show (x.toBitVec <<< ((nI n &&& 31).toBitVec.smod 32).toNat).getLsbD i = _
  rw [s_l n hn, BitVec.getLsbD_shiftLeft]
  rcases Nat.lt_or_ge i n with h | h
  · simp [h, Nat.not_le.mpr h]
  · simp [hi, h, Nat.not_lt.mpr h]
theorem b_ushr (n : Nat) (hn : n < 32) (x : Int32) (i : Nat) : bt ((x.toUInt32 >>> ((nI n).toUInt32 &&& Int32.toUInt32 31)).toInt32) i = bt x (n + i) := by
  show (x.toUInt32 >>> ((nI n).toUInt32 &&& Int32.toUInt32 31)).toBitVec.getLsbD i = x.toUInt32.toBitVec.getLsbD (n + i)
  rw [UInt32.toBitVec_shiftRight]
  show (x.toUInt32.toBitVec >>> (((nI n).toUInt32 &&& Int32.toUInt32 31).toBitVec % 32).toNat).getLsbD i = _
  rw [s_u n hn, BitVec.getLsbD_ushiftRight]
theorem b_sshr (n : Nat) (hn : n < 32) (x : Int32) {i : Nat} (hi : i < 32) : bt (x >>> (nI n &&& 31)) i = if n + i < 32 then bt x (n + i) else bt x 31 := by
  unfold bt
  rw [Int32.toBitVec_shiftRight]
  show (x.toBitVec.sshiftRight ((nI n &&& 31).toBitVec.smod 32).toNat).getLsbD i = _
  rw [s_l n hn, BitVec.getLsbD_sshiftRight, BitVec.msb_eq_getLsbD_last]
  simp [hi]
theorem b_shl8 (x : Int32) {i : Nat} (hi : i < 32) : bt (x <<< ((8 : Int32) &&& 31)) i = (decide (8 ≤ i) && bt x (i - 8)) := b_shl 8 (by omega) x hi
theorem b_shl16 (x : Int32) {i : Nat} (hi : i < 32) : bt (x <<< ((16 : Int32) &&& 31)) i = (decide (16 ≤ i) && bt x (i - 16)) := b_shl 16 (by omega) x hi
theorem b_shl24 (x : Int32) {i : Nat} (hi : i < 32) : bt (x <<< ((24 : Int32) &&& 31)) i = (decide (24 ≤ i) && bt x (i - 24)) := b_shl 24 (by omega) x hi
theorem b_sshr8 (x : Int32) {i : Nat} (hi : i < 32) : bt (x >>> ((8 : Int32) &&& 31)) i = if 8 + i < 32 then bt x (8 + i) else bt x 31 := b_sshr 8 (by omega) x hi
end
section
/-! bits of an int -/
theorem cq_1 : ∀ i, i < 32 → bt 1 i = decide (i = 0) := by decide +kernel
theorem cq_m2 : ∀ i, i < 32 → bt (-2) i = decide (i ≠ 0) := by decide +kernel
theorem cq_one : ∀ p, p < 32 → ∀ i, i < 32 → bt ((1 : Int32) <<< (nI p &&& 31)) i = decide (i = p) := by decide +kernel
theorem cq_z {x : Int32} : x = 0 ↔ ∀ i, i < 32 → bt x i = false :=
  ⟨fun h i _ => by rw [h]; exact b_0 i, fun h => b_ext (fun i hi => (h i hi).trans (b_0 i).symm)⟩
theorem cq_nz {x : Int32} : ¬ x = 0 ↔ ∃ i, i < 32 ∧ bt x i = true := by
  constructor
  · intro h
    apply Classical.byContradiction
    intro hn
    refine h (cq_z.mpr fun i hi => ?_)
    cases hb : bt x i with
    | false => rfl
    | true => exact absurd ⟨i, hi, hb⟩ hn
  · rintro ⟨i, hi, hb⟩ h
    rw [h, b_0] at hb
    exact absurd hb (by decide)
theorem cq_bx (x : Int32) {p : Nat} (hp : p < 32) : x &&& ((1 : Int32) <<< (nI p &&& 31)) = 0 ↔ bt x p = false := by
  rw [cq_z]
  constructor
  · intro h
    have := h p hp
    rw [b_and, cq_one p hp p hp] at this
    simpa using this
  · intro h i hi
    rw [b_and, cq_one p hp i hi]
    by_cases e : i = p
    · subst e; simp [h]
    · simp [e]
theorem cq_by (x : Int32) {p : Nat} (hp : p < 32) : (x >>> (nI p &&& 31)) &&& 1 = 0 ↔ bt x p = false := by
  rw [cq_z]
  constructor
  · intro h
    have := h 0 (by omega)
    rw [b_and, b_sshr p hp x (by omega), if_pos (by omega), cq_1 0 (by omega)] at this
    simpa using this
  · intro h i hi
    rw [b_and, cq_1 i hi]
    by_cases e : i = 0
    · subst e
      rw [b_sshr p hp x (by omega), if_pos (by omega)]
      simp [h]
    · simp [e]
theorem cq_b0 (x : Int32) : x &&& 1 = 0 ↔ bt x 0 = false := by
  rw [cq_z]
  constructor
  · intro h
    have := h 0 (by omega)
    rw [b_and, cq_1 0 (by omega)] at this
    simpa using this
  · intro h i hi
    rw [b_and, cq_1 i hi]
    by_cases e : i = 0
    · subst e; simp [h]
    · simp [e]
theorem cq_nf {b : Bool} : ¬ b = false ↔ b = true := by cases b <;> decide
theorem cq_mk (P : Nat → Prop) : ∀ k, k ≤ 32 → ∃ R : Int32, ∀ d, d < 32 → (bt R d = true ↔ d < k ∧ P d) := by
  intro k
  induction k with
  | zero => intro _; exact ⟨0, fun d _ => by rw [b_0]; simp⟩
  | succ k ih =>
    intro hk
    obtain ⟨R, hR⟩ := ih (by omega)
    by_cases h : P k
    · refine ⟨R ||| ((1 : Int32) <<< (nI k &&& 31)), fun d hd => ?_⟩
      rw [b_or, cq_one k (by omega) d hd, Bool.or_eq_true, hR d hd, decide_eq_true_eq]
      constructor
      · rintro (⟨a, b⟩ | rfl)
        · exact ⟨by omega, b⟩
        · exact ⟨by omega, h⟩
      · rintro ⟨a, b⟩
        by_cases e : d = k
        · exact Or.inr e
        · exact Or.inl ⟨by omega, b⟩
    · refine ⟨R, fun d hd => ?_⟩
      rw [hR d hd]
      constructor
      · rintro ⟨a, b⟩
        exact ⟨by omega, b⟩
      · rintro ⟨a, b⟩
        refine ⟨?_, b⟩
        by_cases e : d = k
        · subst e; exact absurd b h
        · omega

/-! names -/
def cp_g (x : Int32) (k : Nat) : Int32 := (x >>> (nI (4 * k) &&& 31)) &&& 15
def cp_nm (x : Int32) : Prop := (0 ≤ x ∧ x ≤ 65535) ∧ ∀ k, k < 3 → ¬ cp_g x (k + 1) = 0 → ¬ cp_g x k = 0
def cp_lie (x s : Int32) : Prop := ∀ k, k < 4 → ¬ cp_g s k = 0 → cp_g s k = cp_g x k
def cp_c (x : Int32) (k : Nat) : Nat := if cp_g x k = 0 then 0 else 1
def cp_l (x : Int32) : Nat := cp_c x 0 + cp_c x 1 + cp_c x 2 + cp_c x 3
theorem cp_nm0 : cp_nm 0 := by
  refine ⟨by decide, ?_⟩
  decide +kernel
theorem cp_lk {x : Int32} (h : cp_nm x) : ∀ k, k < 4 → (¬ cp_g x k = 0 ↔ k < cp_l x) := by
  have h0 := h.2 0 (by omega)
  have h1 := h.2 1 (by omega)
  have h2 := h.2 2 (by omega)
  intro k hk
  unfold cp_l cp_c
  have hc : k = 0 ∨ k = 1 ∨ k = 2 ∨ k = 3 := by omega
  rcases hc with rfl | rfl | rfl | rfl <;> by_cases a0 : cp_g x 0 = 0 <;> by_cases a1 : cp_g x 1 = 0 <;> by_cases a2 : cp_g x 2 = 0 <;> by_cases a3 : cp_g x 3 = 0 <;> simp_all
theorem cp_l4 (x : Int32) : cp_l x ≤ 4 := by
  unfold cp_l cp_c
  split <;> split <;> split <;> split <;> omega
theorem cp_lieY {x s : Int32} (hx : cp_nm x) (hs : cp_nm s) : cp_lie x s ↔ cp_l s ≤ cp_l x ∧ ∀ k, k < cp_l s → cp_g x k = cp_g s k := by
  have l4 := cp_l4 s
  constructor
  · intro h
    refine ⟨?_, fun k hk => (h k (by omega) ((cp_lk hs k (by omega)).mpr hk)).symm⟩
    apply Classical.byContradiction
    intro hn
    have hk : cp_l x < cp_l s := by omega
    have h1 := (cp_lk hs (cp_l x) (by omega)).mpr hk
    have h2 := h _ (by omega) h1
    have h3 := mt (cp_lk hx (cp_l x) (by omega)).mp (by omega)
    rw [h2] at h1
    exact h3 h1
  · rintro ⟨_, h⟩ k hk hg
    exact (h k ((cp_lk hs k hk).mp hg)).symm

/-! the picture of a walk -/
def cp_self (pa : Nat → Int32) (i : Nat) : Prop := pa (12 * i) = pa (12 * i + 1)
def cp_want (pa : Nat → Int32) (anc : Int32) (i : Nat) : Int32 := if i = 0 then anc else pa (12 * (i - 1) + 1)
def cp_ex (pa : Nat → Int32) (n i : Nat) : Prop := cp_self pa i ∧ i + 1 ≠ n
def cp_any (pa su : Nat → Int32) (x : Int32) (j kd : Nat) : Prop := ∃ k, k < 4 ∧ nI k < pa (12 * j + (10 + kd)) ∧ cp_lie x (su (8 * j + 4 * kd + k))
def cp_bad (pa su : Nat → Int32) (i : Nat) : Prop := ∃ j, j < i ∧ ((0 < pa (12 * j + 10) ∧ ¬ cp_any pa su (pa (12 * i + 1)) j 0) ∨ cp_any pa su (pa (12 * i + 1)) j 1)
def cp_an (pa : Nat → Int32) (n : Nat) (a : Int32) (i : Nat) : Prop := bt (pa (12 * i + 6)) 0 = true ∧ (0 < a ∨ cp_ex pa n i)
def cp_op (n : Nat) (p : Int32) (i : Nat) : Prop := i + 1 ≠ n ∧ 0 < p
def cp_N (S : Nat → Nat → Prop) (C : Int32) (an op : Prop) (T : Nat → Int32) (d v : Nat) : Prop :=
  (v ≠ 0 ∧ S d v ∧ (bt C v = true ∨ an)) ∨ (d = v ∧ S 0 0 ∧ ((v ≠ 0 ∧ (bt C v = true ∨ (an ∧ op ∧ ¬ T v = 0))) ∨ (v = 0 ∧ an)))
def cp_S (N : Nat → Nat → Prop) (p : Int32) (T : Nat → Int32) (d t : Nat) : Prop :=
  (N d t ∧ (t = 0 ∨ T t = 0)) ∨ (0 < p ∧ ∃ v, v < 16 ∧ v ≠ 0 ∧ N d v ∧ ¬ T v = 0 ∧ bt (T v) t = true)
def cp_em (N : Nat → Nat → Prop) : Prop := ∀ d v, d < 16 → v < 16 → ¬ N d v
def cp_R (N : Nat → Nat → Prop) (R : Int32) : Prop := ∀ d, d < 32 → (bt R d = true ↔ d < 16 ∧ ∃ v, v < 16 ∧ N d v)
def cp_F (up R : Int32) : Int32 := if up &&& 1 = 0 then (R &&& up) ||| (if R &&& 1 = 0 then 0 else up) else R
def cp_nx (is su c lim : Int32) : Int32 :=
  if 0 ≤ lim ∧ lim < (if 0 < c ∧ ¬ is = su then c - 1 else c) then lim else (if 0 < c ∧ ¬ is = su then c - 1 else c)
def cp_NN (pa mp : Nat → Int32) (n : Nat) (i : Nat) (p a : Int32) (S : Nat → Nat → Prop) : Nat → Nat → Prop :=
  cp_N S (pa (12 * i + 6)) (cp_an pa n a i) (cp_op n p i) (fun v => mp (16 * i + v))
def cp_W (pa : Nat → Int32) (up : Int32) (n : Nat) (post : Int32 → Int32 → Int32 → Int32 → Prop) (e : Int32) (N : Nat → Nat → Prop) : Prop :=
  ∀ R, cp_R N R → ((((e ≤ 1 ∨ pa (12 * (n - 1) + 7) = 0) ∧ cp_F up R = 0) → post 5 (nI (n - 1)) 0 0) ∧ (¬ ((e ≤ 1 ∨ pa (12 * (n - 1) + 7) = 0) ∧ cp_F up R = 0) → post 0 (-1) (cp_F up R) R))
def cp_V (pa mp su : Nat → Int32) (anc up tm : Int32) (n : Nat) (post : Int32 → Int32 → Int32 → Int32 → Prop) : Nat → Nat → Int32 → Int32 → Int32 → Int32 → (Nat → Nat → Prop) → Prop
  | 0 => fun _ _ _ _ _ _ => False
  | f + 1 => fun i e p a m S =>
    ((tm < pa (12 * i + 2) ∨ pa (12 * i + 3) < tm) → post 2 (nI i) 0 0) ∧ (¬ (tm < pa (12 * i + 2) ∨ pa (12 * i + 3) < tm) →
    ((¬ pa (12 * i) = cp_want pa anc i) → post 3 (nI i) 0 0) ∧ (¬ (¬ pa (12 * i) = cp_want pa anc i) →
    ((¬ cp_ex pa n i ∧ cp_bad pa su i) → post 4 (nI i) 0 0) ∧ (¬ (¬ cp_ex pa n i ∧ cp_bad pa su i) →
    ((e = 0 ∧ cp_em (cp_NN pa mp n i p a S)) → post 5 (nI i) 0 0) ∧ (¬ (e = 0 ∧ cp_em (cp_NN pa mp n i p a S)) →
    (i + 1 = n → cp_W pa up n post e (cp_NN pa mp n i p a S)) ∧ (¬ i + 1 = n →
    (pa (12 * i + 4) &&& 1 = 0 → post 6 (nI i) 0 0) ∧ (¬ pa (12 * i + 4) &&& 1 = 0 →
    ((¬ cp_self pa i ∧ m = 0) → post 7 (nI i) 0 0) ∧ (¬ (¬ cp_self pa i ∧ m = 0) →
    ((¬ pa (12 * i + 4) &&& 2 = 0 ∧ pa (12 * i + 4) &&& 4 = 0) → post 8 (nI i) 0 0) ∧ (¬ (¬ pa (12 * i + 4) &&& 2 = 0 ∧ pa (12 * i + 4) &&& 4 = 0) →
      cp_V pa mp su anc up tm n post f (i + 1) (cp_nx (pa (12 * i)) (pa (12 * i + 1)) e (pa (12 * i + 7))) (cp_nx (pa (12 * i)) (pa (12 * i + 1)) p (pa (12 * i + 8)))
        (cp_nx (pa (12 * i)) (pa (12 * i + 1)) a (pa (12 * i + 9))) (cp_nx (pa (12 * i)) (pa (12 * i + 1)) m (pa (12 * i + 5))) (cp_S (cp_NN pa mp n i p a S) p (fun v => mp (16 * i + v)))))))))))
def cp_S0 (d v : Nat) : Prop := d = 0 ∧ v = 0
theorem cp_Run {N : Nat → Nat → Prop} {R R' : Int32} (h : cp_R N R) (h' : cp_R N R') : R = R' := by
  refine b_ext fun i hi => ?_
  have a := h i hi
  have b := h' i hi
  cases hR : bt R i <;> cases hR' : bt R' i
  · rfl
  · rw [hR] at a; rw [hR'] at b; exact absurd (a.mpr (b.mp rfl)) (by decide)
  · rw [hR] at a; rw [hR'] at b; exact absurd (b.mpr (a.mp rfl)) (by decide)
  · rfl
theorem cp_Rex (N : Nat → Nat → Prop) : ∃ R, cp_R N R := cq_mk (fun d => ∃ v, v < 16 ∧ N d v) 16 (by omega)
theorem cp_R0 {N : Nat → Nat → Prop} {R : Int32} (h : cp_R N R) : R = 0 ↔ cp_em N := by
  constructor
  · rintro rfl d v hd hv hN
    have := (h d (by omega)).mpr ⟨hd, v, hv, hN⟩
    rw [b_0] at this
    exact absurd this (by decide)
  · intro he
    refine cq_z.mpr fun i hi => ?_
    cases hb : bt R i with
    | false => rfl
    | true =>
      obtain ⟨a, v, hv, hN⟩ := (h i hi).mp hb
      exact absurd hN (he i v a hv)
theorem cp_tot {pa mp su : Nat → Int32} {anc up tm : Int32} {n : Nat} : ∀ (f i : Nat) (e p a m : Int32) (S : Nat → Nat → Prop), i < n → n - i ≤ f →
    ∃ s x F R : Int32, ∀ post : Int32 → Int32 → Int32 → Int32 → Prop, post s x F R → cp_V pa mp su anc up tm n post f i e p a m S := by
  intro f
  induction f with
  | zero => intro i e p a m S h1 h2; omega
  | succ f ih =>
    intro i e p a m S h1 h2
    unfold cp_V
    by_cases c1 : (tm < pa (12 * i + 2) ∨ pa (12 * i + 3) < tm)
    · exact ⟨_, _, _, _, fun post hp => br_t c1 hp⟩
    by_cases c2 : (¬ pa (12 * i) = cp_want pa anc i)
    · exact ⟨_, _, _, _, fun post hp => br_f c1 (br_t c2 hp)⟩
    by_cases c3 : (¬ cp_ex pa n i ∧ cp_bad pa su i)
    · exact ⟨_, _, _, _, fun post hp => br_f c1 (br_f c2 (br_t c3 hp))⟩
    by_cases c4 : (e = 0 ∧ cp_em (cp_NN pa mp n i p a S))
    · exact ⟨_, _, _, _, fun post hp => br_f c1 (br_f c2 (br_f c3 (br_t c4 hp)))⟩
    by_cases c5 : i + 1 = n
    · obtain ⟨R, hR⟩ := cp_Rex (cp_NN pa mp n i p a S)
      by_cases c6 : ((e ≤ 1 ∨ pa (12 * (n - 1) + 7) = 0) ∧ cp_F up R = 0)
      · refine ⟨5, nI (n - 1), 0, 0, fun post hp => br_f c1 (br_f c2 (br_f c3 (br_f c4 (br_t c5 fun R' hR' => ?_))))⟩
        cases cp_Run hR hR'
        exact br_t c6 hp
      · refine ⟨0, -1, cp_F up R, R, fun post hp => br_f c1 (br_f c2 (br_f c3 (br_f c4 (br_t c5 fun R' hR' => ?_))))⟩
        cases cp_Run hR hR'
        exact br_f c6 hp
    by_cases c6 : pa (12 * i + 4) &&& 1 = 0
    · exact ⟨_, _, _, _, fun post hp => br_f c1 (br_f c2 (br_f c3 (br_f c4 (br_f c5 (br_t c6 hp)))))⟩
    by_cases c7 : (¬ cp_self pa i ∧ m = 0)
    · exact ⟨_, _, _, _, fun post hp => br_f c1 (br_f c2 (br_f c3 (br_f c4 (br_f c5 (br_f c6 (br_t c7 hp))))))⟩
    by_cases c8 : (¬ pa (12 * i + 4) &&& 2 = 0 ∧ pa (12 * i + 4) &&& 4 = 0)
    · exact ⟨_, _, _, _, fun post hp => br_f c1 (br_f c2 (br_f c3 (br_f c4 (br_f c5 (br_f c6 (br_f c7 (br_t c8 hp)))))))⟩
    obtain ⟨s, x, F, R, h⟩ := ih (i + 1) (cp_nx (pa (12 * i)) (pa (12 * i + 1)) e (pa (12 * i + 7))) (cp_nx (pa (12 * i)) (pa (12 * i + 1)) p (pa (12 * i + 8)))
        (cp_nx (pa (12 * i)) (pa (12 * i + 1)) a (pa (12 * i + 9))) (cp_nx (pa (12 * i)) (pa (12 * i + 1)) m (pa (12 * i + 5))) (cp_S (cp_NN pa mp n i p a S) p (fun v => mp (16 * i + v))) (by omega) (by omega)
    exact ⟨s, x, F, R, fun post hp => br_f c1 (br_f c2 (br_f c3 (br_f c4 (br_f c5 (br_f c6 (br_f c7 (br_f c8 (h post hp))))))))⟩
theorem cp_nx0 {is su c lim : Int32} (h : 0 ≤ c) : 0 ≤ cp_nx is su c lim := by
  have h1 : 0 ≤ (if 0 < c ∧ ¬ is = su then c - 1 else c) := by
    split
    · rename_i hc
      have h0 := hc.1
      rw [Int32.lt_iff_toInt_lt] at h0
      rw [Int32.le_iff_toInt_le]
      obtain ⟨j, hj, rfl⟩ := nI_of (x := c) (Int32.not_lt.mpr h)
      rw [nI_toInt hj] at h0
      have z : (0 : Int32).toInt = 0 := by decide
      rw [z] at h0
      have e : nI j - 1 = nI (j - 1) := by
        obtain ⟨k, rfl⟩ : ∃ k, j = k + 1 := ⟨j - 1, by omega⟩
        exact nI_pred k
      rw [e, z, nI_toInt (by omega)]
      omega
    · exact h
  unfold cp_nx
  by_cases hc : 0 ≤ lim ∧ lim < (if 0 < c ∧ ¬ is = su then c - 1 else c)
  · rw [if_pos hc]; exact hc.1
  · rw [if_neg hc]; exact h1
/-- no pair (d, 0) but (0, 0) -/
def cp_Z (S : Nat → Nat → Prop) : Prop := ∀ d, S d 0 → d = 0
theorem cp_ZN {S : Nat → Nat → Prop} {C : Int32} {an op : Prop} {T : Nat → Int32} : cp_Z (cp_N S C an op T) := by
  rintro d (⟨h, _⟩ | ⟨h, _⟩)
  · exact absurd rfl h
  · exact h
theorem cp_ZS {N : Nat → Nat → Prop} {p : Int32} {T : Nat → Int32} (h : cp_Z N) (hT : ∀ v, bt (T v) 0 = false) : cp_Z (cp_S N p T) := by
  rintro d (⟨h1, _⟩ | ⟨_, v, _, _, _, _, h1⟩)
  · exact h d h1
  · rw [hT v] at h1; exact absurd h1 (by decide)
theorem cp_ZS0 : cp_Z cp_S0 := fun _ h => h.1
/-! Y's arrays out of X's -/
def cp_a (pa : Nat → Int32) (k c : Nat) : Int32 := pa (12 * c + k)
def cp_sp (su : Nat → Int32) (kd j : Nat) : Int32 := su (8 * (j / 4) + 4 * kd + j % 4)
theorem cp_spk {su : Nat → Int32} {kd c k : Nat} (hk : k < 4) : cp_sp su kd (4 * c + k) = su (8 * c + 4 * kd + k) := by
  unfold cp_sp
  exact congrArg su (by omega)
def cp_K (pa : Nat → Int32) : Prop := ∀ c kd, kd < 2 → ∃ K, K ≤ 4 ∧ pa (12 * c + (10 + kd)) = nI K
end
section
/-! X's masks: one int a policy -/
def cx_R (ex : Nat → Int32) (S : Nat → Nat → Prop) : Prop := ∀ d, d < 16 → ∀ v, v < 32 → (bt (ex d) v = true ↔ v < 16 ∧ S d v)
def cx_k (an : Prop) (C kept : Int32) : Prop := (an ∧ kept = 65535) ∨ (¬ an ∧ kept = C)
theorem cx_f1 {ex : Nat → Int32} {S : Nat → Nat → Prop} {an : Prop} {C kept : Int32} (h : cx_R ex S) (hk : cx_k an C kept) {d v : Nat} (hd : d < 16) (hv : v < 32) :
    bt ((ex d &&& kept) &&& (-2)) v = true ↔ v < 16 ∧ v ≠ 0 ∧ S d v ∧ (bt C v = true ∨ an) := by
  rw [b_and, b_and, cq_m2 v hv, Bool.and_eq_true, Bool.and_eq_true, h d hd v hv, decide_eq_true_eq]
  rcases hk with ⟨ha, rfl⟩ | ⟨ha, rfl⟩
  · rw [b_65535, decide_eq_true_eq]
    constructor
    · rintro ⟨⟨⟨a, b⟩, c⟩, d⟩; exact ⟨a, d, b, Or.inr ha⟩
    · rintro ⟨a, b, c, _⟩; exact ⟨⟨⟨a, c⟩, a⟩, b⟩
  · constructor
    · rintro ⟨⟨⟨a, b⟩, c⟩, d⟩; exact ⟨a, d, b, Or.inl c⟩
    · rintro ⟨a, b, c, d | d⟩
      · exact ⟨⟨⟨a, c⟩, d⟩, b⟩
      · exact absurd d ha
/-- what the pair (0, 0) adds at policy d -/
def cx_o (S : Nat → Nat → Prop) (C : Int32) (an op : Prop) (T : Nat → Int32) (d : Nat) : Prop :=
  S 0 0 ∧ ((d ≠ 0 ∧ (bt C d = true ∨ (an ∧ op ∧ ¬ T d = 0))) ∨ (d = 0 ∧ an))
def cx_u (no no' : Nat → Int32) (o : Nat → Prop) : Prop := ∀ d, d < 16 → ∀ v, v < 32 → (bt (no' d) v = true ↔ bt (no d) v = true ∨ (v = d ∧ o d))
theorem cx_N {ex no no' : Nat → Int32} {S : Nat → Nat → Prop} {an op : Prop} {C kept : Int32} {T : Nat → Int32} (h : cx_R ex S) (hk : cx_k an C kept)
    (h1 : ∀ d, d < 16 → no d = (ex d &&& kept) &&& (-2)) (h2 : cx_u no no' (cx_o S C an op T)) : cx_R no' (cp_N S C an op T) := by
  intro d hd v hv
  rw [h2 d hd v hv, h1 d hd, cx_f1 h hk hd hv]
  unfold cp_N cx_o
  constructor
  · rintro (⟨a, b, c⟩ | ⟨rfl, c, e⟩)
    · exact ⟨a, Or.inl ⟨b, c⟩⟩
    · exact ⟨by omega, Or.inr ⟨rfl, c, e⟩⟩
  · rintro ⟨a, ⟨b, c⟩ | ⟨rfl, c, e⟩⟩
    · exact Or.inl ⟨a, b, c⟩
    · exact Or.inr ⟨rfl, c, e⟩
theorem cx_or1 {x : Int32} {p v : Nat} (hp : p < 32) (hv : v < 32) : bt (x ||| ((1 : Int32) <<< (nI p &&& 31))) v = true ↔ bt x v = true ∨ v = p := by
  rw [b_or, Bool.or_eq_true, cq_one p hp v hv, decide_eq_true_eq]
theorem cx_or0 {x : Int32} {v : Nat} (hv : v < 32) : bt (x ||| 1) v = true ↔ bt x v = true ∨ v = 0 := by
  rw [b_or, Bool.or_eq_true, cq_1 v hv, decide_eq_true_eq]
/-- the mask of the first k policies that have a pair -/
def cx_m (no : Nat → Int32) (k : Nat) (m : Int32) : Prop := ∀ d, d < 32 → (bt m d = true ↔ d < k ∧ ¬ no d = 0)
theorem cx_m0 {no : Nat → Int32} : cx_m no 0 0 := fun d _ => by rw [b_0]; simp
theorem cx_ms {no : Nat → Int32} {k : Nat} {m : Int32} (hk : k < 32) (h : cx_m no k m) (hz : ¬ no k = 0) : cx_m no (k + 1) (m ||| ((1 : Int32) <<< (nI k &&& 31))) := by
  intro d hd
  rw [cx_or1 hk hd, h d hd]
  constructor
  · rintro (⟨a, b⟩ | rfl)
    · exact ⟨by omega, b⟩
    · exact ⟨by omega, hz⟩
  · rintro ⟨a, b⟩
    by_cases e : d = k
    · exact Or.inr e
    · exact Or.inl ⟨by omega, b⟩
theorem cx_mz {no : Nat → Int32} {k : Nat} {m : Int32} (h : cx_m no k m) (hz : no k = 0) : cx_m no (k + 1) m := by
  intro d hd
  rw [h d hd]
  constructor
  · rintro ⟨a, b⟩; exact ⟨by omega, b⟩
  · rintro ⟨a, b⟩
    by_cases e : d = k
    · subst e; exact absurd hz b
    · exact ⟨by omega, b⟩
theorem cx_mR {no : Nat → Int32} {N : Nat → Nat → Prop} {m : Int32} (h : cx_m no 16 m) (hN : cx_R no N) : cp_R N m := by
  intro d hd
  rw [h d hd]
  constructor
  · rintro ⟨a, b⟩
    obtain ⟨v, hv, hb⟩ := cq_nz.mp b
    obtain ⟨c, e⟩ := (hN d a v hv).mp hb
    exact ⟨a, v, c, e⟩
  · rintro ⟨a, v, hv, hb⟩
    exact ⟨a, cq_nz.mpr ⟨v, by omega, (hN d a v (by omega)).mpr ⟨hv, hb⟩⟩⟩
/-- the mapped mask of one policy, by the first k labels -/
def cx_t (p : Int32) (T : Nat → Int32) (held : Int32) (k : Nat) (r : Int32) : Prop :=
  ∀ t, t < 32 → (bt r t = true ↔ (t = 0 ∧ bt held 0 = true) ∨ ∃ v, v < k ∧ v ≠ 0 ∧ bt held v = true ∧ ((T v = 0 ∧ t = v) ∨ (¬ T v = 0 ∧ 0 < p ∧ bt (T v) t = true)))
theorem cx_t1 {p : Int32} {T : Nat → Int32} {held : Int32} : cx_t p T held 1 (held &&& 1) := by
  intro t ht
  rw [b_and, cq_1 t ht, Bool.and_eq_true, decide_eq_true_eq]
  constructor
  · rintro ⟨a, rfl⟩; exact Or.inl ⟨rfl, a⟩
  · rintro (⟨rfl, a⟩ | ⟨v, a, b, _⟩)
    · exact ⟨a, rfl⟩
    · omega
theorem cx_tn {p : Int32} {T : Nat → Int32} {held r : Int32} {k : Nat} (h : cx_t p T held k r) (hn : bt held k = true → ¬ T k = 0 ∧ ¬ 0 < p) : cx_t p T held (k + 1) r := by
  intro t ht
  rw [h t ht]
  constructor
  · rintro (a | ⟨v, a, b⟩)
    · exact Or.inl a
    · exact Or.inr ⟨v, by omega, b⟩
  · rintro (a | ⟨v, a, b, c, d⟩)
    · exact Or.inl a
    · by_cases e : v = k
      · subst e
        obtain ⟨h1, h2⟩ := hn c
        rcases d with d | d
        · exact absurd d.1 h1
        · exact absurd d.2.1 h2
      · exact Or.inr ⟨v, by omega, b, c, d⟩
theorem cx_tv {p : Int32} {T : Nat → Int32} {held r : Int32} {k : Nat} (hk : k < 32) (h0 : k ≠ 0) (h : cx_t p T held k r) (hb : bt held k = true) (hT : T k = 0) : cx_t p T held (k + 1) (r ||| ((1 : Int32) <<< (nI k &&& 31))) := by
  intro t ht
  rw [cx_or1 hk ht, h t ht]
  constructor
  · rintro ((a | ⟨v, a, b⟩) | rfl)
    · exact Or.inl a
    · exact Or.inr ⟨v, by omega, b⟩
    · exact Or.inr ⟨t, by omega, h0, hb, Or.inl ⟨hT, rfl⟩⟩
  · rintro (a | ⟨v, a, b, c, d⟩)
    · exact Or.inl (Or.inl a)
    · by_cases e : v = k
      · subst e
        rcases d with d | d
        · exact Or.inr d.2
        · exact absurd hT d.1
      · exact Or.inl (Or.inr ⟨v, by omega, b, c, d⟩)
theorem cx_tt {p : Int32} {T : Nat → Int32} {held r : Int32} {k : Nat} (h0 : k ≠ 0) (h : cx_t p T held k r) (hb : bt held k = true) (hT : ¬ T k = 0) (hp : 0 < p) : cx_t p T held (k + 1) (r ||| T k) := by
  intro t ht
  rw [b_or, Bool.or_eq_true, h t ht]
  constructor
  · rintro ((a | ⟨v, a, b⟩) | a)
    · exact Or.inl a
    · exact Or.inr ⟨v, by omega, b⟩
    · exact Or.inr ⟨k, by omega, h0, hb, Or.inr ⟨hT, hp, a⟩⟩
  · rintro (a | ⟨v, a, b, c, d⟩)
    · exact Or.inl (Or.inl a)
    · by_cases e : v = k
      · subst e
        rcases d with d | d
        · exact absurd d.1 hT
        · exact Or.inr d.2.2
      · exact Or.inl (Or.inr ⟨v, by omega, b, c, d⟩)
/-- a mapping's targets: labels 1 to 15 -/
def cp_T (x : Int32) : Prop := ∀ t, t < 32 → bt x t = true → 1 ≤ t ∧ t < 16
theorem cp_T0 {x : Int32} (h : cp_T x) : bt x 0 = false := by
  cases hb : bt x 0 with
  | false => rfl
  | true => have := h 0 (by omega) hb; omega
theorem cx_S {no ex : Nat → Int32} {N : Nat → Nat → Prop} {p : Int32} {T : Nat → Int32} (hT : ∀ v, cp_T (T v)) (h : cx_R no N) (h1 : ∀ d, d < 16 → cx_t p T (no d) 16 (ex d)) : cx_R ex (cp_S N p T) := by
  intro d hd t ht
  rw [h1 d hd t ht]
  unfold cp_S
  constructor
  · rintro (⟨rfl, a⟩ | ⟨v, a, b, c, ⟨e, rfl⟩ | ⟨e, f, g⟩⟩)
    · exact ⟨by omega, Or.inl ⟨((h d hd 0 (by omega)).mp a).2, Or.inl rfl⟩⟩
    · exact ⟨a, Or.inl ⟨((h d hd t ht).mp c).2, Or.inr e⟩⟩
    · exact ⟨(hT v t ht g).2, Or.inr ⟨f, v, a, b, ((h d hd v (by omega)).mp c).2, e, g⟩⟩
  · rintro ⟨a, ⟨b, c⟩ | ⟨f, v, a', b, c, e, g⟩⟩
    · by_cases z : t = 0
      · subst z; exact Or.inl ⟨rfl, (h d hd 0 (by omega)).mpr ⟨a, b⟩⟩
      · rcases c with c | c
        · exact absurd c z
        · exact Or.inr ⟨t, a, z, (h d hd t ht).mpr ⟨a, b⟩, Or.inl ⟨c, rfl⟩⟩
    · exact Or.inr ⟨v, a', b, (h d hd v (by omega)).mpr ⟨a', c⟩, Or.inr ⟨e, f, g⟩⟩
theorem cx_R0 {ex : Nat → Int32} (h0 : ex 0 = 1) (h : ∀ d, d < 16 → d ≠ 0 → ex d = 0) : cx_R ex cp_S0 := by
  intro d hd v hv
  unfold cp_S0
  by_cases e : d = 0
  · subst e
    rw [h0, cq_1 v hv, decide_eq_true_eq]
    omega
  · rw [h d hd e, b_0]
    simp [e]

/-! Y's sets: one cell a pair -/
def cy_R (ss : Nat → Int32) (S : Nat → Nat → Prop) : Prop := ∀ x, x < 256 → (¬ ss x = 0 ↔ S (x / 16) (x % 16))
def cy_A (C : Int32) (an op : Prop) (T : Nat → Int32) (x j : Nat) : Prop :=
  (x % 16 ≠ 0 ∧ j = x ∧ (bt C (x % 16) = true ∨ an)) ∨ (x % 16 = 0 ∧ ((∃ q, 1 ≤ q ∧ q < 16 ∧ bt C q = true ∧ j = 17 * q) ∨ (an ∧ (j = 0 ∨ ∃ q, 1 ≤ q ∧ q < 16 ∧ op ∧ ¬ T q = 0 ∧ j = 17 * q))))
def cy_I (A : Nat → Nat → Prop) (ss : Nat → Int32) (k : Nat) (ns : Nat → Int32) : Prop := ∀ j, j < 256 → (¬ ns j = 0 ↔ ∃ x, x < k ∧ ¬ ss x = 0 ∧ A x j)
theorem cy_I0 {A : Nat → Nat → Prop} {ss ns : Nat → Int32} (h : ∀ j, j < 256 → ns j = 0) : cy_I A ss 0 ns := by
  intro j hj
  rw [h j hj]
  constructor
  · intro z; exact absurd rfl z
  · rintro ⟨x, a, _⟩; omega
theorem cy_In {A : Nat → Nat → Prop} {ss ns : Nat → Int32} {k : Nat} (h : cy_I A ss k ns) (hz : ss k = 0) : cy_I A ss (k + 1) ns := by
  intro j hj
  rw [h j hj]
  constructor
  · rintro ⟨x, a, b⟩; exact ⟨x, by omega, b⟩
  · rintro ⟨x, a, b, c⟩
    by_cases e : x = k
    · subst e; exact absurd hz b
    · exact ⟨x, by omega, b, c⟩
theorem cy_Is {A : Nat → Nat → Prop} {ss ns ns' : Nat → Int32} {k : Nat} (h : cy_I A ss k ns) (hz : ¬ ss k = 0) (hn : ∀ j, j < 256 → (¬ ns' j = 0 ↔ ¬ ns j = 0 ∨ A k j)) : cy_I A ss (k + 1) ns' := by
  intro j hj
  rw [hn j hj, h j hj]
  constructor
  · rintro (⟨x, a, b⟩ | a)
    · exact ⟨x, by omega, b⟩
    · exact ⟨k, by omega, hz, a⟩
  · rintro ⟨x, a, b, c⟩
    by_cases e : x = k
    · subst e; exact Or.inr c
    · exact Or.inl ⟨x, by omega, b, c⟩
theorem cy_N {ss ns : Nat → Int32} {S : Nat → Nat → Prop} {C : Int32} {an op : Prop} {T : Nat → Int32} (hZ : cp_Z S) (h : cy_R ss S) (hI : cy_I (cy_A C an op T) ss 256 ns) : cy_R ns (cp_N S C an op T) := by
  intro j hj
  rw [hI j hj]
  unfold cp_N cy_A
  constructor
  · rintro ⟨x, hx, hs, ⟨a, rfl, b⟩ | ⟨a, b⟩⟩
    · exact Or.inl ⟨a, (h j hx).mp hs, b⟩
    · have h0 := (h x hx).mp hs
      rw [a] at h0
      have h1 := hZ _ h0
      rw [h1] at h0
      rcases b with ⟨q, q1, q2, q3, rfl⟩ | ⟨c, rfl | ⟨q, q1, q2, q3, q4, rfl⟩⟩
      · have e1 : 17 * q / 16 = q := by omega
        have e2 : 17 * q % 16 = q := by omega
        rw [e1, e2]
        exact Or.inr ⟨rfl, h0, Or.inl ⟨by omega, Or.inl q3⟩⟩
      · exact Or.inr ⟨rfl, h0, Or.inr ⟨rfl, c⟩⟩
      · have e1 : 17 * q / 16 = q := by omega
        have e2 : 17 * q % 16 = q := by omega
        rw [e1, e2]
        exact Or.inr ⟨rfl, h0, Or.inl ⟨by omega, Or.inr ⟨c, q3, q4⟩⟩⟩
  · rintro (⟨a, b, c⟩ | ⟨a, b, c⟩)
    · exact ⟨j, hj, (h j hj).mpr b, Or.inl ⟨a, rfl, c⟩⟩
    · refine ⟨0, by omega, (h 0 (by omega)).mpr b, Or.inr ⟨rfl, ?_⟩⟩
      have hj17 : j = 17 * (j % 16) := by omega
      rcases c with ⟨c1, c2 | ⟨c2, c3, c4⟩⟩ | ⟨c1, c2⟩
      · exact Or.inl ⟨j % 16, by omega, by omega, c2, hj17⟩
      · exact Or.inr ⟨c2, Or.inr ⟨j % 16, by omega, by omega, c3, c4, hj17⟩⟩
      · exact Or.inr ⟨c2, Or.inl (by omega)⟩
def cy_B (p : Int32) (T : Nat → Int32) (x j : Nat) : Prop :=
  (¬ (x % 16 ≠ 0 ∧ ¬ T (x % 16) = 0) ∧ j = x) ∨ ((x % 16 ≠ 0 ∧ ¬ T (x % 16) = 0) ∧ 0 < p ∧ ∃ t, 1 ≤ t ∧ t < 16 ∧ bt (T (x % 16)) t = true ∧ j = 16 * (x / 16) + t)
theorem cy_S {ss ns : Nat → Int32} {N : Nat → Nat → Prop} {p : Int32} {T : Nat → Int32} (hT : ∀ v, cp_T (T v)) (h : cy_R ns N) (hI : cy_I (cy_B p T) ns 256 ss) : cy_R ss (cp_S N p T) := by
  intro j hj
  rw [hI j hj]
  unfold cp_S cy_B
  constructor
  · rintro ⟨x, hx, hs, ⟨a, rfl⟩ | ⟨⟨a, b⟩, c, t, t1, t2, t3, rfl⟩⟩
    · refine Or.inl ⟨(h j hx).mp hs, ?_⟩
      by_cases z : j % 16 = 0
      · exact Or.inl z
      · refine Or.inr (Classical.byContradiction fun hn => a ⟨z, hn⟩)
    · have e1 : (16 * (x / 16) + t) / 16 = x / 16 := by omega
      have e2 : (16 * (x / 16) + t) % 16 = t := by omega
      rw [e1, e2]
      exact Or.inr ⟨c, x % 16, by omega, a, (h x hx).mp hs, b, t3⟩
  · rintro (⟨a, b⟩ | ⟨a, v, v1, v2, v3, v4, v5⟩)
    · refine ⟨j, hj, (h j hj).mpr a, Or.inl ⟨?_, rfl⟩⟩
      rintro ⟨c, d⟩
      rcases b with b | b
      · exact c b
      · exact d b
    · have e1 : (16 * (j / 16) + v) / 16 = j / 16 := by omega
      have e2 : (16 * (j / 16) + v) % 16 = v := by omega
      have ht := hT v (j % 16) (by omega) v5
      refine ⟨16 * (j / 16) + v, by omega, (h _ (by omega)).mpr ?_, Or.inr ?_⟩
      · rw [e1, e2]; exact v3
      · rw [e1, e2]; exact ⟨⟨v2, v4⟩, a, j % 16, ht.1, ht.2, v5, by omega⟩
theorem cy_R0 {ss : Nat → Int32} (h0 : ¬ ss 0 = 0) (h : ∀ x, x < 256 → x ≠ 0 → ss x = 0) : cy_R ss cp_S0 := by
  intro x hx
  unfold cp_S0
  by_cases e : x = 0
  · subst e
    exact ⟨fun _ => ⟨rfl, rfl⟩, fun _ => h0⟩
  · constructor
    · intro z; exact absurd (h x hx e) z
    · rintro ⟨a, b⟩; omega
theorem cy_em {ns : Nat → Int32} {N : Nat → Nat → Prop} (h : cy_R ns N) : cp_em N ↔ ∀ x, x < 256 → ns x = 0 := by
  constructor
  · intro he x hx
    apply Classical.byContradiction
    intro hz
    exact he _ _ (by omega) (by omega) ((h x hx).mp hz)
  · intro hz d v hd hv hN
    have e1 : (16 * d + v) / 16 = d := by omega
    have e2 : (16 * d + v) % 16 = v := by omega
    refine (h (16 * d + v) (by omega)).mpr ?_ (hz _ (by omega))
    rw [e1, e2]
    exact hN
def cy_m (ns : Nat → Int32) (k : Nat) (m : Int32) : Prop := ∀ d, d < 32 → (bt m d = true ↔ ∃ x, x < k ∧ ¬ ns x = 0 ∧ x / 16 = d)
theorem cy_m0 {ns : Nat → Int32} : cy_m ns 0 0 := fun d _ => by rw [b_0]; simp
theorem cy_mz {ns : Nat → Int32} {k : Nat} {m : Int32} (h : cy_m ns k m) (hz : ns k = 0) : cy_m ns (k + 1) m := by
  intro d hd
  rw [h d hd]
  constructor
  · rintro ⟨x, a, b⟩; exact ⟨x, by omega, b⟩
  · rintro ⟨x, a, b, c⟩
    by_cases e : x = k
    · subst e; exact absurd hz b
    · exact ⟨x, by omega, b, c⟩
theorem cy_ms {ns : Nat → Int32} {k : Nat} {m : Int32} (hk : k < 256) (h : cy_m ns k m) (hz : ¬ ns k = 0) : cy_m ns (k + 1) (m ||| ((1 : Int32) <<< (nI (k / 16) &&& 31))) := by
  intro d hd
  rw [cx_or1 (by omega) hd, h d hd]
  constructor
  · rintro (⟨x, a, b⟩ | rfl)
    · exact ⟨x, by omega, b⟩
    · exact ⟨k, by omega, hz, rfl⟩
  · rintro ⟨x, a, b, c⟩
    by_cases e : x = k
    · subst e; exact Or.inr c.symm
    · exact Or.inl ⟨x, by omega, b, c⟩
theorem cy_mR {ns : Nat → Int32} {N : Nat → Nat → Prop} {m : Int32} (h : cy_m ns 256 m) (hN : cy_R ns N) : cp_R N m := by
  intro d hd
  rw [h d hd]
  constructor
  · rintro ⟨x, a, b, rfl⟩
    exact ⟨by omega, x % 16, by omega, (hN x a).mp b⟩
  · rintro ⟨a, v, hv, hb⟩
    have e1 : (16 * d + v) / 16 = d := by omega
    have e2 : (16 * d + v) % 16 = v := by omega
    refine ⟨16 * d + v, by omega, (hN _ (by omega)).mpr ?_, e1⟩
    rw [e1, e2]
    exact hb
end
section
section XS
variable {cap cnt anc up fl ls lf la lr el ml al ll : Int32} {pa mp su ex no : Nat → Int32}
/-! X: the small methods, each with a general post -/
theorem x_ix {c f k : Nat} : nI c * nI k + nI f = nI (k * c + f) := by rw [pk_mul, nI_add, Nat.mul_comm]
theorem x_part {post : Int32 → Prop} {c f : Nat} (hc : c < 8) (hf : f < 12) (h : post (pa (12 * c + f))) : wpX_part post (cap, cnt, anc, up, fl, ls, lf, la, lr, el, ml, al, ll, pa, mp, su, ex, no) (nI c) (nI f) := by
  unfold wpX_part
  dsimp only
  have e : nI c * 12 + nI f = nI (12 * c + f) := x_ix
  rw [e, nI_clamp (by omega)]
  exact ⟨vp_in_nI (by omega) (by omega), h⟩
theorem x_setPart {post : SX → Prop} {c f : Nat} {y : Int32} (hc : c < 8) (hf : f < 12) (h : post (cap, cnt, anc, up, fl, ls, lf, la, lr, el, ml, al, ll, (upd pa (12 * c + f) y), mp, su, ex, no)) : wpX_setPart post (cap, cnt, anc, up, fl, ls, lf, la, lr, el, ml, al, ll, pa, mp, su, ex, no) (nI c) (nI f) y := by
  unfold wpX_setPart
  dsimp only
  have e : nI c * 12 + nI f = nI (12 * c + f) := x_ix
  rw [e, nI_clamp (by omega)]
  exact ⟨vp_in_nI (by omega) (by omega), nm_e h⟩
theorem x_targets {post : Int32 → Prop} {c s : Nat} (hc : c < 8) (hs : s < 16) (h : post (mp (16 * c + s))) : wpX_targets post (cap, cnt, anc, up, fl, ls, lf, la, lr, el, ml, al, ll, pa, mp, su, ex, no) (nI c) (nI s) := by
  unfold wpX_targets
  dsimp only
  have e : nI c * 16 + nI s = nI (16 * c + s) := x_ix
  rw [e, nI_clamp (by omega)]
  exact ⟨vp_in_nI (by omega) (by omega), h⟩
theorem x_keep {post : Int32 → SX → Prop} {s i : Int32} (h : post s (cap, cnt, anc, up, fl, s, i, 0, 0, el, ml, al, ll, pa, mp, su, ex, no)) : wpX_keepFailure post (cap, cnt, anc, up, fl, ls, lf, la, lr, el, ml, al, ll, pa, mp, su, ex, no) s i := h
theorem x_reset {post : SX → Prop} (h : post (cap, cnt, anc, up, fl, (-1), (-1), 0, 0, el, ml, al, ll, pa, mp, su, ex, no)) : wpX_resetResult post (cap, cnt, anc, up, fl, ls, lf, la, lr, el, ml, al, ll, pa, mp, su, ex, no) := h
theorem x_group {post : Int32 → Prop} {x : Int32} {k : Nat} (h : post (cp_g x k)) : wpX_group post x (nI k) := by
  unfold wpX_group
  have e : 4 * nI k = nI (4 * k) := pk_mul 4 k
  rw [e]
  exact h
theorem x_inRange {post : Int32 → Prop} {x a b : Int32} (h1 : a ≤ x ∧ x ≤ b → post 1) (h0 : ¬ (a ≤ x ∧ x ≤ b) → post 0) : wpX_inRange post x a b :=
  br_c (fun h => h0 (fun z => absurd z.1 (Int32.not_le.mpr h))) (fun h => br_c (fun h' => h0 (fun z => absurd z.2 (Int32.not_le.mpr h'))) (fun h' => h1 ⟨Int32.not_lt.mp h, Int32.not_lt.mp h'⟩))
theorem x_isNum {post : Int32 → Prop} {x : Int32} (h1 : -1 ≤ x ∧ x ≤ 15 → post 1) (h0 : ¬ (-1 ≤ x ∧ x ≤ 15) → post 0) : wpX_isNumberOrNone post x := by
  unfold wpX_isNumberOrNone
  exact x_inRange (fun h => ⟨rfl, h1 h⟩) (fun h => ⟨rfl, h0 h⟩)
theorem x_isSpec {post : Int32 → Prop} {x : Int32} (h1 : 1 ≤ x ∧ x ≤ 15 → post 1) (h0 : ¬ (1 ≤ x ∧ x ≤ 15) → post 0) : wpX_isSpecificPolicy post x := by
  unfold wpX_isSpecificPolicy
  exact x_inRange (fun h => ⟨rfl, h1 h⟩) (fun h => ⟨rfl, h0 h⟩)
theorem x_isKind {post : Int32 → Prop} {x : Int32} (h1 : x = 0 ∨ x = 1 → post 1) (h0 : ¬ (x = 0 ∨ x = 1) → post 0) : wpX_isKind post x :=
  br_c (fun h => h1 (Or.inl h)) (fun h => br_c (fun h' => h1 (Or.inr h')) (fun h' => h0 (fun z => z.elim h h')))
theorem x_isCert {post : Int32 → Prop} {n : Nat} (hn : n ≤ 8) {x : Int32} (h1 : 0 ≤ x ∧ x < nI n → post 1) (h0 : ¬ (0 ≤ x ∧ x < nI n) → post 0) : wpX_isCert post (cap, (nI n), anc, up, fl, ls, lf, la, lr, el, ml, al, ll, pa, mp, su, ex, no) x :=
  br_c (fun h => h0 (fun z => absurd z.1 (Int32.not_le.mpr h))) (fun h => br_c (fun h' => h0 (fun z => absurd z.2 (Int32.not_lt.mpr h'))) (fun h' => h1 ⟨Int32.not_lt.mp h, Int32.not_le.mp h'⟩))
theorem x_cert {n : Nat} (hn : n ≤ 8) {x : Int32} (h : 0 ≤ x ∧ x < nI n) : ∃ c, c < n ∧ x = nI c := by
  obtain ⟨c, hc, rfl⟩ := nI_of (x := x) (Int32.not_lt.mpr h.1)
  exact ⟨c, (nI_ltI hc (by omega)).mp h.2, rfl⟩
theorem x_rng {x : Int32} {a b : Nat} (hb : b < 2 ^ 31) (h : nI a ≤ x ∧ x ≤ nI b) (ha : a < 2 ^ 31) : ∃ c, a ≤ c ∧ c ≤ b ∧ x = nI c := by
  have h0 : (0 : Int32) ≤ x := Int32.le_trans (nI_pos' ha) h.1
  obtain ⟨c, hc, rfl⟩ := nI_of (x := x) (Int32.not_lt.mpr h0)
  exact ⟨c, (nI_leI ha hc).mp h.1, (nI_leI hc hb).mp h.2, rfl⟩
theorem x_isNameL {post : Int32 → Prop} {x : Int32} (hr : 0 ≤ x ∧ x ≤ 65535) (h1 : cp_nm x → post 1) (h0 : ¬ cp_nm x → post 0) : ∀ d m, m + d = 3 →
    (∀ j, j < m → ¬ cp_g x (j + 1) = 0 → ¬ cp_g x j = 0) → wX_isName_14 post x (d + 1) (nI (m + 1)) := by
  intro d
  induction d with
  | zero =>
    intro m hm H
    obtain rfl : m = 3 := by omega
    exact br_t (by decide) (h1 ⟨hr, H⟩)
  | succ d ih =>
    intro m hm H
    refine br_f (nI_ge (b := 4) (by omega) (by decide)) (x_group (br_c (fun hz => nm_r (nI_1 (m + 1)) (ih (m + 1) (by omega) ?_)) (fun hz => ?_)))
    · intro j hj hg
      by_cases e : j = m
      · subst e; exact absurd hz hg
      · exact H j (by omega) hg
    · rw [nI_pred]
      refine x_group (br_c (fun h7 => h0 (fun z => z.2 m (by omega) hz h7)) (fun h7 => nm_r (nI_1 (m + 1)) (ih (m + 1) (by omega) ?_)))
      intro j hj hg
      by_cases e : j = m
      · subst e; exact h7
      · exact H j (by omega) hg
theorem x_isName {post : Int32 → Prop} {x : Int32} (h1 : cp_nm x → post 1) (h0 : ¬ cp_nm x → post 0) : wpX_isName post x := by
  unfold wpX_isName
  exact x_inRange (fun hr => br_f (by decide) ⟨4, x_isNameL hr h1 h0 3 0 rfl (fun j hj => absurd hj (by omega))⟩) (fun hr => br_t rfl (h0 fun z => hr z.1))
theorem x_liesInL {post : Int32 → Prop} {x s : Int32} (h1 : cp_lie x s → post 1) (h0 : ¬ cp_lie x s → post 0) : ∀ d m, m + d = 4 →
    (∀ j, j < m → ¬ cp_g s j = 0 → cp_g s j = cp_g x j) → wX_liesIn_2 post x s (d + 1) (nI m) := by
  intro d
  induction d with
  | zero =>
    intro m hm H
    obtain rfl : m = 4 := by omega
    exact br_t (by decide) (h1 H)
  | succ d ih =>
    intro m hm H
    refine br_f (nI_ge (b := 4) (by omega) (by decide)) (x_group (br_c (fun hz => nm_r (nI_1 m) (ih (m + 1) (by omega) ?_)) (fun hz => x_group (br_c (fun h7 => nm_r (nI_1 m) (ih (m + 1) (by omega) ?_)) (fun h7 => h0 (fun z => h7 (z m (by omega) hz)))))))
    · intro j hj hg
      by_cases e : j = m
      · subst e; exact absurd hz hg
      · exact H j (by omega) hg
    · intro j hj hg
      by_cases e : j = m
      · subst e; exact h7
      · exact H j (by omega) hg
theorem x_liesIn {post : Int32 → Prop} {x s : Int32} (h1 : cp_lie x s → post 1) (h0 : ¬ cp_lie x s → post 0) : wpX_liesIn post x s :=
  ⟨5, x_liesInL h1 h0 4 0 rfl (fun j hj => absurd hj (by omega))⟩
theorem x_self {post : Int32 → Prop} {c : Nat} (hc : c < 8) (h1 : cp_self pa c → post 1) (h0 : ¬ cp_self pa c → post 0) : wpX_isSelfIssued post (cap, cnt, anc, up, fl, ls, lf, la, lr, el, ml, al, ll, pa, mp, su, ex, no) (nI c) := by
  unfold wpX_isSelfIssued
  exact x_part (f := 0) hc (by decide) (x_part (f := 1) hc (by decide) (br_c h1 h0))
theorem x_leaf {post : Int32 → Prop} {c n : Nat} (hc : c < n) (hn : n ≤ 8) (h1 : c + 1 = n → post 1) (h0 : ¬ c + 1 = n → post 0) : wpX_isLeaf post (cap, (nI n), anc, up, fl, ls, lf, la, lr, el, ml, al, ll, pa, mp, su, ex, no) (nI c) := by
  unfold wpX_isLeaf
  dsimp only
  obtain ⟨m, rfl⟩ : ∃ m, n = m + 1 := ⟨n - 1, by omega⟩
  rw [nI_pred]
  exact pk_eq c m (fun h => h1 (by omega)) (fun h => h0 (by omega))
theorem x_subCnt {post : Int32 → Prop} {c k : Nat} (hc : c < 8) (hk : k < 2) (h : post (pa (12 * c + (10 + k)))) : wpX_subtreeCount post (cap, cnt, anc, up, fl, ls, lf, la, lr, el, ml, al, ll, pa, mp, su, ex, no) (nI c) (nI k) := by
  unfold wpX_subtreeCount
  dsimp only
  have e : 10 + nI k = nI (10 + k) := nI_add 10 k
  rw [e]
  exact x_part (f := 10 + k) hc (by omega) h
theorem x_first {post : Int32 → Prop} {c k : Nat} (h : post (nI (8 * c + 4 * k))) : wpX_firstSubtree post (nI c) (nI k) := by
  unfold wpX_firstSubtree
  have e : (nI c * 2 + nI k) * 4 = nI (8 * c + 4 * k) := by
    have e1 : nI c * 2 + nI k = nI (2 * c + k) := x_ix
    have e2 : nI (2 * c + k) * 4 = nI ((2 * c + k) * 4) := pk_mul _ 4
    rw [e1, e2]
    exact congrArg nI (by omega)
  rw [e]
  exact h
end XS
end
section
section XN
variable {cap cnt anc up fl ls lf la lr el ml al ll : Int32} {pa mp su ex no : Nat → Int32}
/-! X: the name constraints -/
theorem x_inSomeL {post : Int32 → Prop} {x : Int32} {j kd K : Nat} (hj : j < 8) (hkd : kd < 2) (hK : K ≤ 4) (hc : pa (12 * j + (10 + kd)) = nI K)
    (h1 : cp_any pa su x j kd → post 1) (h0 : ¬ cp_any pa su x j kd → post 0) : ∀ d k, k + d = K → (∀ q, q < k → ¬ cp_lie x (su (8 * j + 4 * kd + q))) →
    wX_inSomeSubtree_18 post x (nI K) (nI (8 * j + 4 * kd)) cap cnt anc up fl ls lf la lr el ml al ll pa mp su ex no (d + 1) (nI k) := by
  intro d
  induction d with
  | zero =>
    intro k hk H
    obtain rfl : k = K := by omega
    refine br_t (nI_le (by omega) (by omega)) (h0 ?_)
    rintro ⟨q, q4, ql, hq⟩
    rw [hc, nI_ltI (by omega) (by omega)] at ql
    exact H q ql hq
  | succ d ih =>
    intro k hk H
    refine br_f (nI_ge (by omega) (by omega)) ?_
    have e : nI (8 * j + 4 * kd) + nI k = nI (8 * j + 4 * kd + k) := nI_add _ _
    rw [e, nI_clamp (by omega)]
    refine ⟨vp_in_nI (by omega) (by omega), x_liesIn (fun hl => br_f (by decide) (h1 ⟨k, by omega, ?_, hl⟩)) (fun hl => br_t rfl (nm_r (nI_1 k) (ih (k + 1) (by omega) ?_)))⟩
    · rw [hc]; exact nI_lt (by omega) (by omega)
    · intro q hq
      by_cases e : q = k
      · subst e; exact hl
      · exact H q (by omega)
theorem x_inSome {post : Int32 → Prop} {x : Int32} {j kd : Nat} (hj : j < 8) (hkd : kd < 2) (hK : cp_K pa)
    (h1 : cp_any pa su x j kd → post 1) (h0 : ¬ cp_any pa su x j kd → post 0) : wpX_inSomeSubtree post (cap, cnt, anc, up, fl, ls, lf, la, lr, el, ml, al, ll, pa, mp, su, ex, no) x (nI j) (nI kd) := by
  unfold wpX_inSomeSubtree
  obtain ⟨K, k4, hc⟩ := hK j kd hkd
  refine x_subCnt hj hkd (x_first ⟨K + 1, ?_⟩)
  rw [hc]
  exact x_inSomeL hj hkd k4 hc h1 h0 K 0 (by omega) (fun q hq => absurd hq (by omega))
def cp_bj (pa su : Nat → Int32) (x : Int32) (j : Nat) : Prop := (0 < pa (12 * j + 10) ∧ ¬ cp_any pa su x j 0) ∨ cp_any pa su x j 1
theorem x_badL {post : Int32 → Prop} {x : Int32} {i : Nat} (hi : i < 8) (hK : cp_K pa)
    (h1 : (∃ j, j < i ∧ cp_bj pa su x j) → post 1) (h0 : (∀ j, j < i → ¬ cp_bj pa su x j) → post 0) : ∀ d j, j + d = i → (∀ q, q < j → ¬ cp_bj pa su x q) →
    wX_breaksNameConstraints_9 post (nI i) x cap cnt anc up fl ls lf la lr el ml al ll pa mp su ex no (d + 1) (nI j) := by
  intro d
  induction d with
  | zero =>
    intro j hj H
    obtain rfl : j = i := by omega
    exact br_t (nI_le (by omega) (by omega)) (h0 H)
  | succ d ih =>
    intro j hj H
    have step : ((0 < pa (12 * j + 10) → cp_any pa su x j 0)) → wX_breaksNameConstraints_35 post (wX_breaksNameConstraints_9 post (nI i) x cap cnt anc up fl ls lf la lr el ml al ll pa mp su ex no (d + 1)) (nI i) x (nI j) cap cnt anc up fl ls lf la lr el ml al ll pa mp su ex no := by
      intro hp
      unfold wX_breaksNameConstraints_35
      refine x_inSome (kd := 1) (by omega) (by decide) hK (fun ha => br_f (by decide) (h1 ⟨j, by omega, Or.inr ha⟩)) (fun ha => br_t rfl (nm_r (nI_1 j) (ih (j + 1) (by omega) ?_)))
      intro q hq
      by_cases e : q = j
      · subst e
        rintro (⟨z1, z2⟩ | z)
        · exact z2 (hp z1)
        · exact ha z
      · exact H q (by omega)
    refine br_f (nI_ge (by omega) (by omega)) (x_subCnt (k := 0) (by omega) (by decide) (br_c (fun hz => step (fun hp => absurd hz (Int32.not_le.mpr hp))) (fun hz => ?_)))
    exact x_inSome (kd := 0) (by omega) (by decide) hK (fun ha => br_f (by decide) (step (fun _ => ha))) (fun ha => br_t rfl (h1 ⟨j, by omega, Or.inl ⟨Int32.not_le.mp hz, ha⟩⟩))
theorem x_bad {post : Int32 → Prop} {i : Nat} (hi : i < 8) (hK : cp_K pa)
    (h1 : cp_bad pa su i → post 1) (h0 : ¬ cp_bad pa su i → post 0) : wpX_breaksNameConstraints post (cap, cnt, anc, up, fl, ls, lf, la, lr, el, ml, al, ll, pa, mp, su, ex, no) (nI i) := by
  unfold wpX_breaksNameConstraints
  refine x_part (f := 1) hi (by decide) ⟨i + 1, ?_⟩
  exact x_badL (x := pa (12 * i + 1)) hi hK (fun h => h1 h) (fun h => h0 (fun ⟨j, hj, hb⟩ => h j hj hb)) i 0 (by omega) (fun q hq => absurd hq (by omega))
end XN
section YN
variable {cap cnt anc up fl ys yf yF yR : Int32} {pa mp su ss ns : Nat → Int32}
/-! Y: bits and names -/
theorem y_bit {post : Int32 → Prop} {x : Int32} {b : Nat} (hb : b < 32) (h1 : bt x b = true → post 1) (h0 : bt x b = false → post 0) : wpY_bit post (cap, cnt, anc, up, fl, ys, yf, yF, yR, (cp_a pa 0), (cp_a pa 1), (cp_a pa 2), (cp_a pa 3), (cp_a pa 4), (cp_a pa 5), (cp_a pa 6), (cp_a pa 7), (cp_a pa 8), (cp_a pa 9), (cp_a pa 10), (cp_a pa 11), mp, (cp_sp su 0), (cp_sp su 1), ss, ns) x (nI b) := by
  unfold wpY_bit
  exact br_c (fun h => h0 ((cq_by x hb).mp h)) (fun h => h1 (cq_nf.mp (mt (cq_by x hb).mpr h)))
theorem y_gk {x : Int32} {k : Nat} : (x >>> ((4 * nI k) &&& 31)) &&& 15 = cp_g x k := by
  have e : 4 * nI k = nI (4 * k) := pk_mul 4 k
  rw [e]
  rfl
theorem y_isNameL {post : Int32 → Prop} {x : Int32} (hr : 0 ≤ x ∧ x ≤ 65535) (h1 : cp_nm x → post 1) (h0 : ¬ cp_nm x → post 0) : ∀ d k f, k + d = 4 →
    (∀ j, j + 1 < k → ¬ cp_g x (j + 1) = 0 → ¬ cp_g x j = 0) → ((f = 0 ∧ ∀ j, j < k → ¬ cp_g x j = 0) ∨ (f = 1 ∧ ∃ m, k = m + 1 ∧ cp_g x m = 0)) →
    wY_isName_16 post x cap cnt anc up fl ys yf yF yR (cp_a pa 0) (cp_a pa 1) (cp_a pa 2) (cp_a pa 3) (cp_a pa 4) (cp_a pa 5) (cp_a pa 6) (cp_a pa 7) (cp_a pa 8) (cp_a pa 9) (cp_a pa 10) (cp_a pa 11) mp (cp_sp su 0) (cp_sp su 1) ss ns (d + 1) f (nI k) := by
  intro d
  induction d with
  | zero =>
    intro k f hk H F
    obtain rfl : k = 4 := by omega
    exact br_t (by decide) (h1 ⟨hr, fun j hj => H j (by omega)⟩)
  | succ d ih =>
    intro k f hk H F
    refine br_f (nI_ge (b := 4) (by omega) (by decide)) (nm_r y_gk (br_c (fun hz => nm_r (nI_1 k) (ih (k + 1) 1 (by omega) ?_ ?_)) (fun hz => br_c (fun hf => nm_r (nI_1 k) (ih (k + 1) f (by omega) ?_ ?_)) (fun hf => h0 ?_))))
    · intro j hj hg
      by_cases e : j + 1 = k
      · subst e; exact absurd hz hg
      · exact H j (by omega) hg
    · exact Or.inr ⟨rfl, k, rfl, hz⟩
    · intro j hj hg
      rcases F with ⟨_, F⟩ | ⟨F, _⟩
      · exact F j (by omega)
      · rw [hf] at F; exact absurd F (by decide)
    · rcases F with ⟨_, F⟩ | ⟨F, _⟩
      · refine Or.inl ⟨hf, fun j hj => ?_⟩
        by_cases e : j = k
        · subst e; exact hz
        · exact F j (by omega)
      · rw [hf] at F; exact absurd F (by decide)
    · rcases F with ⟨F, _⟩ | ⟨_, m, rfl, hm⟩
      · exact absurd F hf
      · exact fun z => z.2 m (by omega) hz hm
theorem y_isName {post : Int32 → Prop} {x : Int32} (h1 : cp_nm x → post 1) (h0 : ¬ cp_nm x → post 0) : wpY_isName post (cap, cnt, anc, up, fl, ys, yf, yF, yR, (cp_a pa 0), (cp_a pa 1), (cp_a pa 2), (cp_a pa 3), (cp_a pa 4), (cp_a pa 5), (cp_a pa 6), (cp_a pa 7), (cp_a pa 8), (cp_a pa 9), (cp_a pa 10), (cp_a pa 11), mp, (cp_sp su 0), (cp_sp su 1), ss, ns) x := by
  unfold wpY_isName
  exact br_c (fun h => h0 (fun z => absurd z.1.1 (Int32.not_le.mpr h))) (fun h => br_c (fun h' => ⟨5, y_isNameL ⟨Int32.not_lt.mp h, h'⟩ h1 h0 4 0 0 rfl (fun j hj => absurd hj (by omega)) (Or.inl ⟨rfl, fun j hj => absurd hj (by omega)⟩)⟩) (fun h' => h0 (fun z => h' z.1.2)))
def cp_sm (x : Int32) : Nat → Nat
  | 0 => 0
  | k + 1 => cp_sm x k + cp_c x k
theorem cp_sml (x : Int32) : cp_sm x 4 = cp_l x := by
  show 0 + cp_c x 0 + cp_c x 1 + cp_c x 2 + cp_c x 3 = _
  unfold cp_l
  omega
theorem y_nameLenL {post : Int32 → Prop} {x : Int32} (h : post (nI (cp_l x))) : ∀ d k, k + d = 4 → wY_nameLen_4 post x cap cnt anc up fl ys yf yF yR (cp_a pa 0) (cp_a pa 1) (cp_a pa 2) (cp_a pa 3) (cp_a pa 4) (cp_a pa 5) (cp_a pa 6) (cp_a pa 7) (cp_a pa 8) (cp_a pa 9) (cp_a pa 10) (cp_a pa 11) mp (cp_sp su 0) (cp_sp su 1) ss ns (d + 1) (nI (cp_sm x k)) (nI k) := by
  intro d
  induction d with
  | zero =>
    intro k hk
    obtain rfl : k = 4 := by omega
    rw [cp_sml]
    exact br_t (by decide) h
  | succ d ih =>
    intro k hk
    refine br_f (nI_ge (b := 4) (by omega) (by decide)) ?_
    rw [y_gk]
    by_cases hz : cp_g x k = 0
    · refine br_t hz (nm_r (nI_1 k) ?_)
      have e : cp_sm x k = cp_sm x (k + 1) := by
        show _ = cp_sm x k + cp_c x k
        unfold cp_c
        rw [if_pos hz, Nat.add_zero]
      rw [e]
      exact ih (k + 1) (by omega)
    · refine br_f hz (nm_r (nI_1 _) (nm_r (nI_1 k) ?_))
      have e : cp_sm x k + 1 = cp_sm x (k + 1) := by
        show _ = cp_sm x k + cp_c x k
        unfold cp_c
        rw [if_neg hz]
      rw [e]
      exact ih (k + 1) (by omega)
theorem y_nameLen {post : Int32 → Prop} {x : Int32} (h : post (nI (cp_l x))) : wpY_nameLen post (cap, cnt, anc, up, fl, ys, yf, yF, yR, (cp_a pa 0), (cp_a pa 1), (cp_a pa 2), (cp_a pa 3), (cp_a pa 4), (cp_a pa 5), (cp_a pa 6), (cp_a pa 7), (cp_a pa 8), (cp_a pa 9), (cp_a pa 10), (cp_a pa 11), mp, (cp_sp su 0), (cp_sp su 1), ss, ns) x := ⟨5, y_nameLenL h 4 0 rfl⟩
theorem y_liesL {post : Int32 → Prop} {x s : Int32} {L : Nat} (hL : L ≤ 4) (h1 : (∀ k, k < L → cp_g x k = cp_g s k) → post 1) (h0 : ¬ (∀ k, k < L → cp_g x k = cp_g s k) → post 0) :
    ∀ d k, k + d = L → (∀ j, j < k → cp_g x j = cp_g s j) → wY_lies_20 post x s (nI L) cap cnt anc up fl ys yf yF yR (cp_a pa 0) (cp_a pa 1) (cp_a pa 2) (cp_a pa 3) (cp_a pa 4) (cp_a pa 5) (cp_a pa 6) (cp_a pa 7) (cp_a pa 8) (cp_a pa 9) (cp_a pa 10) (cp_a pa 11) mp (cp_sp su 0) (cp_sp su 1) ss ns (d + 1) (nI k) := by
  intro d
  induction d with
  | zero =>
    intro k hk H
    obtain rfl : k = L := by omega
    exact br_t (nI_le (by omega) (by omega)) (h1 H)
  | succ d ih =>
    intro k hk H
    refine br_f (nI_ge (by omega) (by omega)) ?_
    rw [y_gk, y_gk]
    refine br_c (fun he => nm_r (nI_1 k) (ih (k + 1) (by omega) ?_)) (fun he => h0 (fun z => he (z k (by omega))))
    intro j hj
    by_cases e : j = k
    · subst e; exact he
    · exact H j (by omega)
theorem y_lies {post : Int32 → Prop} {x s : Int32} (hx : cp_nm x) (hs : cp_nm s) (h1 : cp_lie x s → post 1) (h0 : ¬ cp_lie x s → post 0) : wpY_lies post (cap, cnt, anc, up, fl, ys, yf, yF, yR, (cp_a pa 0), (cp_a pa 1), (cp_a pa 2), (cp_a pa 3), (cp_a pa 4), (cp_a pa 5), (cp_a pa 6), (cp_a pa 7), (cp_a pa 8), (cp_a pa 9), (cp_a pa 10), (cp_a pa 11), mp, (cp_sp su 0), (cp_sp su 1), ss, ns) x s := by
  unfold wpY_lies
  have l1 := cp_l4 s
  have l2 := cp_l4 x
  refine y_nameLen (y_nameLen (pk_le (cp_l s) (cp_l x) (fun h => ⟨cp_l s + 1, ?_⟩) (fun h => h0 (fun z => absurd ((cp_lieY hx hs).mp z).1 (by omega)))))
  exact y_liesL l1 (fun z => h1 ((cp_lieY hx hs).mpr ⟨h, z⟩)) (fun z => h0 (fun w => z ((cp_lieY hx hs).mp w).2)) (cp_l s) 0 (by omega) (fun j hj => absurd hj (by omega))
theorem y_inAnyL {post : Int32 → Prop} {x : Int32} {j kd K : Nat} (hx : cp_nm x) (hsu : ∀ j, cp_nm (su j)) (hj : j < 8) (hkd : kd < 2) (hK : K ≤ 4) (hc : pa (12 * j + (10 + kd)) = nI K)
    (h1 : cp_any pa su x j kd → post 1) (h0 : ¬ cp_any pa su x j kd → post 0) : ∀ d k, k + d = K → (∀ q, q < k → ¬ cp_lie x (su (8 * j + 4 * kd + q))) →
    wY_inAny_24 post (nI kd) (nI j) x (nI K) cap cnt anc up fl ys yf yF yR (cp_a pa 0) (cp_a pa 1) (cp_a pa 2) (cp_a pa 3) (cp_a pa 4) (cp_a pa 5) (cp_a pa 6) (cp_a pa 7) (cp_a pa 8) (cp_a pa 9) (cp_a pa 10) (cp_a pa 11) mp (cp_sp su 0) (cp_sp su 1) ss ns (d + 1) (nI k) := by
  intro d
  induction d with
  | zero =>
    intro k hk H
    obtain rfl : k = K := by omega
    refine br_t (nI_le (by omega) (by omega)) (h0 ?_)
    rintro ⟨q, q4, ql, hq⟩
    rw [hc, nI_ltI (by omega) (by omega)] at ql
    exact H q ql hq
  | succ d ih =>
    intro k hk H
    have step : wY_inAny_66 post (wY_inAny_24 post (nI kd) (nI j) x (nI K) cap cnt anc up fl ys yf yF yR (cp_a pa 0) (cp_a pa 1) (cp_a pa 2) (cp_a pa 3) (cp_a pa 4) (cp_a pa 5) (cp_a pa 6) (cp_a pa 7) (cp_a pa 8) (cp_a pa 9) (cp_a pa 10) (cp_a pa 11) mp (cp_sp su 0) (cp_sp su 1) ss ns (d + 1)) (nI kd) (nI j) x (nI K) (nI k) (su (8 * j + 4 * kd + k)) cap cnt anc up fl ys yf yF yR (cp_a pa 0) (cp_a pa 1) (cp_a pa 2) (cp_a pa 3) (cp_a pa 4) (cp_a pa 5) (cp_a pa 6) (cp_a pa 7) (cp_a pa 8) (cp_a pa 9) (cp_a pa 10) (cp_a pa 11) mp (cp_sp su 0) (cp_sp su 1) ss ns := by
      unfold wY_inAny_66
      refine y_lies hx (hsu _) (fun hl => br_f (by decide) (h1 ⟨k, by omega, ?_, hl⟩)) (fun hl => br_t rfl (nm_r (nI_1 k) (ih (k + 1) (by omega) ?_)))
      · rw [hc]; exact nI_lt (by omega) (by omega)
      · intro q hq
        by_cases e : q = k
        · subst e; exact hl
        · exact H q (by omega)
    refine br_f (nI_ge (by omega) (by omega)) (br_f (nI_ge (b := 4) (by omega) (by decide)) ?_)
    have e : nI j * 4 + nI k = nI (4 * j + k) := x_ix
    rw [e, nI_clamp (by omega)]
    have hkd' : kd = 0 ∨ kd = 1 := by omega
    rcases hkd' with rfl | rfl
    · refine br_t rfl ⟨vp_in_nI (by omega) (by omega), ?_⟩
      rw [cp_spk (by omega)]
      exact step
    · refine br_f (by decide) ⟨vp_in_nI (by omega) (by omega), ?_⟩
      rw [cp_spk (by omega)]
      exact step
theorem y_inAny {post : Int32 → Prop} {x : Int32} {j kd : Nat} (hx : cp_nm x) (hsu : ∀ j, cp_nm (su j)) (hj : j < 8) (hkd : kd < 2) (hK : cp_K pa)
    (h1 : cp_any pa su x j kd → post 1) (h0 : ¬ cp_any pa su x j kd → post 0) : wpY_inAny post (cap, cnt, anc, up, fl, ys, yf, yF, yR, (cp_a pa 0), (cp_a pa 1), (cp_a pa 2), (cp_a pa 3), (cp_a pa 4), (cp_a pa 5), (cp_a pa 6), (cp_a pa 7), (cp_a pa 8), (cp_a pa 9), (cp_a pa 10), (cp_a pa 11), mp, (cp_sp su 0), (cp_sp su 1), ss, ns) (nI kd) (nI j) x := by
  unfold wpY_inAny
  dsimp only
  obtain ⟨K, k4, hc⟩ := hK j kd hkd
  have hkd' : kd = 0 ∨ kd = 1 := by omega
  have hl := y_inAnyL (cap := cap) (cnt := cnt) (anc := anc) (up := up) (fl := fl) (ys := ys) (yf := yf) (yF := yF) (yR := yR) (mp := mp) (ss := ss) (ns := ns) hx hsu hj hkd k4 hc h1 h0 K 0 (by omega) (fun q hq => absurd hq (by omega))
  rw [nI_clamp (by omega)]
  rcases hkd' with rfl | rfl
  · exact br_t rfl ⟨vp_in_nI (by omega) (by omega), nm_r hc ⟨K + 1, hl⟩⟩
  · exact br_f (by decide) ⟨vp_in_nI (by omega) (by omega), nm_r hc ⟨K + 1, hl⟩⟩
theorem y_okL {post : Int32 → Prop} {i : Nat} (hi : i < 8) (hnm : ∀ c, cp_nm (pa (12 * c + 1))) (hsu : ∀ j, cp_nm (su j)) (hK : cp_K pa)
    (h0 : (∃ j, j < i ∧ cp_bj pa su (pa (12 * i + 1)) j) → post 0) (h1 : (∀ j, j < i → ¬ cp_bj pa su (pa (12 * i + 1)) j) → post 1) : ∀ d j, j + d = i → (∀ q, q < j → ¬ cp_bj pa su (pa (12 * i + 1)) q) →
    wY_nameOk_2 post (nI i) cap cnt anc up fl ys yf yF yR (cp_a pa 0) (cp_a pa 1) (cp_a pa 2) (cp_a pa 3) (cp_a pa 4) (cp_a pa 5) (cp_a pa 6) (cp_a pa 7) (cp_a pa 8) (cp_a pa 9) (cp_a pa 10) (cp_a pa 11) mp (cp_sp su 0) (cp_sp su 1) ss ns (d + 1) (nI j) := by
  intro d
  induction d with
  | zero =>
    intro j hj H
    obtain rfl : j = i := by omega
    exact br_t (nI_le (by omega) (by omega)) (h1 H)
  | succ d ih =>
    intro j hj H
    have hci : (nI i).toNatClampNeg = i := nI_clamp (by omega)
    have hcj : (nI j).toNatClampNeg = j := nI_clamp (by omega)
    have step : ((0 < pa (12 * j + 10) → cp_any pa su (pa (12 * i + 1)) j 0)) → wY_nameOk_33 post (wY_nameOk_2 post (nI i) cap cnt anc up fl ys yf yF yR (cp_a pa 0) (cp_a pa 1) (cp_a pa 2) (cp_a pa 3) (cp_a pa 4) (cp_a pa 5) (cp_a pa 6) (cp_a pa 7) (cp_a pa 8) (cp_a pa 9) (cp_a pa 10) (cp_a pa 11) mp (cp_sp su 0) (cp_sp su 1) ss ns (d + 1)) (nI i) (nI j) cap cnt anc up fl ys yf yF yR (cp_a pa 0) (cp_a pa 1) (cp_a pa 2) (cp_a pa 3) (cp_a pa 4) (cp_a pa 5) (cp_a pa 6) (cp_a pa 7) (cp_a pa 8) (cp_a pa 9) (cp_a pa 10) (cp_a pa 11) mp (cp_sp su 0) (cp_sp su 1) ss ns := by
      intro hp
      unfold wY_nameOk_33
      rw [hci]
      refine ⟨vp_in_nI (by omega) (by omega), y_inAny (kd := 1) (hnm i) hsu (by omega) (by decide) hK (fun ha => br_f (by decide) (h0 ⟨j, by omega, Or.inr ha⟩)) (fun ha => br_t rfl (nm_r (nI_1 j) (ih (j + 1) (by omega) ?_)))⟩
      intro q hq
      by_cases e : q = j
      · subst e
        rintro (⟨z1, z2⟩ | z)
        · exact z2 (hp z1)
        · exact ha z
      · exact H q (by omega)
    refine br_f (nI_ge (by omega) (by omega)) ⟨vp_in_nI (by omega) (by omega), ?_⟩
    rw [hci, hcj]
    refine br_c (fun hz => step (fun hp => absurd hz (Int32.not_le.mpr hp))) (fun hz => ⟨vp_in_nI (by omega) (by omega), ?_⟩)
    exact y_inAny (kd := 0) (hnm i) hsu (by omega) (by decide) hK (fun ha => br_f (by decide) (step (fun _ => ha))) (fun ha => br_t rfl (h0 ⟨j, by omega, Or.inl ⟨Int32.not_le.mp hz, ha⟩⟩))
theorem y_ok {post : Int32 → Prop} {i : Nat} (hi : i < 8) (hnm : ∀ c, cp_nm (pa (12 * c + 1))) (hsu : ∀ j, cp_nm (su j)) (hK : cp_K pa)
    (h0 : cp_bad pa su i → post 0) (h1 : ¬ cp_bad pa su i → post 1) : wpY_nameOk post (cap, cnt, anc, up, fl, ys, yf, yF, yR, (cp_a pa 0), (cp_a pa 1), (cp_a pa 2), (cp_a pa 3), (cp_a pa 4), (cp_a pa 5), (cp_a pa 6), (cp_a pa 7), (cp_a pa 8), (cp_a pa 9), (cp_a pa 10), (cp_a pa 11), mp, (cp_sp su 0), (cp_sp su 1), ss, ns) (nI i) := by
  unfold wpY_nameOk
  exact ⟨i + 1, y_okL hi hnm hsu hK (fun h => h0 h) (fun h => h1 (fun ⟨j, hj, hb⟩ => h j hj hb)) i 0 (by omega) (fun q hq => absurd hq (by omega))⟩
end YN
end
section
section XP
variable {cap cnt anc up fl ls lf la lr el ml al ll : Int32} {pa mp su ex no : Nat → Int32}
/-! X: the policy sets and the counters -/
def cp_c0 (fl b : Int32) (n : Nat) : Int32 := if fl &&& b = 0 then nI n + 1 else 0
theorem x_firstC {post : Int32 → Prop} {n : Nat} {b : Int32} (h : post (cp_c0 fl b n)) : wpX_firstCounter post (cap, (nI n), anc, up, fl, ls, lf, la, lr, el, ml, al, ll, pa, mp, su, ex, no) b := by
  unfold wpX_firstCounter
  unfold cp_c0 at h
  by_cases hb : fl &&& b = 0
  · rw [if_pos hb] at h; exact br_t hb h
  · rw [if_neg hb] at h; exact br_f hb h
theorem x_startL {post : SX → Prop} (h : ∀ ex', cx_R ex' cp_S0 → post (cap, cnt, anc, up, fl, ls, lf, la, lr, el, ml, al, ll, pa, mp, su, ex', no)) : ∀ (d k : Nat) (ex : Nat → Int32), k + d = 16 → (∀ j, j < k → ex j = 0) → wX_startWalk_37 post cap cnt anc up fl ls lf la lr el ml al ll (d + 1) (nI k) pa mp su ex no := by
  intro d
  induction d with
  | zero =>
    intro k ex hk H
    obtain rfl : k = 16 := by omega
    refine br_t (by decide) (nm_e (h _ (cx_R0 pk_us fun d hd h0 => ?_)))
    rw [pk_un h0]
    exact H d hd
  | succ d ih =>
    intro k ex hk H
    refine br_f (nI_ge (b := 16) (by omega) (by decide)) ⟨vp_in_nI (by omega) (by omega), nm_r (by rw [nI_clamp (by omega)]) (nm_r (nI_1 k) (ih (k + 1) (upd ex k 0) (by omega) fun j hj => ?_))⟩
    by_cases e : j = k
    · subst e; exact pk_us
    · rw [pk_un e]; exact H j (by omega)
theorem x_start {post : SX → Prop} {n : Nat} (h : ∀ ex', cx_R ex' cp_S0 → post (cap, (nI n), anc, up, fl, ls, lf, la, lr, (cp_c0 fl 1 n), (cp_c0 fl 2 n), (cp_c0 fl 4 n), (nI n), pa, mp, su, ex', no)) : wpX_startWalk post (cap, (nI n), anc, up, fl, ls, lf, la, lr, el, ml, al, ll, pa, mp, su, ex, no) := by
  unfold wpX_startWalk
  refine x_firstC (x_firstC (x_firstC ⟨17, ?_⟩))
  exact x_startL h 16 0 ex rfl (fun j hj => absurd hj (by omega))
theorem x_authL {post : Int32 → Prop} (h : ∀ m, cx_m no 16 m → post m) : ∀ (d k : Nat) (m : Int32), k + d = 16 → cx_m no k m → wX_authorityMask_4 post cap cnt anc up fl ls lf la lr el ml al ll pa mp su ex no (d + 1) m (nI k) := by
  intro d
  induction d with
  | zero =>
    intro k m hk H
    obtain rfl : k = 16 := by omega
    exact br_t (by decide) (h m H)
  | succ d ih =>
    intro k m hk H
    refine br_f (nI_ge (b := 16) (by omega) (by decide)) ⟨vp_in_nI (by omega) (by omega), ?_⟩
    rw [nI_clamp (by omega)]
    exact br_c (fun hz => nm_r (nI_1 k) (ih (k + 1) m (by omega) (cx_mz H hz))) (fun hz => nm_e (nm_r (nI_1 k) (ih (k + 1) _ (by omega) (cx_ms (by omega) H hz))))
theorem x_auth {post : Int32 → Prop} {N : Nat → Nat → Prop} (hN : cx_R no N) (h : ∀ R, cp_R N R → post R) : wpX_authorityMask post (cap, cnt, anc, up, fl, ls, lf, la, lr, el, ml, al, ll, pa, mp, su, ex, no) :=
  ⟨17, x_authL (fun m hm => h m (cx_mR hm hN)) 16 0 0 rfl cx_m0⟩
/-- the pair (0, 0): the loop over the policies -/
theorem x_openL {post : SX → Prop} {i : Nat} (hi : i < 8) {z C om : Int32} {no0 : Nat → Int32} {Q : Nat → Prop} (hQ : ∀ k, Q k ↔ (bt C k = true ∨ (¬ om = 0 ∧ ¬ mp (16 * i + k) = 0)))
    (h : ∀ no', cx_u no0 no' (fun d => (d ≠ 0 ∧ Q d) ∨ (d = 0 ∧ ¬ z = 0)) → post (cap, cnt, anc, up, fl, ls, lf, la, lr, el, ml, al, ll, pa, mp, su, ex, no')) : ∀ (d k : Nat) (no : Nat → Int32), k + d = 16 → 1 ≤ k →
    (∀ d, d < 16 → ∀ v, v < 32 → (bt (no d) v = true ↔ bt (no0 d) v = true ∨ (v = d ∧ d < k ∧ d ≠ 0 ∧ Q d))) → wX_openAnyPolicy_37 post (nI i) z C om cap cnt anc up fl ls lf la lr el ml al ll (d + 1) (nI k) pa mp su ex no := by
  intro d
  induction d with
  | zero =>
    intro k no hk k1 H
    obtain rfl : k = 16 := by omega
    refine br_t (by decide) (br_c (fun hz => h no ?_) (fun hz => nm_e (h _ ?_)))
    · intro d hd v hv
      rw [H d hd v hv]
      constructor
      · rintro (a | ⟨a, b, c, e⟩)
        · exact Or.inl a
        · exact Or.inr ⟨a, Or.inl ⟨c, e⟩⟩
      · rintro (a | ⟨a, ⟨c, e⟩ | ⟨c, e⟩⟩)
        · exact Or.inl a
        · exact Or.inr ⟨a, hd, c, e⟩
        · exact absurd hz e
    · intro d hd v hv
      by_cases e0 : d = 0
      · subst e0
        rw [pk_us, cx_or0 hv, H 0 hd v hv]
        constructor
        · rintro ((a | ⟨_, _, c, _⟩) | a)
          · exact Or.inl a
          · exact absurd rfl c
          · exact Or.inr ⟨a, Or.inr ⟨rfl, hz⟩⟩
        · rintro (a | ⟨a, _⟩)
          · exact Or.inl (Or.inl a)
          · exact Or.inr a
      · rw [pk_un e0, H d hd v hv]
        constructor
        · rintro (a | ⟨a, b, c, e⟩)
          · exact Or.inl a
          · exact Or.inr ⟨a, Or.inl ⟨c, e⟩⟩
        · rintro (a | ⟨a, ⟨c, e⟩ | ⟨c, e⟩⟩)
          · exact Or.inl a
          · exact Or.inr ⟨a, hd, c, e⟩
          · exact absurd c e0
  | succ d ih =>
    intro k no hk k1 H
    have nxt : ¬ Q k → wX_openAnyPolicy_37 post (nI i) z C om cap cnt anc up fl ls lf la lr el ml al ll (d + 1) (nI (k + 1)) pa mp su ex no := by
      intro hq
      refine ih (k + 1) no (by omega) (by omega) fun d hd v hv => ?_
      rw [H d hd v hv]
      constructor
      · rintro (a | ⟨a, b, c, e⟩)
        · exact Or.inl a
        · exact Or.inr ⟨a, by omega, c, e⟩
      · rintro (a | ⟨a, b, c, e⟩)
        · exact Or.inl a
        · by_cases ek : d = k
          · subst ek; exact absurd e hq
          · exact Or.inr ⟨a, by omega, c, e⟩
    have hit : Q k → wX_openAnyPolicy_80 post (wX_openAnyPolicy_37 post (nI i) z C om cap cnt anc up fl ls lf la lr el ml al ll (d + 1)) (nI i) z C om (nI k) cap cnt anc up fl ls lf la lr el ml al ll pa mp su ex no := by
      intro hq
      refine ⟨vp_in_nI (by omega) (by omega), vp_in_nI (by omega) (by omega), nm_r (by rw [nI_clamp (by omega)]) (nm_r (nI_1 k) (ih (k + 1) (upd no k (no k ||| ((1 : Int32) <<< (nI k &&& 31)))) (by omega) (by omega) fun d hd v hv => ?_))⟩
      by_cases ek : d = k
      · subst ek
        rw [pk_us, cx_or1 (by omega) hv, H d hd v hv]
        constructor
        · rintro ((a | ⟨a, b, c, e⟩) | a)
          · exact Or.inl a
          · omega
          · exact Or.inr ⟨a, by omega, by omega, hq⟩
        · rintro (a | ⟨a, b, c, e⟩)
          · exact Or.inl (Or.inl a)
          · exact Or.inr a
      · rw [pk_un ek, H d hd v hv]
        constructor
        · rintro (a | ⟨a, b, c, e⟩)
          · exact Or.inl a
          · exact Or.inr ⟨a, by omega, c, e⟩
        · rintro (a | ⟨a, b, c, e⟩)
          · exact Or.inl a
          · exact Or.inr ⟨a, by omega, c, e⟩
    refine br_f (nI_ge (b := 16) (by omega) (by decide)) (br_c (fun hb => ?_) (fun hb => ?_))
    · have hb' := (cq_bx C (by omega)).mp hb
      unfold wX_openAnyPolicy_58
      refine br_t rfl (br_c (fun ho => nm_r (nI_1 k) (nxt ?_)) (fun ho => x_targets hi (by omega) (br_c (fun ht => nm_r (nI_1 k) (nxt ?_)) (fun ht => hit ((hQ k).mpr (Or.inr ⟨ho, ht⟩))))))
      · rw [hQ, hb']
        rintro (a | a)
        · exact absurd a (by decide)
        · exact a.1 ho
      · rw [hQ, hb']
        rintro (a | a)
        · exact absurd a (by decide)
        · exact a.2 ht
    · have hb' := cq_nf.mp (mt (cq_bx C (by omega)).mpr hb)
      unfold wX_openAnyPolicy_58
      exact br_f (by decide) (hit ((hQ k).mpr (Or.inl hb')))
theorem x_open {post : SX → Prop} {i n : Nat} (hi : i < n) (hn : n ≤ 8) {z : Int32} {an : Prop} (hz : z = 0 ↔ ¬ an)
    (h : ∀ no', cx_u no no' (fun d => (d ≠ 0 ∧ (bt (pa (12 * i + 6)) d = true ∨ (an ∧ cp_op n ml i ∧ ¬ mp (16 * i + d) = 0))) ∨ (d = 0 ∧ an)) → post (cap, (nI n), anc, up, fl, ls, lf, la, lr, el, ml, al, ll, pa, mp, su, ex, no')) : wpX_openAnyPolicy post (cap, (nI n), anc, up, fl, ls, lf, la, lr, el, ml, al, ll, pa, mp, su, ex, no) (nI i) z := by
  unfold wpX_openAnyPolicy
  have key : ∀ om : Int32, (om = 0 ↔ ¬ (an ∧ cp_op n ml i)) → ∃ n37 : Nat, wX_openAnyPolicy_37 post (nI i) z (pa (12 * i + 6)) om cap (nI n) anc up fl ls lf la lr el ml al ll n37 1 pa mp su ex no := by
    intro om hom
    refine ⟨16, x_openL (by omega) (Q := fun k => bt (pa (12 * i + 6)) k = true ∨ (¬ om = 0 ∧ ¬ mp (16 * i + k) = 0)) (no0 := no) (fun k => Iff.rfl) (fun no' hu => h no' ?_) 15 1 no rfl (by omega) ?_⟩
    · intro d hd v hv
      rw [hu d hd v hv, hz, hom]
      dsimp only
      rw [Classical.not_not, Classical.not_not, and_assoc]
    · intro d hd v hv
      constructor
      · exact Or.inl
      · rintro (a | ⟨a, b, c, e⟩)
        · exact a
        · omega
  refine x_part (f := 6) (by omega) (by decide) (br_c (fun h0 => key 0 ⟨fun _ a => hz.mp h0 a.1, fun _ => rfl⟩) (fun h0 => x_leaf hi hn (fun hl => br_f (by decide) (key 0 ⟨fun _ a => a.2.1 hl, fun _ => rfl⟩)) (fun hl => br_t rfl (br_c (fun hm => key 0 ⟨fun _ a => absurd a.2.2 (Int32.not_lt.mpr hm), fun _ => rfl⟩) (fun hm => key 1 ⟨fun a => absurd a (by decide), fun a => absurd ⟨Classical.byContradiction fun b => h0 (hz.mpr b), hl, Int32.not_le.mp hm⟩ a⟩)))))
theorem x_fillL {post : SX → Prop} {i n : Nat} (hi : i < n) (hn : n ≤ 8) {z kept : Int32} {an : Prop} (hz : z = 0 ↔ ¬ an) (hk : cx_k an (pa (12 * i + 6)) kept) {S : Nat → Nat → Prop} (hS : cx_R ex S)
    (h : ∀ no', cx_R no' (cp_N S (pa (12 * i + 6)) an (cp_op n ml i) (fun v => mp (16 * i + v))) → post (cap, (nI n), anc, up, fl, ls, lf, la, lr, el, ml, al, ll, pa, mp, su, ex, no')) : ∀ (d k : Nat) (no : Nat → Int32), k + d = 16 →
    (∀ j, j < k → no j = (ex j &&& kept) &&& (-2)) → wX_fillNodes_23 post (nI i) z kept cap (nI n) anc up fl ls lf la lr el ml al ll (d + 1) (nI k) pa mp su ex no := by
  intro d
  induction d with
  | zero =>
    intro k no hk' H
    obtain rfl : k = 16 := by omega
    refine br_t (by decide) (br_c (fun h0 => h no (cx_N hS hk H ?_)) (fun h0 => x_open hi hn hz (fun no' hu => h no' (cx_N hS hk H ?_))))
    · have s0 : ¬ S 0 0 := by
        intro hs
        have := (hS 0 (by omega) 0 (by omega)).mpr ⟨by omega, hs⟩
        rw [(cq_b0 _).mp h0] at this
        exact absurd this (by decide)
      intro d hd v hv
      constructor
      · exact Or.inl
      · rintro (a | ⟨_, a, _⟩)
        · exact a
        · exact absurd a s0
    · have s0 : S 0 0 := ((hS 0 (by omega) 0 (by omega)).mp (cq_nf.mp (mt (cq_b0 _).mpr h0))).2
      intro d hd v hv
      rw [hu d hd v hv]
      constructor
      · rintro (a | ⟨a, b⟩)
        · exact Or.inl a
        · exact Or.inr ⟨a, s0, b⟩
      · rintro (a | ⟨a, _, b⟩)
        · exact Or.inl a
        · exact Or.inr ⟨a, b⟩
  | succ d ih =>
    intro k no hk' H
    refine br_f (nI_ge (b := 16) (by omega) (by decide)) ⟨vp_in_nI (by omega) (by omega), vp_in_nI (by omega) (by omega), nm_r (by rw [nI_clamp (by omega)]) (nm_r (nI_1 k) (ih (k + 1) (upd no k ((ex k &&& kept) &&& (-2))) (by omega) fun j hj => ?_))⟩
    by_cases e : j = k
    · subst e; exact pk_us
    · rw [pk_un e]; exact H j (by omega)
theorem x_fill {post : SX → Prop} {i n : Nat} (hi : i < n) (hn : n ≤ 8) {z : Int32} {an : Prop} (hz : z = 0 ↔ ¬ an) {S : Nat → Nat → Prop} (hS : cx_R ex S)
    (h : ∀ no', cx_R no' (cp_N S (pa (12 * i + 6)) an (cp_op n ml i) (fun v => mp (16 * i + v))) → post (cap, (nI n), anc, up, fl, ls, lf, la, lr, el, ml, al, ll, pa, mp, su, ex, no')) : wpX_fillNodes post (cap, (nI n), anc, up, fl, ls, lf, la, lr, el, ml, al, ll, pa, mp, su, ex, no) (nI i) z := by
  unfold wpX_fillNodes
  exact x_part (f := 6) (by omega) (by decide) (br_c (fun h0 => ⟨17, x_fillL hi hn hz (Or.inr ⟨hz.mp h0, rfl⟩) hS h 16 0 no rfl (fun j hj => absurd hj (by omega))⟩)
    (fun h0 => ⟨17, x_fillL hi hn hz (Or.inl ⟨Classical.byContradiction fun b => h0 (hz.mpr b), rfl⟩) hS h 16 0 no rfl (fun j hj => absurd hj (by omega))⟩))
theorem x_mappedL {post : Int32 → Prop} {i : Nat} (hi : i < 8) {held : Int32} (h : ∀ r, cx_t ml (fun v => mp (16 * i + v)) held 16 r → post r) : ∀ (d k : Nat) (r : Int32), k + d = 16 → 1 ≤ k →
    cx_t ml (fun v => mp (16 * i + v)) held k r → wX_mapped_7 post (nI i) held cap cnt anc up fl ls lf la lr el ml al ll pa mp su ex no (d + 1) r (nI k) := by
  intro d
  induction d with
  | zero =>
    intro k r hk k1 H
    obtain rfl : k = 16 := by omega
    exact br_t (by decide) (h r H)
  | succ d ih =>
    intro k r hk k1 H
    refine br_f (nI_ge (b := 16) (by omega) (by decide)) (br_c (fun hb => nm_r (nI_1 k) (ih (k + 1) r (by omega) (by omega) (cx_tn H fun a => ?_))) (fun hb => ?_))
    · rw [(cq_bx held (by omega)).mp hb] at a
      exact absurd a (by decide)
    · have hb' := cq_nf.mp (mt (cq_bx held (by omega)).mpr hb)
      refine x_targets hi (by omega) (br_c (fun ht => nm_e (nm_r (nI_1 k) (ih (k + 1) _ (by omega) (by omega) (cx_tv (by omega) (by omega) H hb' ht)))) (fun ht => br_c (fun hm => nm_r (nI_1 k) (ih (k + 1) r (by omega) (by omega) (cx_tn H fun _ => ⟨ht, Int32.not_lt.mpr hm⟩))) (fun hm => nm_e (nm_r (nI_1 k) (ih (k + 1) _ (by omega) (by omega) ?_)))))
      exact cx_tt (T := fun v => mp (16 * i + v)) (by omega) H hb' ht (Int32.not_le.mp hm)
theorem x_mapped {post : Int32 → Prop} {i : Nat} (hi : i < 8) {held : Int32} (h : ∀ r, cx_t ml (fun v => mp (16 * i + v)) held 16 r → post r) : wpX_mapped post (cap, cnt, anc, up, fl, ls, lf, la, lr, el, ml, al, ll, pa, mp, su, ex, no) (nI i) held := by
  unfold wpX_mapped
  exact nm_e ⟨16, x_mappedL hi h 15 1 _ rfl (by omega) cx_t1⟩
theorem x_next22 {post : Int32 → Prop} {i f : Nat} (hi : i < 8) (hf : f < 12) {y : Int32} (h : post (if 0 ≤ pa (12 * i + f) ∧ pa (12 * i + f) < y then pa (12 * i + f) else y)) : wX_nextCounter_22 post (nI i) (nI f) y cap cnt anc up fl ls lf la lr el ml al ll pa mp su ex no := by
  unfold wX_nextCounter_22
  refine x_part hi hf (br_c (fun a => ?_) (fun a => br_c (fun b => ?_) (fun b => ?_)))
  · rw [if_neg (fun c => absurd c.1 (Int32.not_le.mpr a))] at h; exact h
  · rw [if_neg (fun c => absurd c.2 (Int32.not_lt.mpr b))] at h; exact h
  · rw [if_pos ⟨Int32.not_lt.mp a, Int32.not_le.mp b⟩] at h; exact h
theorem x_next {post : Int32 → Prop} {i f : Nat} (hi : i < 8) (hf : f < 12) {c : Int32} (h : post (cp_nx (pa (12 * i)) (pa (12 * i + 1)) c (pa (12 * i + f)))) : wpX_nextCounter post (cap, cnt, anc, up, fl, ls, lf, la, lr, el, ml, al, ll, pa, mp, su, ex, no) c (nI i) (nI f) := by
  unfold wpX_nextCounter
  unfold cp_nx at h
  refine br_c (fun a => ?_) (fun a => x_self hi (fun b => br_f (by decide) ?_) (fun b => br_t rfl (nm_e ?_)))
  · have e : (if 0 < c ∧ ¬ pa (12 * i) = pa (12 * i + 1) then c - 1 else c) = c := if_neg (fun q => absurd q.1 (Int32.not_lt.mpr a))
    rw [e] at h
    exact x_next22 hi hf h
  · have e : (if 0 < c ∧ ¬ pa (12 * i) = pa (12 * i + 1) then c - 1 else c) = c := if_neg (fun q => q.2 b)
    rw [e] at h
    exact x_next22 hi hf h
  · have e : (if 0 < c ∧ ¬ pa (12 * i) = pa (12 * i + 1) then c - 1 else c) = c - 1 := if_pos ⟨Int32.not_le.mp a, b⟩
    rw [e] at h
    exact x_next22 hi hf h
theorem x_prepL {post : SX → Prop} {i : Nat} (hi : i < 8) {N : Nat → Nat → Prop} (hN : cx_R no N) (hT : ∀ j, cp_T (mp j))
    (h : ∀ ex', cx_R ex' (cp_S N ml (fun v => mp (16 * i + v))) → post (cap, cnt, anc, up, fl, ls, lf, la, lr, (cp_nx (pa (12 * i)) (pa (12 * i + 1)) el (pa (12 * i + 7))), (cp_nx (pa (12 * i)) (pa (12 * i + 1)) ml (pa (12 * i + 8))), (cp_nx (pa (12 * i)) (pa (12 * i + 1)) al (pa (12 * i + 9))), (cp_nx (pa (12 * i)) (pa (12 * i + 1)) ll (pa (12 * i + 5))), pa, mp, su, ex', no)) :
    ∀ (d k : Nat) (ex : Nat → Int32), k + d = 16 → (∀ j, j < k → cx_t ml (fun v => mp (16 * i + v)) (no j) 16 (ex j)) → wX_prepareNext_2 post (nI i) cap cnt anc up fl ls lf la lr el ml al ll (d + 1) (nI k) pa mp su ex no := by
  intro d
  induction d with
  | zero =>
    intro k ex hk H
    obtain rfl : k = 16 := by omega
    exact br_t (by decide) (x_next (f := 5) hi (by decide) (x_next (f := 7) hi (by decide) (x_next (f := 8) hi (by decide) (x_next (f := 9) hi (by decide) (h ex (cx_S (fun v => hT _) hN H))))))
  | succ d ih =>
    intro k ex hk H
    refine br_f (nI_ge (b := 16) (by omega) (by decide)) ⟨vp_in_nI (by omega) (by omega), x_mapped hi (fun r hr => ⟨vp_in_nI (by omega) (by omega), nm_r (by rw [nI_clamp (by omega)]) (nm_r (nI_1 k) (ih (k + 1) (upd ex k r) (by omega) fun j hj => ?_))⟩)⟩
    rw [nI_clamp (by omega)] at hr
    by_cases e : j = k
    · subst e; rw [pk_us]; exact hr
    · rw [pk_un e]; exact H j (by omega)
theorem x_prep {post : SX → Prop} {i : Nat} (hi : i < 8) {N : Nat → Nat → Prop} (hN : cx_R no N) (hT : ∀ j, cp_T (mp j))
    (h : ∀ ex', cx_R ex' (cp_S N ml (fun v => mp (16 * i + v))) → post (cap, cnt, anc, up, fl, ls, lf, la, lr, (cp_nx (pa (12 * i)) (pa (12 * i + 1)) el (pa (12 * i + 7))), (cp_nx (pa (12 * i)) (pa (12 * i + 1)) ml (pa (12 * i + 8))), (cp_nx (pa (12 * i)) (pa (12 * i + 1)) al (pa (12 * i + 9))), (cp_nx (pa (12 * i)) (pa (12 * i + 1)) ll (pa (12 * i + 5))), pa, mp, su, ex', no)) : wpX_prepareNext post (cap, cnt, anc, up, fl, ls, lf, la, lr, el, ml, al, ll, pa, mp, su, ex, no) (nI i) :=
  ⟨17, x_prepL hi hN hT h 16 0 ex rfl (fun j hj => absurd hj (by omega))⟩
theorem x_accept {post : Int32 → Prop} {R : Int32} (h : post (cp_F up R)) : wpX_acceptedOf post (cap, cnt, anc, up, fl, ls, lf, la, lr, el, ml, al, ll, pa, mp, su, ex, no) R := by
  unfold wpX_acceptedOf
  unfold cp_F at h
  refine br_c (fun a => br_c (fun b => ?_) (fun b => ?_)) (fun a => ?_)
  · rw [if_pos a, if_pos b] at h; exact h
  · rw [if_pos a, if_neg b] at h; exact h
  · rw [if_neg a] at h; exact h
theorem x_wrap30 {post : Int32 → SX → Prop} {n : Nat} {z : Int32} {Q : Prop} (hz : z = 0 ↔ ¬ Q) {N : Nat → Nat → Prop} (hN : cx_R no N)
    (h : ∀ R, cp_R N R → ((Q ∧ cp_F up R = 0 → post 5 (cap, cnt, anc, up, fl, 5, (nI (n - 1)), 0, 0, el, ml, al, ll, pa, mp, su, ex, no)) ∧ (¬ (Q ∧ cp_F up R = 0) → post 0 (cap, cnt, anc, up, fl, 0, (-1), (cp_F up R), R, el, ml, al, ll, pa, mp, su, ex, no)))) : wX_wrapUp_30 post (nI (n - 1)) z cap cnt anc up fl ls lf la lr el ml al ll pa mp su ex no := by
  unfold wX_wrapUp_30
  refine x_auth hN (fun R hR => x_accept (br_c (fun a => (h R hR).2 (fun c => hz.mp a c.1)) (fun a => br_c (fun b => (h R hR).1 ⟨Classical.byContradiction fun c => a (hz.mpr c), b⟩) (fun b => (h R hR).2 (fun c => b c.2)))))
theorem x_wrap {post : Int32 → SX → Prop} {n : Nat} (h1 : 1 ≤ n) (hn : n ≤ 8) {N : Nat → Nat → Prop} (hN : cx_R no N)
    (h : cp_W pa up n (fun s x F R => post s (cap, (nI n), anc, up, fl, s, x, F, R, el, ml, al, ll, pa, mp, su, ex, no)) el N) : wpX_wrapUp post (cap, (nI n), anc, up, fl, ls, lf, la, lr, el, ml, al, ll, pa, mp, su, ex, no) := by
  unfold wpX_wrapUp
  have e : nI n - 1 = nI (n - 1) := by
    obtain ⟨m, rfl⟩ : ∃ m, n = m + 1 := ⟨n - 1, by omega⟩
    exact nI_pred m
  refine nm_r e (br_c (fun a => ?_) (fun a => x_part (f := 7) (by omega) (by decide) (br_c (fun b => ?_) (fun b => ?_))))
  · exact x_wrap30 (Q := el ≤ 1 ∨ pa (12 * (n - 1) + 7) = 0) ⟨fun z => absurd z (by decide), fun z => absurd (Or.inl a) z⟩ hN h
  · exact x_wrap30 (Q := el ≤ 1 ∨ pa (12 * (n - 1) + 7) = 0) ⟨fun z => absurd z (by decide), fun z => absurd (Or.inr b) z⟩ hN h
  · exact x_wrap30 (Q := el ≤ 1 ∨ pa (12 * (n - 1) + 7) = 0) ⟨fun _ z => z.elim a b, fun _ => rfl⟩ hN h
end XP
end
section
section XW
variable {cap cnt anc up fl ls lf la lr el ml al ll : Int32} {pa mp su ex no : Nat → Int32}
/-! X: validate -/
theorem x_c121 {post : Int32 → SX → Prop} {i n : Nat} (hi : i < n) (hn : n ≤ 8) {z : Int32} (hz : z = 0 ↔ ¬ cp_an pa n al i) {S : Nat → Nat → Prop} (hS : cx_R ex S)
    (h : ∀ no', cx_R no' (cp_NN pa mp n i ml al S) → ((el = 0 ∧ cp_em (cp_NN pa mp n i ml al S) → post 5 (cap, (nI n), anc, up, fl, ls, lf, la, lr, el, ml, al, ll, pa, mp, su, ex, no')) ∧ (¬ (el = 0 ∧ cp_em (cp_NN pa mp n i ml al S)) → post 0 (cap, (nI n), anc, up, fl, ls, lf, la, lr, el, ml, al, ll, pa, mp, su, ex, no')))) :
    wX_checkCert_121 post (nI i) z cap (nI n) anc up fl ls lf la lr el ml al ll pa mp su ex no := by
  unfold wX_checkCert_121
  refine x_fill hi hn hz hS (fun no' hN => br_c (fun e0 => x_auth hN (fun R hR => br_c (fun r0 => (h no' hN).1 ⟨e0, (cp_R0 hR).mp r0⟩) (fun r0 => (h no' hN).2 (fun q => r0 ((cp_R0 hR).mpr q.2))))) (fun e0 => (h no' hN).2 (fun q => e0 q.1)))
theorem x_c92 {post : Int32 → SX → Prop} {i n : Nat} (hi : i < n) (hn : n ≤ 8) {z : Int32} (hz : z = 0 ↔ ¬ cp_ex pa n i) {S : Nat → Nat → Prop} (hS : cx_R ex S)
    (h : ∀ no', cx_R no' (cp_NN pa mp n i ml al S) → ((el = 0 ∧ cp_em (cp_NN pa mp n i ml al S) → post 5 (cap, (nI n), anc, up, fl, ls, lf, la, lr, el, ml, al, ll, pa, mp, su, ex, no')) ∧ (¬ (el = 0 ∧ cp_em (cp_NN pa mp n i ml al S)) → post 0 (cap, (nI n), anc, up, fl, ls, lf, la, lr, el, ml, al, ll, pa, mp, su, ex, no')))) :
    wX_checkCert_92 post (nI i) z cap (nI n) anc up fl ls lf la lr el ml al ll pa mp su ex no := by
  unfold wX_checkCert_92
  refine x_part (f := 6) (by omega) (by decide) (br_c (fun b0 => x_c121 hi hn ⟨fun _ q => ?_, fun _ => rfl⟩ hS h) (fun b0 => br_c (fun a0 => x_c121 hi hn ⟨fun q => absurd q (by decide), fun q => ?_⟩ hS h) (fun a0 => br_c (fun x0 => x_c121 hi hn ⟨fun _ q => ?_, fun _ => rfl⟩ hS h) (fun x0 => x_c121 hi hn ⟨fun q => absurd q (by decide), fun q => ?_⟩ hS h))))
  · have q1 := q.1
    rw [(cq_b0 _).mp b0] at q1
    exact absurd q1 (by decide)
  · exact absurd ⟨cq_nf.mp (mt (cq_b0 _).mpr b0), Or.inl a0⟩ q
  · exact q.2.elim a0 (hz.mp x0)
  · exact absurd ⟨cq_nf.mp (mt (cq_b0 _).mpr b0), Or.inr (Classical.byContradiction fun c => x0 (hz.mpr c))⟩ q
theorem x_c75 {post : Int32 → SX → Prop} {i n : Nat} (hi : i < n) (hn : n ≤ 8) (hK : cp_K pa) {z : Int32} (hz : z = 0 ↔ ¬ cp_ex pa n i) {S : Nat → Nat → Prop} (hS : cx_R ex S)
    (h : ((¬ cp_ex pa n i ∧ cp_bad pa su i) → post 4 (cap, (nI n), anc, up, fl, ls, lf, la, lr, el, ml, al, ll, pa, mp, su, ex, no)) ∧ (¬ (¬ cp_ex pa n i ∧ cp_bad pa su i) →
      ∀ no', cx_R no' (cp_NN pa mp n i ml al S) → ((el = 0 ∧ cp_em (cp_NN pa mp n i ml al S) → post 5 (cap, (nI n), anc, up, fl, ls, lf, la, lr, el, ml, al, ll, pa, mp, su, ex, no')) ∧ (¬ (el = 0 ∧ cp_em (cp_NN pa mp n i ml al S)) → post 0 (cap, (nI n), anc, up, fl, ls, lf, la, lr, el, ml, al, ll, pa, mp, su, ex, no'))))) :
    wX_checkCert_75 post (nI i) z cap (nI n) anc up fl ls lf la lr el ml al ll pa mp su ex no := by
  unfold wX_checkCert_75
  exact br_c (fun z0 => x_bad (by omega) hK (fun hb => br_f (by decide) (h.1 ⟨hz.mp z0, hb⟩)) (fun hb => br_t rfl (x_c92 hi hn hz hS (h.2 (fun q => hb q.2))))) (fun z0 => x_c92 hi hn hz hS (h.2 (fun q => z0 (hz.mpr q.1))))
theorem x_c41 {post : Int32 → SX → Prop} {i n : Nat} (hi : i < n) (hn : n ≤ 8) (hK : cp_K pa) {w : Int32} (hw : w = cp_want pa anc i) {S : Nat → Nat → Prop} (hS : cx_R ex S)
    (h : ((¬ pa (12 * i) = cp_want pa anc i) → post 3 (cap, (nI n), anc, up, fl, ls, lf, la, lr, el, ml, al, ll, pa, mp, su, ex, no)) ∧ (¬ (¬ pa (12 * i) = cp_want pa anc i) →
      ((¬ cp_ex pa n i ∧ cp_bad pa su i) → post 4 (cap, (nI n), anc, up, fl, ls, lf, la, lr, el, ml, al, ll, pa, mp, su, ex, no)) ∧ (¬ (¬ cp_ex pa n i ∧ cp_bad pa su i) →
      ∀ no', cx_R no' (cp_NN pa mp n i ml al S) → ((el = 0 ∧ cp_em (cp_NN pa mp n i ml al S) → post 5 (cap, (nI n), anc, up, fl, ls, lf, la, lr, el, ml, al, ll, pa, mp, su, ex, no')) ∧ (¬ (el = 0 ∧ cp_em (cp_NN pa mp n i ml al S)) → post 0 (cap, (nI n), anc, up, fl, ls, lf, la, lr, el, ml, al, ll, pa, mp, su, ex, no')))))) :
    wX_checkCert_41 post (nI i) w cap (nI n) anc up fl ls lf la lr el ml al ll pa mp su ex no := by
  unfold wX_checkCert_41
  subst hw
  refine x_part (f := 0) (by omega) (by decide) (br_c (fun e => ?_) (fun e => h.1 e))
  have h' := h.2 (fun q => q e)
  refine x_self (by omega) (fun s => br_f (by decide) (x_leaf hi hn (fun l => br_f (by decide) ?_) (fun l => br_t rfl ?_))) (fun s => br_t rfl ?_)
  · exact x_c75 hi hn hK ⟨fun _ q => q.2 l, fun _ => rfl⟩ hS h'
  · exact x_c75 hi hn hK ⟨fun q => absurd q (by decide), fun q => absurd ⟨s, l⟩ q⟩ hS h'
  · exact x_c75 hi hn hK ⟨fun _ q => s q.1, fun _ => rfl⟩ hS h'
theorem x_check {post : Int32 → SX → Prop} {i n : Nat} (hi : i < n) (hn : n ≤ 8) (hK : cp_K pa) {tm : Int32} {S : Nat → Nat → Prop} (hS : cx_R ex S)
    (h : ((tm < pa (12 * i + 2) ∨ pa (12 * i + 3) < tm) → post 2 (cap, (nI n), anc, up, fl, ls, lf, la, lr, el, ml, al, ll, pa, mp, su, ex, no)) ∧ (¬ (tm < pa (12 * i + 2) ∨ pa (12 * i + 3) < tm) →
      ((¬ pa (12 * i) = cp_want pa anc i) → post 3 (cap, (nI n), anc, up, fl, ls, lf, la, lr, el, ml, al, ll, pa, mp, su, ex, no)) ∧ (¬ (¬ pa (12 * i) = cp_want pa anc i) →
      ((¬ cp_ex pa n i ∧ cp_bad pa su i) → post 4 (cap, (nI n), anc, up, fl, ls, lf, la, lr, el, ml, al, ll, pa, mp, su, ex, no)) ∧ (¬ (¬ cp_ex pa n i ∧ cp_bad pa su i) →
      ∀ no', cx_R no' (cp_NN pa mp n i ml al S) → ((el = 0 ∧ cp_em (cp_NN pa mp n i ml al S) → post 5 (cap, (nI n), anc, up, fl, ls, lf, la, lr, el, ml, al, ll, pa, mp, su, ex, no')) ∧ (¬ (el = 0 ∧ cp_em (cp_NN pa mp n i ml al S)) → post 0 (cap, (nI n), anc, up, fl, ls, lf, la, lr, el, ml, al, ll, pa, mp, su, ex, no'))))))) :
    wpX_checkCert post (cap, (nI n), anc, up, fl, ls, lf, la, lr, el, ml, al, ll, pa, mp, su, ex, no) (nI i) tm := by
  unfold wpX_checkCert
  refine x_part (f := 2) (by omega) (by decide) (br_c (fun a => h.1 (Or.inl a)) (fun a => x_part (f := 3) (by omega) (by decide) (br_c (fun b => ?_) (fun b => h.1 (Or.inr (Int32.not_le.mp b))))))
  have h' := h.2 (fun q => q.elim a (Int32.not_lt.mpr b))
  refine pk_eq i 0 (fun e => ?_) (fun e => ?_)
  · exact x_c41 hi hn hK (by rw [e]; rfl) hS h'
  · obtain ⟨m, rfl⟩ : ∃ m, i = m + 1 := ⟨i - 1, by omega⟩
    rw [nI_pred]
    exact x_part (f := 1) (by omega) (by decide) (x_c41 hi hn hK rfl hS h')
theorem x_issuing {post : Int32 → Prop} {i : Nat} (hi : i < 8)
    (h : (pa (12 * i + 4) &&& 1 = 0 → post 6) ∧ (¬ pa (12 * i + 4) &&& 1 = 0 →
      ((¬ cp_self pa i ∧ ll = 0) → post 7) ∧ (¬ (¬ cp_self pa i ∧ ll = 0) →
      ((¬ pa (12 * i + 4) &&& 2 = 0 ∧ pa (12 * i + 4) &&& 4 = 0) → post 8) ∧ (¬ (¬ pa (12 * i + 4) &&& 2 = 0 ∧ pa (12 * i + 4) &&& 4 = 0) → post 0)))) : wpX_checkIssuing post (cap, cnt, anc, up, fl, ls, lf, la, lr, el, ml, al, ll, pa, mp, su, ex, no) (nI i) := by
  unfold wpX_checkIssuing
  have k : ¬ pa (12 * i + 4) &&& 1 = 0 → ¬ (¬ cp_self pa i ∧ ll = 0) → wX_checkIssuing_34 post (pa (12 * i + 4)) cap cnt anc up fl ls lf la lr el ml al ll pa mp su ex no := by
    intro a b
    have h' := (h.2 a).2 b
    exact br_c (fun c => h'.2 (fun q => q.1 c)) (fun c => br_c (fun d => h'.1 ⟨c, d⟩) (fun d => h'.2 (fun q => d q.2)))
  exact x_part (f := 4) hi (by decide) (br_c (fun a => h.1 a) (fun a => x_self hi (fun s => br_f (by decide) (k a (fun q => q.1 s))) (fun s => br_t rfl (br_c (fun m => (h.2 a).1 ⟨s, m⟩) (fun m => k a (fun q => m q.2))))))
/-- a fault found: kept -/
theorem x_v58f {post : Int32 → SX → Prop} {J : Int32 → Int32 → Int32 → Int32 → Int32 → Int32 → Int32 → Int32 → Int32 → Int32 → Int32 → Int32 → Int32 → Int32 → (Nat → Int32) → (Nat → Int32) → (Nat → Int32) → (Nat → Int32) → (Nat → Int32) → Prop} {x1 x2 x3 s : Int32} (hs : ¬ s = 0)
    (h : post s (cap, cnt, anc, up, fl, s, x3, 0, 0, el, ml, al, ll, pa, mp, su, ex, no)) : wX_validate_58 post J x1 x2 x3 s cap cnt anc up fl ls lf la lr el ml al ll pa mp su ex no := by
  unfold wX_validate_58
  exact br_f hs (x_keep h)
theorem x_valL {post : Int32 → SX → Prop} {n : Nat} (hn : n ≤ 8) (hK : cp_K pa) (hT : ∀ j, cp_T (mp j)) {tm : Int32} :
    ∀ (d i : Nat) (el ml al ll : Int32) (ex no : Nat → Int32) (S : Nat → Nat → Prop), i + d = n → 1 ≤ d → cx_R ex S →
    cp_V pa mp su anc up tm n (fun s x F R => ∀ el ml al ll ex no, post s (cap, (nI n), anc, up, fl, s, x, F, R, el, ml, al, ll, pa, mp, su, ex, no)) d i el ml al ll S →
    wX_validate_25 post tm (nI n) (d + 1) (nI i) cap (nI n) anc up fl ls lf la lr el ml al ll pa mp su ex no := by
  intro d
  induction d with
  | zero => intro i el ml al ll ex no S h1 h2; omega
  | succ d ih =>
    intro i el ml al ll ex no S h1 h2 hS hV
    refine br_f (nI_ge (by omega) (by omega)) ?_
    unfold cp_V at hV
    refine x_check (by omega) hn hK hS ⟨fun c1 => ?_, fun c1 => ⟨fun c2 => ?_, fun c2 => ⟨fun c3 => ?_, fun c3 no' hN => ⟨fun c4 => ?_, fun c4 => ?_⟩⟩⟩⟩
    · exact br_f (by decide) (x_v58f (by decide) (hV.1 c1 _ _ _ _ _ _))
    · exact br_f (by decide) (x_v58f (by decide) ((hV.2 c1).1 c2 _ _ _ _ _ _))
    · exact br_f (by decide) (x_v58f (by decide) (((hV.2 c1).2 c2).1 c3 _ _ _ _ _ _))
    · exact br_f (by decide) (x_v58f (by decide) ((((hV.2 c1).2 c2).2 c3).1 c4 _ _ _ _ _ _))
    · have hV' := (((hV.2 c1).2 c2).2 c3).2 c4
      refine br_t rfl (x_leaf (by omega) hn (fun l => br_f (by decide) ?_) (fun l => br_t rfl (x_issuing (by omega) ⟨fun c6 => ?_, fun c6 => ⟨fun c7 => ?_, fun c7 => ⟨fun c8 => ?_, fun c8 => ?_⟩⟩⟩)))
      · unfold wX_validate_58
        refine br_t rfl (x_leaf (by omega) hn (fun _ => br_f (by decide) (nm_r (nI_1 i) ?_)) (fun l' => absurd l l'))
        obtain rfl : d = 0 := by omega
        refine br_t (nI_le (by omega) (by omega)) (x_wrap (by omega) hn hN ?_)
        intro R hR
        exact ⟨fun q => (hV'.1 l R hR).1 q _ _ _ _ _ _, fun q => (hV'.1 l R hR).2 q _ _ _ _ _ _⟩
      · exact x_v58f (by decide) ((hV'.2 l).1 c6 _ _ _ _ _ _)
      · exact x_v58f (by decide) (((hV'.2 l).2 c6).1 c7 _ _ _ _ _ _)
      · exact x_v58f (by decide) ((((hV'.2 l).2 c6).2 c7).1 c8 _ _ _ _ _ _)
      · unfold wX_validate_58
        refine br_t rfl (x_leaf (by omega) hn (fun l' => absurd l' l) (fun _ => br_t rfl (x_prep (by omega) hN hT (fun ex' hE => nm_r (nI_1 i) ?_))))
        exact ih (i + 1) _ _ _ _ ex' no' _ (by omega) (by omega) hE ((((hV'.2 l).2 c6).2 c7).2 c8)
theorem x_val {post : Int32 → SX → Prop} {n : Nat} (h1 : 1 ≤ n) (hn : n ≤ 8) (hK : cp_K pa) (hT : ∀ j, cp_T (mp j)) {tm : Int32}
    (h : cp_V pa mp su anc up tm n (fun s x F R => ∀ el ml al ll ex no, post s (cap, (nI n), anc, up, fl, s, x, F, R, el, ml, al, ll, pa, mp, su, ex, no)) n 0 (cp_c0 fl 1 n) (cp_c0 fl 2 n) (cp_c0 fl 4 n) (nI n) cp_S0) : wpX_validate post (cap, (nI n), anc, up, fl, ls, lf, la, lr, el, ml, al, ll, pa, mp, su, ex, no) tm := by
  unfold wpX_validate
  refine br_f (nI_ne0 (by omega) (by omega)) (x_start (fun ex' hE => ⟨n + 1, ?_⟩))
  exact x_valL hn hK hT n 0 _ _ _ _ ex' no _ (by omega) h1 hE h
end XW
end
section
section YS
variable {cap cnt anc up fl ys yf yF yR : Int32} {pa mp su ss ns : Nat → Int32}
/-! Y: the policy sets -/
theorem y_v0 : vp_nar .boolean 0 = 0 := by decide
theorem y_v1 : vp_nar .boolean 1 = 1 := by decide
def cy_ad (n0 n1 : Nat → Int32) (P : Nat → Prop) : Prop := ∀ j, j < 256 → (¬ n1 j = 0 ↔ ¬ n0 j = 0 ∨ P j)
theorem cy_ad0 {n0 : Nat → Int32} {P : Nat → Prop} (h : ∀ j, ¬ P j) : cy_ad n0 n0 P := fun j _ => ⟨Or.inl, fun q => q.elim id (fun z => absurd z (h j))⟩
theorem cy_adn {n0 n1 : Nat → Int32} {P P' : Nat → Prop} (h : cy_ad n0 n1 P) (hp : ∀ j, P' j ↔ P j) : cy_ad n0 n1 P' := fun j hj => by rw [hp j]; exact h j hj
theorem cy_adh {n0 n1 : Nat → Int32} {P P' : Nat → Prop} {x : Nat} (h : cy_ad n0 n1 P) (hp : ∀ j, P' j ↔ P j ∨ j = x) : cy_ad n0 (upd n1 x (vp_nar .boolean 1)) P' := by
  intro j hj
  rw [hp j, y_v1]
  by_cases e : j = x
  · subst e
    rw [pk_us]
    exact ⟨fun _ => Or.inr (Or.inr rfl), fun _ => by decide⟩
  · rw [pk_un e, h j hj]
    constructor
    · rintro (a | a)
      · exact Or.inl a
      · exact Or.inr (Or.inl a)
    · rintro (a | a | a)
      · exact Or.inl a
      · exact Or.inr a
      · exact absurd a e
theorem y_17 {q : Nat} : nI q * 17 = nI (17 * q) := by
  have e : nI q * 17 = nI (q * 17) := pk_mul q 17
  rw [e, Nat.mul_comm]
theorem y_147 {post : Int32 → SY → Prop} {J : (Int32 → (Nat → Int32) → (Nat → Int32) → (Nat → Int32) → (Nat → Int32) → (Nat → Int32) → (Nat → Int32) → (Nat → Int32) → (Nat → Int32) → (Nat → Int32) → (Nat → Int32) → (Nat → Int32) → (Nat → Int32) → (Nat → Int32) → (Nat → Int32) → (Nat → Int32) → (Nat → Int32) → (Nat → Int32) → Prop)} {i k n : Nat} (hi : i < 8) {z l p C : Int32} (hl : l = 0 ↔ i + 1 ≠ n) {n0 : Nat → Int32}
    (h : ∀ ns, cy_ad n0 ns (fun j => ∃ q, 1 ≤ q ∧ q < 16 ∧ cp_op n p i ∧ ¬ mp (16 * i + q) = 0 ∧ j = 17 * q) → J (nI (k + 1)) (cp_a pa 0) (cp_a pa 1) (cp_a pa 2) (cp_a pa 3) (cp_a pa 4) (cp_a pa 5) (cp_a pa 6) (cp_a pa 7) (cp_a pa 8) (cp_a pa 9) (cp_a pa 10) (cp_a pa 11) mp (cp_sp su 0) (cp_sp su 1) ss ns) :
    ∀ (d q : Nat) (ns : Nat → Int32), q + d = 16 → 1 ≤ q → cy_ad n0 ns (fun j => ∃ q', 1 ≤ q' ∧ q' < q ∧ cp_op n p i ∧ ¬ mp (16 * i + q') = 0 ∧ j = 17 * q') →
    wY_buildN_147 post J (nI i) z l p C (nI k) cap cnt anc up fl ys yf yF yR (d + 1) (nI q) (cp_a pa 0) (cp_a pa 1) (cp_a pa 2) (cp_a pa 3) (cp_a pa 4) (cp_a pa 5) (cp_a pa 6) (cp_a pa 7) (cp_a pa 8) (cp_a pa 9) (cp_a pa 10) (cp_a pa 11) mp (cp_sp su 0) (cp_sp su 1) ss ns := by
  intro d
  induction d with
  | zero =>
    intro q ns hq q1 H
    obtain rfl : q = 16 := by omega
    exact br_t (by decide) (nm_r (nI_1 k) (h ns H))
  | succ d ih =>
    intro q ns hq q1 H
    have nxt : ¬ (cp_op n p i ∧ ¬ mp (16 * i + q) = 0) → wY_buildN_147 post J (nI i) z l p C (nI k) cap cnt anc up fl ys yf yF yR (d + 1) (nI (q + 1)) (cp_a pa 0) (cp_a pa 1) (cp_a pa 2) (cp_a pa 3) (cp_a pa 4) (cp_a pa 5) (cp_a pa 6) (cp_a pa 7) (cp_a pa 8) (cp_a pa 9) (cp_a pa 10) (cp_a pa 11) mp (cp_sp su 0) (cp_sp su 1) ss ns := by
      intro hn
      refine ih (q + 1) ns (by omega) (by omega) (cy_adn H fun j => ⟨?_, ?_⟩)
      · rintro ⟨q', a, b, c, e, f⟩
        by_cases eq : q' = q
        · subst eq; exact absurd ⟨c, e⟩ hn
        · exact ⟨q', a, by omega, c, e, f⟩
      · rintro ⟨q', a, b, c⟩
        exact ⟨q', a, by omega, c⟩
    refine br_f (nI_ge (b := 16) (by omega) (by decide)) (br_c (fun l0 => br_c (fun p0 => nm_r (nI_1 q) (nxt fun a => absurd a.1.2 (Int32.not_lt.mpr p0))) (fun p0 => ?_)) (fun l0 => nm_r (nI_1 q) (nxt fun a => l0 (hl.mpr a.1.1))))
    have e : nI i * 16 + nI q = nI (16 * i + q) := x_ix
    rw [e, nI_clamp (by omega), y_17, nI_clamp (by omega)]
    refine ⟨vp_in_nI (by omega) (by omega), br_c (fun m0 => nm_r (nI_1 q) (nxt fun a => a.2 m0)) (fun m0 => ⟨vp_in_nI (by omega) (by omega), nm_e (nm_r (nI_1 q) (ih (q + 1) _ (by omega) (by omega) (cy_adh H fun j => ⟨?_, ?_⟩)))⟩)⟩
    · rintro ⟨q', a, b, c, e, f⟩
      by_cases eq : q' = q
      · subst eq; exact Or.inr f
      · exact Or.inl ⟨q', a, by omega, c, e, f⟩
    · rintro (⟨q', a, b, c⟩ | a)
      · exact ⟨q', a, by omega, c⟩
      · exact ⟨q, q1, by omega, ⟨hl.mp l0, Int32.not_le.mp p0⟩, m0, a⟩
theorem y_98 {post : Int32 → SY → Prop} {J : (Int32 → (Nat → Int32) → (Nat → Int32) → (Nat → Int32) → (Nat → Int32) → (Nat → Int32) → (Nat → Int32) → (Nat → Int32) → (Nat → Int32) → (Nat → Int32) → (Nat → Int32) → (Nat → Int32) → (Nat → Int32) → (Nat → Int32) → (Nat → Int32) → (Nat → Int32) → (Nat → Int32) → (Nat → Int32) → Prop)} {i k n : Nat} (hi : i < 8) {z l p C : Int32} {an : Prop} (hz : z = 0 ↔ ¬ an) (hl : l = 0 ↔ i + 1 ≠ n) {n0 : Nat → Int32}
    (h : ∀ ns, cy_ad n0 ns (fun j => (∃ q, 1 ≤ q ∧ q < 16 ∧ bt C q = true ∧ j = 17 * q) ∨ (an ∧ (j = 0 ∨ ∃ q, 1 ≤ q ∧ q < 16 ∧ cp_op n p i ∧ ¬ mp (16 * i + q) = 0 ∧ j = 17 * q))) → J (nI (k + 1)) (cp_a pa 0) (cp_a pa 1) (cp_a pa 2) (cp_a pa 3) (cp_a pa 4) (cp_a pa 5) (cp_a pa 6) (cp_a pa 7) (cp_a pa 8) (cp_a pa 9) (cp_a pa 10) (cp_a pa 11) mp (cp_sp su 0) (cp_sp su 1) ss ns) :
    ∀ (d q : Nat) (ns : Nat → Int32), q + d = 16 → 1 ≤ q → cy_ad n0 ns (fun j => ∃ q', 1 ≤ q' ∧ q' < q ∧ bt C q' = true ∧ j = 17 * q') →
    wY_buildN_98 post J (nI i) z l p C (nI k) cap cnt anc up fl ys yf yF yR (d + 1) (nI q) (cp_a pa 0) (cp_a pa 1) (cp_a pa 2) (cp_a pa 3) (cp_a pa 4) (cp_a pa 5) (cp_a pa 6) (cp_a pa 7) (cp_a pa 8) (cp_a pa 9) (cp_a pa 10) (cp_a pa 11) mp (cp_sp su 0) (cp_sp su 1) ss ns := by
  intro d
  induction d with
  | zero =>
    intro q ns hq q1 H
    obtain rfl : q = 16 := by omega
    refine br_t (by decide) (br_c (fun z0 => nm_r (nI_1 k) (h ns (cy_adn H fun j => ⟨?_, Or.inl⟩))) (fun z0 => nm_e ⟨16, ?_⟩))
    · rintro (a | a)
      · exact a
      · exact absurd a.1 (hz.mp z0)
    · have ha : an := Classical.byContradiction fun c => z0 (hz.mpr c)
      refine y_147 hi hl (n0 := upd ns 0 (vp_nar .boolean 1)) (fun ns' h' => h ns' fun j hj => ?_) 15 1 _ rfl (by omega) (cy_ad0 ?_)
      · rw [h' j hj, y_v1]
        by_cases e : j = 0
        · subst e
          rw [pk_us]
          exact ⟨fun _ => Or.inr (Or.inr ⟨ha, Or.inl rfl⟩), fun _ => Or.inl (by decide)⟩
        · rw [pk_un e, H j hj]
          constructor
          · rintro ((a | a) | a)
            · exact Or.inl a
            · exact Or.inr (Or.inl a)
            · exact Or.inr (Or.inr ⟨ha, Or.inr a⟩)
          · rintro (a | a | ⟨_, a | a⟩)
            · exact Or.inl (Or.inl a)
            · exact Or.inl (Or.inr a)
            · exact absurd a e
            · exact Or.inr a
      · rintro j ⟨q', a, b, _⟩
        omega
  | succ d ih =>
    intro q ns hq q1 H
    refine br_f (nI_ge (b := 16) (by omega) (by decide)) (y_bit (by omega) (fun hb => br_f (by decide) ?_) (fun hb => br_t rfl (nm_r (nI_1 q) (ih (q + 1) ns (by omega) (by omega) (cy_adn H fun j => ⟨?_, ?_⟩)))))
    · rw [y_17, nI_clamp (by omega)]
      refine ⟨vp_in_nI (by omega) (by omega), nm_e (nm_r (nI_1 q) (ih (q + 1) _ (by omega) (by omega) (cy_adh H fun j => ⟨?_, ?_⟩)))⟩
      · rintro ⟨q', a, b, c, f⟩
        by_cases eq : q' = q
        · subst eq; exact Or.inr f
        · exact Or.inl ⟨q', a, by omega, c, f⟩
      · rintro (⟨q', a, b, c⟩ | a)
        · exact ⟨q', a, by omega, c⟩
        · exact ⟨q, q1, by omega, hb, a⟩
    · rintro ⟨q', a, b, c, f⟩
      by_cases eq : q' = q
      · subst eq; rw [hb] at c; exact absurd c (by decide)
      · exact ⟨q', a, by omega, c, f⟩
    · rintro ⟨q', a, b, c⟩
      exact ⟨q', a, by omega, c⟩
theorem y_204 {post : Int32 → SY → Prop} (h1 : (∃ x, x < 256 ∧ ¬ ns x = 0) → post 1 (cap, cnt, anc, up, fl, ys, yf, yF, yR, (cp_a pa 0), (cp_a pa 1), (cp_a pa 2), (cp_a pa 3), (cp_a pa 4), (cp_a pa 5), (cp_a pa 6), (cp_a pa 7), (cp_a pa 8), (cp_a pa 9), (cp_a pa 10), (cp_a pa 11), mp, (cp_sp su 0), (cp_sp su 1), ss, ns)) (h0 : (∀ x, x < 256 → ns x = 0) → post 0 (cap, cnt, anc, up, fl, ys, yf, yF, yR, (cp_a pa 0), (cp_a pa 1), (cp_a pa 2), (cp_a pa 3), (cp_a pa 4), (cp_a pa 5), (cp_a pa 6), (cp_a pa 7), (cp_a pa 8), (cp_a pa 9), (cp_a pa 10), (cp_a pa 11), mp, (cp_sp su 0), (cp_sp su 1), ss, ns)) : ∀ d k, k + d = 256 → (∀ x, x < k → ns x = 0) → wY_buildN_204 post cap cnt anc up fl ys yf yF yR (cp_a pa 0) (cp_a pa 1) (cp_a pa 2) (cp_a pa 3) (cp_a pa 4) (cp_a pa 5) (cp_a pa 6) (cp_a pa 7) (cp_a pa 8) (cp_a pa 9) (cp_a pa 10) (cp_a pa 11) mp (cp_sp su 0) (cp_sp su 1) ss ns (d + 1) (nI k) := by
  intro d
  induction d with
  | zero =>
    intro k hk H
    obtain rfl : k = 256 := by omega
    exact br_t (by decide) (h0 H)
  | succ d ih =>
    intro k hk H
    refine br_f (nI_ge (b := 256) (by omega) (by decide)) ⟨vp_in_nI (by omega) (by omega), ?_⟩
    rw [nI_clamp (by omega)]
    refine br_c (fun hz => nm_r (nI_1 k) (ih (k + 1) (by omega) fun x hx => ?_)) (fun hz => h1 ⟨k, by omega, hz⟩)
    by_cases e : x = k
    · subst e; exact hz
    · exact H x (by omega)
theorem y_m15 {k : Nat} (hk : k < 256) : nI k &&& 15 = nI (k % 16) := pk_andN (by omega) 4 (by decide)
theorem y_s4 {k : Nat} (hk : k < 256) : nI k >>> ((4 : Int32) &&& 31) = nI (k / 16) := pk_shrN (by omega) _ 4 (by decide)
theorem y_36 {post : Int32 → SY → Prop} {i n : Nat} (hi : i < 8) {z l p C : Int32} {an : Prop} (hz : z = 0 ↔ ¬ an) (hl : l = 0 ↔ i + 1 ≠ n)
    (h : ∀ ns, cy_I (cy_A C an (cp_op n p i) (fun v => mp (16 * i + v))) ss 256 ns → ∃ n204 : Nat, wY_buildN_204 post cap cnt anc up fl ys yf yF yR (cp_a pa 0) (cp_a pa 1) (cp_a pa 2) (cp_a pa 3) (cp_a pa 4) (cp_a pa 5) (cp_a pa 6) (cp_a pa 7) (cp_a pa 8) (cp_a pa 9) (cp_a pa 10) (cp_a pa 11) mp (cp_sp su 0) (cp_sp su 1) ss ns n204 0) :
    ∀ (d k : Nat) (ns : Nat → Int32), k + d = 256 → cy_I (cy_A C an (cp_op n p i) (fun v => mp (16 * i + v))) ss k ns → wY_buildN_36 post (nI i) z l p C cap cnt anc up fl ys yf yF yR (d + 1) (nI k) (cp_a pa 0) (cp_a pa 1) (cp_a pa 2) (cp_a pa 3) (cp_a pa 4) (cp_a pa 5) (cp_a pa 6) (cp_a pa 7) (cp_a pa 8) (cp_a pa 9) (cp_a pa 10) (cp_a pa 11) mp (cp_sp su 0) (cp_sp su 1) ss ns := by
  intro d
  induction d with
  | zero =>
    intro k ns hk H
    obtain rfl : k = 256 := by omega
    exact br_t (by decide) (h ns H)
  | succ d ih =>
    intro k ns hk H
    refine br_f (nI_ge (b := 256) (by omega) (by decide)) ⟨vp_in_nI (by omega) (by omega), ?_⟩
    rw [nI_clamp (by omega)]
    refine br_c (fun s0 => nm_r (nI_1 k) (ih (k + 1) ns (by omega) (cy_In H s0))) (fun s0 => nm_r (y_m15 (by omega)) (pk_eq (k % 16) 0 (fun e0 => ?_) (fun e0 => ?_)))
    · refine ⟨16, y_98 hi hz hl (n0 := ns) (fun ns' h' => ih (k + 1) ns' (by omega) (cy_Is H s0 fun j hj => ?_)) 15 1 ns rfl (by omega) (cy_ad0 ?_)⟩
      · rw [h' j hj]
        unfold cy_A
        constructor
        · rintro (a | a)
          · exact Or.inl a
          · exact Or.inr (Or.inr ⟨e0, a⟩)
        · rintro (a | ⟨a, _⟩ | a)
          · exact Or.inl a
          · exact absurd e0 a
          · exact Or.inr a.2
      · rintro j ⟨q', a, b, _⟩
        omega
    · have hit : (bt C (k % 16) = true ∨ an) → wY_buildN_84 post (wY_buildN_36 post (nI i) z l p C cap cnt anc up fl ys yf yF yR (d + 1)) (nI i) z l p C (nI k) cap cnt anc up fl ys yf yF yR (cp_a pa 0) (cp_a pa 1) (cp_a pa 2) (cp_a pa 3) (cp_a pa 4) (cp_a pa 5) (cp_a pa 6) (cp_a pa 7) (cp_a pa 8) (cp_a pa 9) (cp_a pa 10) (cp_a pa 11) mp (cp_sp su 0) (cp_sp su 1) ss ns := by
        intro hq
        unfold wY_buildN_84
        rw [nI_clamp (by omega)]
        refine ⟨vp_in_nI (by omega) (by omega), nm_e (nm_r (nI_1 k) (ih (k + 1) _ (by omega) (cy_Is H s0 (cy_adh (P := fun _ => False) (cy_ad0 fun _ a => a) fun j => ⟨?_, ?_⟩))))⟩
        · rintro (⟨a, b, c⟩ | ⟨a, _⟩)
          · exact Or.inr b
          · exact absurd a e0
        · rintro (a | a)
          · exact absurd a id
          · exact Or.inl ⟨e0, a, hq⟩
      refine y_bit (by omega) (fun hb => br_f (by decide) (hit (Or.inl hb))) (fun hb => br_t rfl (br_c (fun z0 => nm_r (nI_1 k) (ih (k + 1) ns (by omega) (cy_Is H s0 fun j hj => ⟨Or.inl, ?_⟩))) (fun z0 => hit (Or.inr (Classical.byContradiction fun c => z0 (hz.mpr c))))))
      rintro (a | ⟨_, _, a | a⟩ | ⟨a, _⟩)
      · exact a
      · rw [hb] at a; exact absurd a (by decide)
      · exact absurd a (hz.mp z0)
      · exact absurd a e0
theorem y_3 {post : Int32 → SY → Prop} {i : Nat} (hi : i < 8) {z l p : Int32}
    (h : ∀ ns, (∀ j, j < 256 → ns j = 0) → ∃ n36 : Nat, wY_buildN_36 post (nI i) z l p (pa (12 * i + 6)) cap cnt anc up fl ys yf yF yR n36 0 (cp_a pa 0) (cp_a pa 1) (cp_a pa 2) (cp_a pa 3) (cp_a pa 4) (cp_a pa 5) (cp_a pa 6) (cp_a pa 7) (cp_a pa 8) (cp_a pa 9) (cp_a pa 10) (cp_a pa 11) mp (cp_sp su 0) (cp_sp su 1) ss ns) :
    ∀ (d k : Nat) (ns : Nat → Int32), k + d = 256 → (∀ j, j < k → ns j = 0) → wY_buildN_3 post (nI i) z l p cap cnt anc up fl ys yf yF yR (d + 1) (nI k) (cp_a pa 0) (cp_a pa 1) (cp_a pa 2) (cp_a pa 3) (cp_a pa 4) (cp_a pa 5) (cp_a pa 6) (cp_a pa 7) (cp_a pa 8) (cp_a pa 9) (cp_a pa 10) (cp_a pa 11) mp (cp_sp su 0) (cp_sp su 1) ss ns := by
  intro d
  induction d with
  | zero =>
    intro k ns hk H
    obtain rfl : k = 256 := by omega
    exact br_t (by decide) ⟨vp_in_nI (by omega) (by omega), nm_r (by rw [nI_clamp (by omega)]; rfl) (h ns H)⟩
  | succ d ih =>
    intro k ns hk H
    refine br_f (nI_ge (b := 256) (by omega) (by decide)) ⟨vp_in_nI (by omega) (by omega), nm_r (by rw [nI_clamp (by omega)]) (nm_r (nI_1 k) (ih (k + 1) (upd ns k (vp_nar .boolean 0)) (by omega) fun j hj => ?_))⟩
    by_cases e : j = k
    · subst e; rw [pk_us, y_v0]
    · rw [pk_un e]; exact H j (by omega)
theorem y_buildN {post : Int32 → SY → Prop} {i n : Nat} (hi : i < 8) {z l p : Int32} {an : Prop} (hz : z = 0 ↔ ¬ an) (hl : l = 0 ↔ i + 1 ≠ n) {S : Nat → Nat → Prop} (hZ : cp_Z S) (hS : cy_R ss S)
    (h1 : ∀ ns, cy_R ns (cp_N S (pa (12 * i + 6)) an (cp_op n p i) (fun v => mp (16 * i + v))) → ¬ cp_em (cp_N S (pa (12 * i + 6)) an (cp_op n p i) (fun v => mp (16 * i + v))) → post 1 (cap, cnt, anc, up, fl, ys, yf, yF, yR, (cp_a pa 0), (cp_a pa 1), (cp_a pa 2), (cp_a pa 3), (cp_a pa 4), (cp_a pa 5), (cp_a pa 6), (cp_a pa 7), (cp_a pa 8), (cp_a pa 9), (cp_a pa 10), (cp_a pa 11), mp, (cp_sp su 0), (cp_sp su 1), ss, ns))
    (h0 : ∀ ns, cy_R ns (cp_N S (pa (12 * i + 6)) an (cp_op n p i) (fun v => mp (16 * i + v))) → cp_em (cp_N S (pa (12 * i + 6)) an (cp_op n p i) (fun v => mp (16 * i + v))) → post 0 (cap, cnt, anc, up, fl, ys, yf, yF, yR, (cp_a pa 0), (cp_a pa 1), (cp_a pa 2), (cp_a pa 3), (cp_a pa 4), (cp_a pa 5), (cp_a pa 6), (cp_a pa 7), (cp_a pa 8), (cp_a pa 9), (cp_a pa 10), (cp_a pa 11), mp, (cp_sp su 0), (cp_sp su 1), ss, ns)) :
    wpY_buildN post (cap, cnt, anc, up, fl, ys, yf, yF, yR, (cp_a pa 0), (cp_a pa 1), (cp_a pa 2), (cp_a pa 3), (cp_a pa 4), (cp_a pa 5), (cp_a pa 6), (cp_a pa 7), (cp_a pa 8), (cp_a pa 9), (cp_a pa 10), (cp_a pa 11), mp, (cp_sp su 0), (cp_sp su 1), ss, ns) (nI i) z l p := by
  unfold wpY_buildN
  refine ⟨257, y_3 hi (fun ns' h' => ⟨257, y_36 hi hz hl (fun ns2 h2 => ⟨257, ?_⟩) 256 0 ns' rfl (cy_I0 h')⟩) 256 0 ns rfl (fun j hj => absurd hj (by omega))⟩
  have hN := cy_N hZ hS h2
  refine y_204 (fun a => h1 ns2 hN fun b => ?_) (fun a => h0 ns2 hN ((cy_em hN).mpr a)) 256 0 rfl (fun j hj => absurd hj (by omega))
  obtain ⟨x, hx, hn⟩ := a
  exact hn ((cy_em hN).mp b x hx)
theorem y_90 {post : SY → Prop} {J : (Int32 → (Nat → Int32) → (Nat → Int32) → (Nat → Int32) → (Nat → Int32) → (Nat → Int32) → (Nat → Int32) → (Nat → Int32) → (Nat → Int32) → (Nat → Int32) → (Nat → Int32) → (Nat → Int32) → (Nat → Int32) → (Nat → Int32) → (Nat → Int32) → (Nat → Int32) → (Nat → Int32) → (Nat → Int32) → Prop)} {i k : Nat} (hk : k < 256) {p tv : Int32} {n0 : Nat → Int32}
    (h : ∀ ss, cy_ad n0 ss (fun j => 0 < p ∧ ∃ t, 1 ≤ t ∧ t < 16 ∧ bt tv t = true ∧ j = 16 * (k / 16) + t) → J (nI (k + 1)) (cp_a pa 0) (cp_a pa 1) (cp_a pa 2) (cp_a pa 3) (cp_a pa 4) (cp_a pa 5) (cp_a pa 6) (cp_a pa 7) (cp_a pa 8) (cp_a pa 9) (cp_a pa 10) (cp_a pa 11) mp (cp_sp su 0) (cp_sp su 1) ss ns) :
    ∀ (d t : Nat) (ss : Nat → Int32), t + d = 16 → 1 ≤ t → cy_ad n0 ss (fun j => 0 < p ∧ ∃ t', 1 ≤ t' ∧ t' < t ∧ bt tv t' = true ∧ j = 16 * (k / 16) + t') →
    wY_buildS_90 post J (nI i) p (nI k) (nI (k / 16)) tv cap cnt anc up fl ys yf yF yR (d + 1) (nI t) (cp_a pa 0) (cp_a pa 1) (cp_a pa 2) (cp_a pa 3) (cp_a pa 4) (cp_a pa 5) (cp_a pa 6) (cp_a pa 7) (cp_a pa 8) (cp_a pa 9) (cp_a pa 10) (cp_a pa 11) mp (cp_sp su 0) (cp_sp su 1) ss ns := by
  intro d
  induction d with
  | zero =>
    intro t ss ht t1 H
    obtain rfl : t = 16 := by omega
    exact br_t (by decide) (nm_r (nI_1 k) (h ss H))
  | succ d ih =>
    intro t ss ht t1 H
    have nxt : ¬ (0 < p ∧ bt tv t = true) → wY_buildS_90 post J (nI i) p (nI k) (nI (k / 16)) tv cap cnt anc up fl ys yf yF yR (d + 1) (nI (t + 1)) (cp_a pa 0) (cp_a pa 1) (cp_a pa 2) (cp_a pa 3) (cp_a pa 4) (cp_a pa 5) (cp_a pa 6) (cp_a pa 7) (cp_a pa 8) (cp_a pa 9) (cp_a pa 10) (cp_a pa 11) mp (cp_sp su 0) (cp_sp su 1) ss ns := by
      intro hn
      refine ih (t + 1) ss (by omega) (by omega) (cy_adn H fun j => ⟨?_, ?_⟩)
      · rintro ⟨p0, t', a, b, c, f⟩
        by_cases eq : t' = t
        · subst eq; exact absurd ⟨p0, c⟩ hn
        · exact ⟨p0, t', a, by omega, c, f⟩
      · rintro ⟨p0, t', a, b, c⟩
        exact ⟨p0, t', a, by omega, c⟩
    refine br_f (nI_ge (b := 16) (by omega) (by decide)) (br_c (fun p0 => nm_r (nI_1 t) (nxt fun a => absurd a.1 (Int32.not_lt.mpr p0))) (fun p0 => y_bit (by omega) (fun hb => br_f (by decide) ?_) (fun hb => br_t rfl (nm_r (nI_1 t) (nxt fun a => ?_)))))
    · have e : nI (k / 16) * 16 + nI t = nI (16 * (k / 16) + t) := x_ix
      rw [e, nI_clamp (by omega)]
      refine ⟨vp_in_nI (by omega) (by omega), nm_e (nm_r (nI_1 t) (ih (t + 1) _ (by omega) (by omega) (cy_adh H fun j => ⟨?_, ?_⟩)))⟩
      · rintro ⟨p0, t', a, b, c, f⟩
        by_cases eq : t' = t
        · subst eq; exact Or.inr f
        · exact Or.inl ⟨p0, t', a, by omega, c, f⟩
      · rintro (⟨p0, t', a, b, c⟩ | a)
        · exact ⟨p0, t', a, by omega, c⟩
        · exact ⟨Int32.not_le.mp p0, t, t1, by omega, hb, a⟩
    · rw [hb] at a
      exact absurd a.2 (by decide)
theorem y_24 {post : SY → Prop} {i : Nat} (hi : i < 8) {p : Int32}
    (h : ∀ ss, cy_I (cy_B p (fun v => mp (16 * i + v))) ns 256 ss → post (cap, cnt, anc, up, fl, ys, yf, yF, yR, (cp_a pa 0), (cp_a pa 1), (cp_a pa 2), (cp_a pa 3), (cp_a pa 4), (cp_a pa 5), (cp_a pa 6), (cp_a pa 7), (cp_a pa 8), (cp_a pa 9), (cp_a pa 10), (cp_a pa 11), mp, (cp_sp su 0), (cp_sp su 1), ss, ns)) :
    ∀ (d k : Nat) (ss : Nat → Int32), k + d = 256 → cy_I (cy_B p (fun v => mp (16 * i + v))) ns k ss → wY_buildS_24 post (nI i) p cap cnt anc up fl ys yf yF yR (d + 1) (nI k) (cp_a pa 0) (cp_a pa 1) (cp_a pa 2) (cp_a pa 3) (cp_a pa 4) (cp_a pa 5) (cp_a pa 6) (cp_a pa 7) (cp_a pa 8) (cp_a pa 9) (cp_a pa 10) (cp_a pa 11) mp (cp_sp su 0) (cp_sp su 1) ss ns := by
  intro d
  induction d with
  | zero =>
    intro k ss hk H
    obtain rfl : k = 256 := by omega
    exact br_t (by decide) (h ss H)
  | succ d ih =>
    intro k ss hk H
    refine br_f (nI_ge (b := 256) (by omega) (by decide)) ⟨vp_in_nI (by omega) (by omega), ?_⟩
    rw [nI_clamp (by omega)]
    refine br_c (fun s0 => nm_r (nI_1 k) (ih (k + 1) ss (by omega) (cy_In H s0))) (fun s0 => nm_r (y_s4 (by omega)) (nm_r (y_m15 (by omega)) ?_))
    have hit : ¬ (k % 16 ≠ 0 ∧ ¬ mp (16 * i + k % 16) = 0) → wY_buildS_24 post (nI i) p cap cnt anc up fl ys yf yF yR (d + 1) (nI (k + 1)) (cp_a pa 0) (cp_a pa 1) (cp_a pa 2) (cp_a pa 3) (cp_a pa 4) (cp_a pa 5) (cp_a pa 6) (cp_a pa 7) (cp_a pa 8) (cp_a pa 9) (cp_a pa 10) (cp_a pa 11) mp (cp_sp su 0) (cp_sp su 1) (upd ss k (vp_nar .boolean 1)) ns := by
      intro hn
      refine ih (k + 1) _ (by omega) (cy_Is H s0 (cy_adh (P := fun _ => False) (cy_ad0 fun _ a => a) fun j => ⟨?_, ?_⟩))
      · rintro (⟨a, b⟩ | ⟨a, _⟩)
        · exact Or.inr b
        · exact absurd a hn
      · rintro (a | a)
        · exact absurd a id
        · exact Or.inl ⟨hn, a⟩
    refine pk_eq (k % 16) 0 (fun e0 => ?_) (fun e0 => ?_)
    · unfold wY_buildS_75
      rw [nI_clamp (by omega)]
      exact pk_eq (k % 16) 0 (fun _ => ⟨vp_in_nI (by omega) (by omega), nm_e (nm_r (nI_1 k) (hit fun a => a.1 e0))⟩) (fun e1 => absurd e0 e1)
    · have e : nI i * 16 + nI (k % 16) = nI (16 * i + k % 16) := x_ix
      rw [e, nI_clamp (by omega)]
      refine ⟨vp_in_nI (by omega) (by omega), ?_⟩
      unfold wY_buildS_75
      rw [nI_clamp (by omega)]
      refine pk_eq (k % 16) 0 (fun e1 => absurd e1 e0) (fun _ => br_c (fun m0 => ⟨vp_in_nI (by omega) (by omega), nm_e (nm_r (nI_1 k) (hit fun a => a.2 m0))⟩) (fun m0 => ⟨16, y_90 (by omega) (n0 := ss) (fun ss' h' => ih (k + 1) ss' (by omega) (cy_Is H s0 fun j hj => ?_)) 15 1 ss rfl (by omega) (cy_ad0 ?_)⟩))
      · rw [h' j hj]
        unfold cy_B
        constructor
        · rintro (a | a)
          · exact Or.inl a
          · exact Or.inr (Or.inr ⟨⟨e0, m0⟩, a⟩)
        · rintro (a | ⟨a, _⟩ | a)
          · exact Or.inl a
          · exact absurd ⟨e0, m0⟩ a
          · exact Or.inr a.2
      · rintro j ⟨_, q', a, b, _⟩
        omega
theorem y_2 {post : SY → Prop} {i : Nat} {p : Int32}
    (h : ∀ ss, (∀ j, j < 256 → ss j = 0) → ∃ n24 : Nat, wY_buildS_24 post (nI i) p cap cnt anc up fl ys yf yF yR n24 0 (cp_a pa 0) (cp_a pa 1) (cp_a pa 2) (cp_a pa 3) (cp_a pa 4) (cp_a pa 5) (cp_a pa 6) (cp_a pa 7) (cp_a pa 8) (cp_a pa 9) (cp_a pa 10) (cp_a pa 11) mp (cp_sp su 0) (cp_sp su 1) ss ns) :
    ∀ (d k : Nat) (ss : Nat → Int32), k + d = 256 → (∀ j, j < k → ss j = 0) → wY_buildS_2 post (nI i) p cap cnt anc up fl ys yf yF yR (d + 1) (nI k) (cp_a pa 0) (cp_a pa 1) (cp_a pa 2) (cp_a pa 3) (cp_a pa 4) (cp_a pa 5) (cp_a pa 6) (cp_a pa 7) (cp_a pa 8) (cp_a pa 9) (cp_a pa 10) (cp_a pa 11) mp (cp_sp su 0) (cp_sp su 1) ss ns := by
  intro d
  induction d with
  | zero =>
    intro k ss hk H
    obtain rfl : k = 256 := by omega
    exact br_t (by decide) (h ss H)
  | succ d ih =>
    intro k ss hk H
    refine br_f (nI_ge (b := 256) (by omega) (by decide)) ⟨vp_in_nI (by omega) (by omega), nm_r (by rw [nI_clamp (by omega)]) (nm_r (nI_1 k) (ih (k + 1) (upd ss k (vp_nar .boolean 0)) (by omega) fun j hj => ?_))⟩
    by_cases e : j = k
    · subst e; rw [pk_us, y_v0]
    · rw [pk_un e]; exact H j (by omega)
theorem y_buildS {post : SY → Prop} {i : Nat} (hi : i < 8) {p : Int32} {N : Nat → Nat → Prop} (hN : cy_R ns N) (hT : ∀ j, cp_T (mp j))
    (h : ∀ ss, cy_R ss (cp_S N p (fun v => mp (16 * i + v))) → post (cap, cnt, anc, up, fl, ys, yf, yF, yR, (cp_a pa 0), (cp_a pa 1), (cp_a pa 2), (cp_a pa 3), (cp_a pa 4), (cp_a pa 5), (cp_a pa 6), (cp_a pa 7), (cp_a pa 8), (cp_a pa 9), (cp_a pa 10), (cp_a pa 11), mp, (cp_sp su 0), (cp_sp su 1), ss, ns)) : wpY_buildS post (cap, cnt, anc, up, fl, ys, yf, yF, yR, (cp_a pa 0), (cp_a pa 1), (cp_a pa 2), (cp_a pa 3), (cp_a pa 4), (cp_a pa 5), (cp_a pa 6), (cp_a pa 7), (cp_a pa 8), (cp_a pa 9), (cp_a pa 10), (cp_a pa 11), mp, (cp_sp su 0), (cp_sp su 1), ss, ns) (nI i) p := by
  unfold wpY_buildS
  exact ⟨257, y_2 (fun ss' h' => ⟨257, y_24 hi (fun ss2 h2 => h ss2 (cy_S (fun v => hT _) hN h2)) 256 0 ss' rfl (cy_I0 h')⟩) 256 0 ss rfl (fun j hj => absurd hj (by omega))⟩
end YS
end
section
section YW
variable {cap cnt anc up fl ys yf yF yR : Int32} {pa mp su ss ns : Nat → Int32}
/-! Y: validate -/
def cp_lm (x l : Int32) : Int32 := if 0 ≤ l ∧ l < x then l else x
def cp_dc (is su c : Int32) : Int32 := if 0 < c ∧ ¬ is = su then c - 1 else c
theorem cp_nxe {is su c lim : Int32} : cp_nx is su c lim = cp_lm (cp_dc is su c) lim := rfl
theorem y_lm {P : Int32 → Prop} {x l : Int32} (h : P (cp_lm x l)) : (l < 0 → P x) ∧ (¬ l < 0 → (x ≤ l → P x) ∧ (¬ x ≤ l → P l)) := by
  unfold cp_lm at h
  refine br_c (fun a => ?_) (fun a => br_c (fun b => ?_) (fun b => ?_))
  · rw [if_neg (fun c => absurd c.1 (Int32.not_le.mpr a))] at h; exact h
  · rw [if_neg (fun c => absurd c.2 (Int32.not_lt.mpr b))] at h; exact h
  · rw [if_pos ⟨Int32.not_lt.mp a, Int32.not_le.mp b⟩] at h; exact h
theorem y_m1 (x : Int32) : x + (-1) = x - 1 := (Int32.sub_eq_add_neg x 1).symm
theorem y_dc {P : Int32 → Prop} {is su c : Int32} (hs : ¬ is = su) (h : P (cp_dc is su c)) : (c ≤ 0 → P c) ∧ (¬ c ≤ 0 → P (c - 1)) := by
  unfold cp_dc at h
  refine br_c (fun a => ?_) (fun a => ?_)
  · rw [if_neg (fun c => absurd c.1 (Int32.not_lt.mpr a))] at h; exact h
  · rw [if_pos ⟨Int32.not_le.mp a, hs⟩] at h; exact h
theorem y_dcs {is su c : Int32} (hs : is = su) : cp_dc is su c = c := if_neg (fun q => q.2 hs)
theorem y_542 {post : Int32 → SY → Prop} {J : (Int32 → Int32 → Int32 → Int32 → Int32 → Int32 → Int32 → Int32 → Int32 → Int32 → Int32 → Int32 → Int32 → Int32 → (Nat → Int32) → (Nat → Int32) → (Nat → Int32) → (Nat → Int32) → (Nat → Int32) → (Nat → Int32) → (Nat → Int32) → (Nat → Int32) → (Nat → Int32) → (Nat → Int32) → (Nat → Int32) → (Nat → Int32) → (Nat → Int32) → (Nat → Int32) → (Nat → Int32) → (Nat → Int32) → (Nat → Int32) → Prop)} {x1 x2 e p a m : Int32} {i : Nat} (hi : i < 8)
    (h : J e p (cp_lm a (pa (12 * i + 9))) m (nI (i + 1)) cap cnt anc up fl ys yf yF yR (cp_a pa 0) (cp_a pa 1) (cp_a pa 2) (cp_a pa 3) (cp_a pa 4) (cp_a pa 5) (cp_a pa 6) (cp_a pa 7) (cp_a pa 8) (cp_a pa 9) (cp_a pa 10) (cp_a pa 11) mp (cp_sp su 0) (cp_sp su 1) ss ns) : wY_validate_542 post J x1 x2 e p a m (nI i) cap cnt anc up fl ys yf yF yR (cp_a pa 0) (cp_a pa 1) (cp_a pa 2) (cp_a pa 3) (cp_a pa 4) (cp_a pa 5) (cp_a pa 6) (cp_a pa 7) (cp_a pa 8) (cp_a pa 9) (cp_a pa 10) (cp_a pa 11) mp (cp_sp su 0) (cp_sp su 1) ss ns := by
  unfold wY_validate_542
  rw [nI_clamp (by omega), nI_1]
  have v : vp_in (nI i) 8 := vp_in_nI (by omega) (by omega)
  have k := y_lm (P := fun a => J e p a m (nI (i + 1)) cap cnt anc up fl ys yf yF yR (cp_a pa 0) (cp_a pa 1) (cp_a pa 2) (cp_a pa 3) (cp_a pa 4) (cp_a pa 5) (cp_a pa 6) (cp_a pa 7) (cp_a pa 8) (cp_a pa 9) (cp_a pa 10) (cp_a pa 11) mp (cp_sp su 0) (cp_sp su 1) ss ns) h
  exact ⟨v, fun c => nm_e (k.1 c), fun c => ⟨v, fun d => nm_e ((k.2 c).1 d), fun d => ⟨v, nm_e (nm_e ((k.2 c).2 d))⟩⟩⟩
theorem y_511 {post : Int32 → SY → Prop} {J : (Int32 → Int32 → Int32 → Int32 → Int32 → Int32 → Int32 → Int32 → Int32 → Int32 → Int32 → Int32 → Int32 → Int32 → (Nat → Int32) → (Nat → Int32) → (Nat → Int32) → (Nat → Int32) → (Nat → Int32) → (Nat → Int32) → (Nat → Int32) → (Nat → Int32) → (Nat → Int32) → (Nat → Int32) → (Nat → Int32) → (Nat → Int32) → (Nat → Int32) → (Nat → Int32) → (Nat → Int32) → (Nat → Int32) → (Nat → Int32) → Prop)} {x1 x2 e p a m : Int32} {i : Nat} (hi : i < 8)
    (h : J e (cp_lm p (pa (12 * i + 8))) (cp_lm a (pa (12 * i + 9))) m (nI (i + 1)) cap cnt anc up fl ys yf yF yR (cp_a pa 0) (cp_a pa 1) (cp_a pa 2) (cp_a pa 3) (cp_a pa 4) (cp_a pa 5) (cp_a pa 6) (cp_a pa 7) (cp_a pa 8) (cp_a pa 9) (cp_a pa 10) (cp_a pa 11) mp (cp_sp su 0) (cp_sp su 1) ss ns) : wY_validate_511 post J x1 x2 e p a m (nI i) cap cnt anc up fl ys yf yF yR (cp_a pa 0) (cp_a pa 1) (cp_a pa 2) (cp_a pa 3) (cp_a pa 4) (cp_a pa 5) (cp_a pa 6) (cp_a pa 7) (cp_a pa 8) (cp_a pa 9) (cp_a pa 10) (cp_a pa 11) mp (cp_sp su 0) (cp_sp su 1) ss ns := by
  unfold wY_validate_511
  rw [nI_clamp (by omega)]
  have v : vp_in (nI i) 8 := vp_in_nI (by omega) (by omega)
  have k := y_lm (P := fun p => J e p (cp_lm a (pa (12 * i + 9))) m (nI (i + 1)) cap cnt anc up fl ys yf yF yR (cp_a pa 0) (cp_a pa 1) (cp_a pa 2) (cp_a pa 3) (cp_a pa 4) (cp_a pa 5) (cp_a pa 6) (cp_a pa 7) (cp_a pa 8) (cp_a pa 9) (cp_a pa 10) (cp_a pa 11) mp (cp_sp su 0) (cp_sp su 1) ss ns) h
  exact ⟨v, fun c => y_542 hi (k.1 c), fun c => ⟨v, fun d => y_542 hi ((k.2 c).1 d), fun d => ⟨v, nm_e (y_542 hi ((k.2 c).2 d))⟩⟩⟩
theorem y_482 {post : Int32 → SY → Prop} {J : (Int32 → Int32 → Int32 → Int32 → Int32 → Int32 → Int32 → Int32 → Int32 → Int32 → Int32 → Int32 → Int32 → Int32 → (Nat → Int32) → (Nat → Int32) → (Nat → Int32) → (Nat → Int32) → (Nat → Int32) → (Nat → Int32) → (Nat → Int32) → (Nat → Int32) → (Nat → Int32) → (Nat → Int32) → (Nat → Int32) → (Nat → Int32) → (Nat → Int32) → (Nat → Int32) → (Nat → Int32) → (Nat → Int32) → (Nat → Int32) → Prop)} {x1 x2 e p a m : Int32} {i : Nat} (hi : i < 8)
    (h : J (cp_lm e (pa (12 * i + 7))) (cp_lm p (pa (12 * i + 8))) (cp_lm a (pa (12 * i + 9))) m (nI (i + 1)) cap cnt anc up fl ys yf yF yR (cp_a pa 0) (cp_a pa 1) (cp_a pa 2) (cp_a pa 3) (cp_a pa 4) (cp_a pa 5) (cp_a pa 6) (cp_a pa 7) (cp_a pa 8) (cp_a pa 9) (cp_a pa 10) (cp_a pa 11) mp (cp_sp su 0) (cp_sp su 1) ss ns) : wY_validate_482 post J x1 x2 e p a m (nI i) cap cnt anc up fl ys yf yF yR (cp_a pa 0) (cp_a pa 1) (cp_a pa 2) (cp_a pa 3) (cp_a pa 4) (cp_a pa 5) (cp_a pa 6) (cp_a pa 7) (cp_a pa 8) (cp_a pa 9) (cp_a pa 10) (cp_a pa 11) mp (cp_sp su 0) (cp_sp su 1) ss ns := by
  unfold wY_validate_482
  rw [nI_clamp (by omega)]
  have v : vp_in (nI i) 8 := vp_in_nI (by omega) (by omega)
  have k := y_lm (P := fun e => J e (cp_lm p (pa (12 * i + 8))) (cp_lm a (pa (12 * i + 9))) m (nI (i + 1)) cap cnt anc up fl ys yf yF yR (cp_a pa 0) (cp_a pa 1) (cp_a pa 2) (cp_a pa 3) (cp_a pa 4) (cp_a pa 5) (cp_a pa 6) (cp_a pa 7) (cp_a pa 8) (cp_a pa 9) (cp_a pa 10) (cp_a pa 11) mp (cp_sp su 0) (cp_sp su 1) ss ns) h
  exact ⟨v, fun c => y_511 hi (k.1 c), fun c => ⟨v, fun d => y_511 hi ((k.2 c).1 d), fun d => ⟨v, nm_e (y_511 hi ((k.2 c).2 d))⟩⟩⟩
theorem y_474 {post : Int32 → SY → Prop} {J : (Int32 → Int32 → Int32 → Int32 → Int32 → Int32 → Int32 → Int32 → Int32 → Int32 → Int32 → Int32 → Int32 → Int32 → (Nat → Int32) → (Nat → Int32) → (Nat → Int32) → (Nat → Int32) → (Nat → Int32) → (Nat → Int32) → (Nat → Int32) → (Nat → Int32) → (Nat → Int32) → (Nat → Int32) → (Nat → Int32) → (Nat → Int32) → (Nat → Int32) → (Nat → Int32) → (Nat → Int32) → (Nat → Int32) → (Nat → Int32) → Prop)} {x1 x2 e p a m : Int32} {i : Nat} (hi : i < 8) (hs : ¬ cp_self pa i)
    (h : J (cp_lm e (pa (12 * i + 7))) (cp_lm p (pa (12 * i + 8))) (cp_nx (pa (12 * i)) (pa (12 * i + 1)) a (pa (12 * i + 9))) m (nI (i + 1)) cap cnt anc up fl ys yf yF yR (cp_a pa 0) (cp_a pa 1) (cp_a pa 2) (cp_a pa 3) (cp_a pa 4) (cp_a pa 5) (cp_a pa 6) (cp_a pa 7) (cp_a pa 8) (cp_a pa 9) (cp_a pa 10) (cp_a pa 11) mp (cp_sp su 0) (cp_sp su 1) ss ns) : wY_validate_474 post J x1 x2 e p a m (nI i) cap cnt anc up fl ys yf yF yR (cp_a pa 0) (cp_a pa 1) (cp_a pa 2) (cp_a pa 3) (cp_a pa 4) (cp_a pa 5) (cp_a pa 6) (cp_a pa 7) (cp_a pa 8) (cp_a pa 9) (cp_a pa 10) (cp_a pa 11) mp (cp_sp su 0) (cp_sp su 1) ss ns := by
  unfold wY_validate_474
  rw [cp_nxe] at h
  have k := y_dc (P := fun a => J (cp_lm e (pa (12 * i + 7))) (cp_lm p (pa (12 * i + 8))) (cp_lm a (pa (12 * i + 9))) m (nI (i + 1)) cap cnt anc up fl ys yf yF yR (cp_a pa 0) (cp_a pa 1) (cp_a pa 2) (cp_a pa 3) (cp_a pa 4) (cp_a pa 5) (cp_a pa 6) (cp_a pa 7) (cp_a pa 8) (cp_a pa 9) (cp_a pa 10) (cp_a pa 11) mp (cp_sp su 0) (cp_sp su 1) ss ns) hs h
  exact ⟨fun c => y_482 hi (k.1 c), fun c => nm_r (y_m1 _) (y_482 hi (k.2 c))⟩
theorem y_466 {post : Int32 → SY → Prop} {J : (Int32 → Int32 → Int32 → Int32 → Int32 → Int32 → Int32 → Int32 → Int32 → Int32 → Int32 → Int32 → Int32 → Int32 → (Nat → Int32) → (Nat → Int32) → (Nat → Int32) → (Nat → Int32) → (Nat → Int32) → (Nat → Int32) → (Nat → Int32) → (Nat → Int32) → (Nat → Int32) → (Nat → Int32) → (Nat → Int32) → (Nat → Int32) → (Nat → Int32) → (Nat → Int32) → (Nat → Int32) → (Nat → Int32) → (Nat → Int32) → Prop)} {x1 x2 e p a m : Int32} {i : Nat} (hi : i < 8) (hs : ¬ cp_self pa i)
    (h : J (cp_lm e (pa (12 * i + 7))) (cp_nx (pa (12 * i)) (pa (12 * i + 1)) p (pa (12 * i + 8))) (cp_nx (pa (12 * i)) (pa (12 * i + 1)) a (pa (12 * i + 9))) m (nI (i + 1)) cap cnt anc up fl ys yf yF yR (cp_a pa 0) (cp_a pa 1) (cp_a pa 2) (cp_a pa 3) (cp_a pa 4) (cp_a pa 5) (cp_a pa 6) (cp_a pa 7) (cp_a pa 8) (cp_a pa 9) (cp_a pa 10) (cp_a pa 11) mp (cp_sp su 0) (cp_sp su 1) ss ns) : wY_validate_466 post J x1 x2 e p a m (nI i) cap cnt anc up fl ys yf yF yR (cp_a pa 0) (cp_a pa 1) (cp_a pa 2) (cp_a pa 3) (cp_a pa 4) (cp_a pa 5) (cp_a pa 6) (cp_a pa 7) (cp_a pa 8) (cp_a pa 9) (cp_a pa 10) (cp_a pa 11) mp (cp_sp su 0) (cp_sp su 1) ss ns := by
  unfold wY_validate_466
  rw [cp_nxe (c := p)] at h
  have k := y_dc (P := fun p => J (cp_lm e (pa (12 * i + 7))) (cp_lm p (pa (12 * i + 8))) (cp_nx (pa (12 * i)) (pa (12 * i + 1)) a (pa (12 * i + 9))) m (nI (i + 1)) cap cnt anc up fl ys yf yF yR (cp_a pa 0) (cp_a pa 1) (cp_a pa 2) (cp_a pa 3) (cp_a pa 4) (cp_a pa 5) (cp_a pa 6) (cp_a pa 7) (cp_a pa 8) (cp_a pa 9) (cp_a pa 10) (cp_a pa 11) mp (cp_sp su 0) (cp_sp su 1) ss ns) hs h
  exact ⟨fun c => y_474 hi hs (k.1 c), fun c => nm_r (y_m1 _) (y_474 hi hs (k.2 c))⟩
theorem y_446 {post : Int32 → SY → Prop} {J : (Int32 → Int32 → Int32 → Int32 → Int32 → Int32 → Int32 → Int32 → Int32 → Int32 → Int32 → Int32 → Int32 → Int32 → (Nat → Int32) → (Nat → Int32) → (Nat → Int32) → (Nat → Int32) → (Nat → Int32) → (Nat → Int32) → (Nat → Int32) → (Nat → Int32) → (Nat → Int32) → (Nat → Int32) → (Nat → Int32) → (Nat → Int32) → (Nat → Int32) → (Nat → Int32) → (Nat → Int32) → (Nat → Int32) → (Nat → Int32) → Prop)} {x1 x2 e p a m sf : Int32} {i : Nat} (hi : i < 8) (hsf : sf = 0 ↔ ¬ cp_self pa i) {N : Nat → Nat → Prop} (hN : cy_R ns N) (hT : ∀ j, cp_T (mp j))
    (h : ∀ ss, cy_R ss (cp_S N p (fun v => mp (16 * i + v))) → J (cp_nx (pa (12 * i)) (pa (12 * i + 1)) e (pa (12 * i + 7))) (cp_nx (pa (12 * i)) (pa (12 * i + 1)) p (pa (12 * i + 8))) (cp_nx (pa (12 * i)) (pa (12 * i + 1)) a (pa (12 * i + 9))) m (nI (i + 1)) cap cnt anc up fl ys yf yF yR (cp_a pa 0) (cp_a pa 1) (cp_a pa 2) (cp_a pa 3) (cp_a pa 4) (cp_a pa 5) (cp_a pa 6) (cp_a pa 7) (cp_a pa 8) (cp_a pa 9) (cp_a pa 10) (cp_a pa 11) mp (cp_sp su 0) (cp_sp su 1) ss ns) :
    wY_validate_446 post J x1 x2 e p a m (nI i) sf cap cnt anc up fl ys yf yF yR (cp_a pa 0) (cp_a pa 1) (cp_a pa 2) (cp_a pa 3) (cp_a pa 4) (cp_a pa 5) (cp_a pa 6) (cp_a pa 7) (cp_a pa 8) (cp_a pa 9) (cp_a pa 10) (cp_a pa 11) mp (cp_sp su 0) (cp_sp su 1) ss ns := by
  unfold wY_validate_446
  refine y_buildS hi hN hT (fun ss hS => br_c (fun s0 => ?_) (fun s0 => ?_))
  · have hs := hsf.mp s0
    have h' := h ss hS
    rw [cp_nxe (c := e)] at h'
    have k := y_dc (P := fun e => J (cp_lm e (pa (12 * i + 7))) (cp_nx (pa (12 * i)) (pa (12 * i + 1)) p (pa (12 * i + 8))) (cp_nx (pa (12 * i)) (pa (12 * i + 1)) a (pa (12 * i + 9))) m (nI (i + 1)) cap cnt anc up fl ys yf yF yR (cp_a pa 0) (cp_a pa 1) (cp_a pa 2) (cp_a pa 3) (cp_a pa 4) (cp_a pa 5) (cp_a pa 6) (cp_a pa 7) (cp_a pa 8) (cp_a pa 9) (cp_a pa 10) (cp_a pa 11) mp (cp_sp su 0) (cp_sp su 1) ss ns) hs h'
    exact ⟨fun c => y_466 hi hs (k.1 c), fun c => nm_r (y_m1 _) (y_466 hi hs (k.2 c))⟩
  · have hs : cp_self pa i := Classical.byContradiction fun c => s0 (hsf.mpr c)
    have h' := h ss hS
    rw [cp_nxe, cp_nxe, cp_nxe, y_dcs hs, y_dcs hs, y_dcs hs] at h'
    exact y_482 hi h'
theorem y_fail {post : Int32 → SY → Prop} {s x : Int32} (h : post s (cap, cnt, anc, up, fl, s, x, 0, 0, (cp_a pa 0), (cp_a pa 1), (cp_a pa 2), (cp_a pa 3), (cp_a pa 4), (cp_a pa 5), (cp_a pa 6), (cp_a pa 7), (cp_a pa 8), (cp_a pa 9), (cp_a pa 10), (cp_a pa 11), mp, (cp_sp su 0), (cp_sp su 1), ss, ns)) : wpY_fail post (cap, cnt, anc, up, fl, ys, yf, yF, yR, (cp_a pa 0), (cp_a pa 1), (cp_a pa 2), (cp_a pa 3), (cp_a pa 4), (cp_a pa 5), (cp_a pa 6), (cp_a pa 7), (cp_a pa 8), (cp_a pa 9), (cp_a pa 10), (cp_a pa 11), mp, (cp_sp su 0), (cp_sp su 1), ss, ns) s x := h
theorem y_413 {post : Int32 → SY → Prop} {J : (Int32 → Int32 → Int32 → Int32 → Int32 → Int32 → Int32 → Int32 → Int32 → Int32 → Int32 → Int32 → Int32 → Int32 → (Nat → Int32) → (Nat → Int32) → (Nat → Int32) → (Nat → Int32) → (Nat → Int32) → (Nat → Int32) → (Nat → Int32) → (Nat → Int32) → (Nat → Int32) → (Nat → Int32) → (Nat → Int32) → (Nat → Int32) → (Nat → Int32) → (Nat → Int32) → (Nat → Int32) → (Nat → Int32) → (Nat → Int32) → Prop)} {x1 x2 e p a m sf : Int32} {i : Nat} (hi : i < 8) (hsf : sf = 0 ↔ ¬ cp_self pa i) {N : Nat → Nat → Prop} (hN : cy_R ns N) (hT : ∀ j, cp_T (mp j))
    (h : ((¬ pa (12 * i + 4) &&& 2 = 0 ∧ pa (12 * i + 4) &&& 4 = 0) → post 8 (cap, cnt, anc, up, fl, 8, (nI i), 0, 0, (cp_a pa 0), (cp_a pa 1), (cp_a pa 2), (cp_a pa 3), (cp_a pa 4), (cp_a pa 5), (cp_a pa 6), (cp_a pa 7), (cp_a pa 8), (cp_a pa 9), (cp_a pa 10), (cp_a pa 11), mp, (cp_sp su 0), (cp_sp su 1), ss, ns)) ∧ (¬ (¬ pa (12 * i + 4) &&& 2 = 0 ∧ pa (12 * i + 4) &&& 4 = 0) →
      ∀ ss, cy_R ss (cp_S N p (fun v => mp (16 * i + v))) → J (cp_nx (pa (12 * i)) (pa (12 * i + 1)) e (pa (12 * i + 7))) (cp_nx (pa (12 * i)) (pa (12 * i + 1)) p (pa (12 * i + 8))) (cp_nx (pa (12 * i)) (pa (12 * i + 1)) a (pa (12 * i + 9))) m (nI (i + 1)) cap cnt anc up fl ys yf yF yR (cp_a pa 0) (cp_a pa 1) (cp_a pa 2) (cp_a pa 3) (cp_a pa 4) (cp_a pa 5) (cp_a pa 6) (cp_a pa 7) (cp_a pa 8) (cp_a pa 9) (cp_a pa 10) (cp_a pa 11) mp (cp_sp su 0) (cp_sp su 1) ss ns)) :
    wY_validate_413 post J x1 x2 e p a m (nI i) sf cap cnt anc up fl ys yf yF yR (cp_a pa 0) (cp_a pa 1) (cp_a pa 2) (cp_a pa 3) (cp_a pa 4) (cp_a pa 5) (cp_a pa 6) (cp_a pa 7) (cp_a pa 8) (cp_a pa 9) (cp_a pa 10) (cp_a pa 11) mp (cp_sp su 0) (cp_sp su 1) ss ns := by
  unfold wY_validate_413
  rw [nI_clamp (by omega)]
  have v : vp_in (nI i) 8 := vp_in_nI (by omega) (by omega)
  exact ⟨v, fun c => y_446 hi hsf hN hT (h.2 (fun q => q.1 c)), fun c => ⟨v, fun d => y_fail (h.1 ⟨c, d⟩), fun d => y_446 hi hsf hN hT (h.2 (fun q => d q.2))⟩⟩
theorem y_382 {post : Int32 → SY → Prop} {J : (Int32 → Int32 → Int32 → Int32 → Int32 → Int32 → Int32 → Int32 → Int32 → Int32 → Int32 → Int32 → Int32 → Int32 → (Nat → Int32) → (Nat → Int32) → (Nat → Int32) → (Nat → Int32) → (Nat → Int32) → (Nat → Int32) → (Nat → Int32) → (Nat → Int32) → (Nat → Int32) → (Nat → Int32) → (Nat → Int32) → (Nat → Int32) → (Nat → Int32) → (Nat → Int32) → (Nat → Int32) → (Nat → Int32) → (Nat → Int32) → Prop)} {x1 x2 e p a m sf : Int32} {i : Nat} (hi : i < 8) (hsf : sf = 0 ↔ ¬ cp_self pa i) {N : Nat → Nat → Prop} (hN : cy_R ns N) (hT : ∀ j, cp_T (mp j))
    (h : ((¬ pa (12 * i + 4) &&& 2 = 0 ∧ pa (12 * i + 4) &&& 4 = 0) → post 8 (cap, cnt, anc, up, fl, 8, (nI i), 0, 0, (cp_a pa 0), (cp_a pa 1), (cp_a pa 2), (cp_a pa 3), (cp_a pa 4), (cp_a pa 5), (cp_a pa 6), (cp_a pa 7), (cp_a pa 8), (cp_a pa 9), (cp_a pa 10), (cp_a pa 11), mp, (cp_sp su 0), (cp_sp su 1), ss, ns)) ∧ (¬ (¬ pa (12 * i + 4) &&& 2 = 0 ∧ pa (12 * i + 4) &&& 4 = 0) →
      ∀ ss, cy_R ss (cp_S N p (fun v => mp (16 * i + v))) → J (cp_nx (pa (12 * i)) (pa (12 * i + 1)) e (pa (12 * i + 7))) (cp_nx (pa (12 * i)) (pa (12 * i + 1)) p (pa (12 * i + 8))) (cp_nx (pa (12 * i)) (pa (12 * i + 1)) a (pa (12 * i + 9))) (cp_lm m (pa (12 * i + 5))) (nI (i + 1)) cap cnt anc up fl ys yf yF yR (cp_a pa 0) (cp_a pa 1) (cp_a pa 2) (cp_a pa 3) (cp_a pa 4) (cp_a pa 5) (cp_a pa 6) (cp_a pa 7) (cp_a pa 8) (cp_a pa 9) (cp_a pa 10) (cp_a pa 11) mp (cp_sp su 0) (cp_sp su 1) ss ns)) :
    wY_validate_382 post J x1 x2 e p a m (nI i) sf cap cnt anc up fl ys yf yF yR (cp_a pa 0) (cp_a pa 1) (cp_a pa 2) (cp_a pa 3) (cp_a pa 4) (cp_a pa 5) (cp_a pa 6) (cp_a pa 7) (cp_a pa 8) (cp_a pa 9) (cp_a pa 10) (cp_a pa 11) mp (cp_sp su 0) (cp_sp su 1) ss ns := by
  unfold wY_validate_382
  rw [nI_clamp (by omega)]
  have v : vp_in (nI i) 8 := vp_in_nI (by omega) (by omega)
  have k := y_lm (P := fun m => ((¬ pa (12 * i + 4) &&& 2 = 0 ∧ pa (12 * i + 4) &&& 4 = 0) → post 8 (cap, cnt, anc, up, fl, 8, (nI i), 0, 0, (cp_a pa 0), (cp_a pa 1), (cp_a pa 2), (cp_a pa 3), (cp_a pa 4), (cp_a pa 5), (cp_a pa 6), (cp_a pa 7), (cp_a pa 8), (cp_a pa 9), (cp_a pa 10), (cp_a pa 11), mp, (cp_sp su 0), (cp_sp su 1), ss, ns)) ∧ (¬ (¬ pa (12 * i + 4) &&& 2 = 0 ∧ pa (12 * i + 4) &&& 4 = 0) →
      ∀ ss, cy_R ss (cp_S N p (fun v => mp (16 * i + v))) → J (cp_nx (pa (12 * i)) (pa (12 * i + 1)) e (pa (12 * i + 7))) (cp_nx (pa (12 * i)) (pa (12 * i + 1)) p (pa (12 * i + 8))) (cp_nx (pa (12 * i)) (pa (12 * i + 1)) a (pa (12 * i + 9))) m (nI (i + 1)) cap cnt anc up fl ys yf yF yR (cp_a pa 0) (cp_a pa 1) (cp_a pa 2) (cp_a pa 3) (cp_a pa 4) (cp_a pa 5) (cp_a pa 6) (cp_a pa 7) (cp_a pa 8) (cp_a pa 9) (cp_a pa 10) (cp_a pa 11) mp (cp_sp su 0) (cp_sp su 1) ss ns)) h
  exact ⟨v, fun c => y_413 hi hsf hN hT (k.1 c), fun c => ⟨v, fun d => y_413 hi hsf hN hT ((k.2 c).1 d), fun d => ⟨v, nm_e (y_413 hi hsf hN hT ((k.2 c).2 d))⟩⟩⟩
theorem y_pos {x : Int32} (h : 0 ≤ x) (hn : ¬ x = 0) : 0 < x := by
  obtain ⟨j, hj, rfl⟩ := nI_of (x := x) (Int32.not_lt.mpr h)
  have : 0 < j := by
    rcases Nat.eq_zero_or_pos j with e | e
    · subst e; exact absurd rfl hn
    · exact e
  exact nI_lt this hj
theorem y_371 {post : Int32 → SY → Prop} {J : (Int32 → Int32 → Int32 → Int32 → Int32 → Int32 → Int32 → Int32 → Int32 → Int32 → Int32 → Int32 → Int32 → Int32 → (Nat → Int32) → (Nat → Int32) → (Nat → Int32) → (Nat → Int32) → (Nat → Int32) → (Nat → Int32) → (Nat → Int32) → (Nat → Int32) → (Nat → Int32) → (Nat → Int32) → (Nat → Int32) → (Nat → Int32) → (Nat → Int32) → (Nat → Int32) → (Nat → Int32) → (Nat → Int32) → (Nat → Int32) → Prop)} {x1 x2 e p a m sf : Int32} {i : Nat} (hi : i < 8) (hsf : sf = 0 ↔ ¬ cp_self pa i) (hm : 0 ≤ m) (hm2 : ¬ (¬ cp_self pa i ∧ m = 0)) {N : Nat → Nat → Prop} (hN : cy_R ns N) (hT : ∀ j, cp_T (mp j))
    (h : ((¬ pa (12 * i + 4) &&& 2 = 0 ∧ pa (12 * i + 4) &&& 4 = 0) → post 8 (cap, cnt, anc, up, fl, 8, (nI i), 0, 0, (cp_a pa 0), (cp_a pa 1), (cp_a pa 2), (cp_a pa 3), (cp_a pa 4), (cp_a pa 5), (cp_a pa 6), (cp_a pa 7), (cp_a pa 8), (cp_a pa 9), (cp_a pa 10), (cp_a pa 11), mp, (cp_sp su 0), (cp_sp su 1), ss, ns)) ∧ (¬ (¬ pa (12 * i + 4) &&& 2 = 0 ∧ pa (12 * i + 4) &&& 4 = 0) →
      ∀ ss, cy_R ss (cp_S N p (fun v => mp (16 * i + v))) → J (cp_nx (pa (12 * i)) (pa (12 * i + 1)) e (pa (12 * i + 7))) (cp_nx (pa (12 * i)) (pa (12 * i + 1)) p (pa (12 * i + 8))) (cp_nx (pa (12 * i)) (pa (12 * i + 1)) a (pa (12 * i + 9))) (cp_nx (pa (12 * i)) (pa (12 * i + 1)) m (pa (12 * i + 5))) (nI (i + 1)) cap cnt anc up fl ys yf yF yR (cp_a pa 0) (cp_a pa 1) (cp_a pa 2) (cp_a pa 3) (cp_a pa 4) (cp_a pa 5) (cp_a pa 6) (cp_a pa 7) (cp_a pa 8) (cp_a pa 9) (cp_a pa 10) (cp_a pa 11) mp (cp_sp su 0) (cp_sp su 1) ss ns)) :
    wY_validate_371 post J x1 x2 e p a m (nI i) sf cap cnt anc up fl ys yf yF yR (cp_a pa 0) (cp_a pa 1) (cp_a pa 2) (cp_a pa 3) (cp_a pa 4) (cp_a pa 5) (cp_a pa 6) (cp_a pa 7) (cp_a pa 8) (cp_a pa 9) (cp_a pa 10) (cp_a pa 11) mp (cp_sp su 0) (cp_sp su 1) ss ns := by
  unfold wY_validate_371
  rw [cp_nxe (c := m)] at h
  refine br_c (fun s0 => nm_e ?_) (fun s0 => ?_)
  · have hs := hsf.mp s0
    have e1 : cp_dc (pa (12 * i)) (pa (12 * i + 1)) m = m - 1 := if_pos ⟨y_pos hm (fun q => hm2 ⟨hs, q⟩), hs⟩
    rw [e1] at h
    exact y_382 hi hsf hN hT h
  · have hs : cp_self pa i := Classical.byContradiction fun c => s0 (hsf.mpr c)
    rw [y_dcs hs] at h
    exact y_382 hi hsf hN hT h
theorem y_688 {post : Int32 → SY → Prop} {n : Nat} (hn : 1 ≤ n) {x3 R F : Int32} {Q : Prop} (hQ : x3 = 0 ↔ Q)
    (h : (Q ∧ F = 0 → post 5 (cap, cnt, anc, up, fl, 5, (nI (n - 1)), 0, 0, (cp_a pa 0), (cp_a pa 1), (cp_a pa 2), (cp_a pa 3), (cp_a pa 4), (cp_a pa 5), (cp_a pa 6), (cp_a pa 7), (cp_a pa 8), (cp_a pa 9), (cp_a pa 10), (cp_a pa 11), mp, (cp_sp su 0), (cp_sp su 1), ss, ns)) ∧ (¬ (Q ∧ F = 0) → post 0 (cap, cnt, anc, up, fl, 0, (-1), F, R, (cp_a pa 0), (cp_a pa 1), (cp_a pa 2), (cp_a pa 3), (cp_a pa 4), (cp_a pa 5), (cp_a pa 6), (cp_a pa 7), (cp_a pa 8), (cp_a pa 9), (cp_a pa 10), (cp_a pa 11), mp, (cp_sp su 0), (cp_sp su 1), ss, ns))) : wY_validate_688 post (nI n) x3 R F cap cnt anc up fl ys yf yF yR (cp_a pa 0) (cp_a pa 1) (cp_a pa 2) (cp_a pa 3) (cp_a pa 4) (cp_a pa 5) (cp_a pa 6) (cp_a pa 7) (cp_a pa 8) (cp_a pa 9) (cp_a pa 10) (cp_a pa 11) mp (cp_sp su 0) (cp_sp su 1) ss ns := by
  unfold wY_validate_688
  have e : nI n - 1 = nI (n - 1) := by
    obtain ⟨m, rfl⟩ : ∃ m, n = m + 1 := ⟨n - 1, by omega⟩
    exact nI_pred m
  rw [e]
  exact br_c (fun a => br_c (fun b => y_fail (h.1 ⟨hQ.mp a, b⟩)) (fun b => h.2 (fun q => b q.2))) (fun a => h.2 (fun q => a (hQ.mpr q.1)))
theorem y_606 {post : Int32 → SY → Prop} {n : Nat} (hn : 1 ≤ n) {x3 : Int32} {Q : Prop} (hQ : x3 = 0 ↔ Q) {N : Nat → Nat → Prop} (hN : cy_R ns N)
    (h : ∀ R, cp_R N R → (Q ∧ cp_F up R = 0 → post 5 (cap, cnt, anc, up, fl, 5, (nI (n - 1)), 0, 0, (cp_a pa 0), (cp_a pa 1), (cp_a pa 2), (cp_a pa 3), (cp_a pa 4), (cp_a pa 5), (cp_a pa 6), (cp_a pa 7), (cp_a pa 8), (cp_a pa 9), (cp_a pa 10), (cp_a pa 11), mp, (cp_sp su 0), (cp_sp su 1), ss, ns)) ∧ (¬ (Q ∧ cp_F up R = 0) → post 0 (cap, cnt, anc, up, fl, 0, (-1), (cp_F up R), R, (cp_a pa 0), (cp_a pa 1), (cp_a pa 2), (cp_a pa 3), (cp_a pa 4), (cp_a pa 5), (cp_a pa 6), (cp_a pa 7), (cp_a pa 8), (cp_a pa 9), (cp_a pa 10), (cp_a pa 11), mp, (cp_sp su 0), (cp_sp su 1), ss, ns))) :
    ∀ (d k : Nat) (R : Int32), k + d = 256 → cy_m ns k R → wY_validate_606 post (nI n) x3 cap cnt anc up fl ys yf yF yR (cp_a pa 0) (cp_a pa 1) (cp_a pa 2) (cp_a pa 3) (cp_a pa 4) (cp_a pa 5) (cp_a pa 6) (cp_a pa 7) (cp_a pa 8) (cp_a pa 9) (cp_a pa 10) (cp_a pa 11) mp (cp_sp su 0) (cp_sp su 1) ss ns (d + 1) R (nI k) := by
  intro d
  induction d with
  | zero =>
    intro k R hk H
    obtain rfl : k = 256 := by omega
    have h' := h R (cy_mR H hN)
    unfold cp_F at h'
    refine br_t (by decide) (y_bit (b := 0) (by omega) (fun u1 => br_f (by decide) ?_) (fun u0 => br_t rfl (y_bit (b := 0) (by omega) (fun r1 => br_f (by decide) (nm_e ?_)) (fun r0 => br_t rfl (nm_e ?_)))))
    · rw [if_neg (fun q => by rw [(cq_b0 _).mp q] at u1; exact absurd u1 (by decide))] at h'
      exact y_688 hn hQ h'
    · rw [if_pos ((cq_b0 _).mpr u0), if_neg (fun q => by rw [(cq_b0 _).mp q] at r1; exact absurd r1 (by decide))] at h'
      exact y_688 hn hQ h'
    · rw [if_pos ((cq_b0 _).mpr u0), if_pos ((cq_b0 _).mpr r0)] at h'
      exact y_688 hn hQ h'
  | succ d ih =>
    intro k R hk H
    refine br_f (nI_ge (b := 256) (by omega) (by decide)) ⟨vp_in_nI (by omega) (by omega), ?_⟩
    rw [nI_clamp (by omega), y_s4 (by omega)]
    exact br_c (fun hz => nm_r (nI_1 k) (ih (k + 1) R (by omega) (cy_mz H hz))) (fun hz => nm_e (nm_r (nI_1 k) (ih (k + 1) _ (by omega) (cy_ms (by omega) H hz))))
theorem y_579 {post : Int32 → SY → Prop} {n : Nat} (h1 : 1 ≤ n) (hn : n ≤ 8) {e : Int32} (he : 0 ≤ e) {N : Nat → Nat → Prop} (hN : cy_R ns N)
    (h : cp_W pa up n (fun s x F R => post s (cap, cnt, anc, up, fl, s, x, F, R, (cp_a pa 0), (cp_a pa 1), (cp_a pa 2), (cp_a pa 3), (cp_a pa 4), (cp_a pa 5), (cp_a pa 6), (cp_a pa 7), (cp_a pa 8), (cp_a pa 9), (cp_a pa 10), (cp_a pa 11), mp, (cp_sp su 0), (cp_sp su 1), ss, ns)) e N) : wY_validate_579 post (nI n) e cap cnt anc up fl ys yf yF yR (cp_a pa 0) (cp_a pa 1) (cp_a pa 2) (cp_a pa 3) (cp_a pa 4) (cp_a pa 5) (cp_a pa 6) (cp_a pa 7) (cp_a pa 8) (cp_a pa 9) (cp_a pa 10) (cp_a pa 11) mp (cp_sp su 0) (cp_sp su 1) ss ns := by
  have e1 : nI n - 1 = nI (n - 1) := by
    obtain ⟨m, rfl⟩ : ∃ m, n = m + 1 := ⟨n - 1, by omega⟩
    exact nI_pred m
  have key : ∀ x : Int32, (x = 0 ↔ e ≤ 1) → wY_validate_587 post (nI n) x cap cnt anc up fl ys yf yF yR (cp_a pa 0) (cp_a pa 1) (cp_a pa 2) (cp_a pa 3) (cp_a pa 4) (cp_a pa 5) (cp_a pa 6) (cp_a pa 7) (cp_a pa 8) (cp_a pa 9) (cp_a pa 10) (cp_a pa 11) mp (cp_sp su 0) (cp_sp su 1) ss ns := by
    intro x hx
    unfold wY_validate_587
    rw [e1, nI_clamp (by omega)]
    refine ⟨vp_in_nI (by omega) (by omega), br_c (fun r0 => ⟨257, ?_⟩) (fun r0 => ⟨257, ?_⟩)⟩
    · exact y_606 (Q := e ≤ 1 ∨ pa (12 * (n - 1) + 7) = 0) h1 ⟨fun _ => Or.inr r0, fun _ => rfl⟩ hN h 256 0 0 rfl cy_m0
    · exact y_606 (Q := e ≤ 1 ∨ pa (12 * (n - 1) + 7) = 0) h1 ⟨fun q => Or.inl (hx.mp q), fun q => q.elim hx.mpr (fun z => absurd z r0)⟩ hN h 256 0 0 rfl cy_m0
  unfold wY_validate_579
  obtain ⟨j, hj, rfl⟩ := nI_of (x := e) (Int32.not_lt.mpr he)
  refine pk_le j 0 (fun a => key _ ?_) (fun a => nm_e (key _ ?_))
  · obtain rfl : j = 0 := by omega
    exact ⟨fun _ => by decide, fun _ => rfl⟩
  · obtain ⟨m, rfl⟩ : ∃ m, j = m + 1 := ⟨j - 1, by omega⟩
    rw [nI_pred]
    have a1 : nI m = 0 ↔ m = 0 := nI_eq (b := 0) (by omega) (by omega)
    have a2 : nI (m + 1) ≤ 1 ↔ m + 1 ≤ 1 := nI_leI (b := 1) (by omega) (by omega)
    rw [a1, a2]
    omega
theorem y_323 {post : Int32 → SY → Prop} {J : (Int32 → Int32 → Int32 → Int32 → Int32 → Int32 → Int32 → Int32 → Int32 → Int32 → Int32 → Int32 → Int32 → Int32 → (Nat → Int32) → (Nat → Int32) → (Nat → Int32) → (Nat → Int32) → (Nat → Int32) → (Nat → Int32) → (Nat → Int32) → (Nat → Int32) → (Nat → Int32) → (Nat → Int32) → (Nat → Int32) → (Nat → Int32) → (Nat → Int32) → (Nat → Int32) → (Nat → Int32) → (Nat → Int32) → (Nat → Int32) → Prop)} {x1 e p a m sf lt : Int32} {i n : Nat} (hi : i < n) (hn : n ≤ 8) (hsf : sf = 0 ↔ ¬ cp_self pa i) (hlt : lt = 0 ↔ i + 1 ≠ n) (he : 0 ≤ e) (hm : 0 ≤ m) {N : Nat → Nat → Prop} (hN : cy_R ns N) (hT : ∀ j, cp_T (mp j))
    (h : (i + 1 = n → cp_W pa up n (fun s x F R => post s (cap, cnt, anc, up, fl, s, x, F, R, (cp_a pa 0), (cp_a pa 1), (cp_a pa 2), (cp_a pa 3), (cp_a pa 4), (cp_a pa 5), (cp_a pa 6), (cp_a pa 7), (cp_a pa 8), (cp_a pa 9), (cp_a pa 10), (cp_a pa 11), mp, (cp_sp su 0), (cp_sp su 1), ss, ns)) e N) ∧ (¬ i + 1 = n →
      (pa (12 * i + 4) &&& 1 = 0 → post 6 (cap, cnt, anc, up, fl, 6, (nI i), 0, 0, (cp_a pa 0), (cp_a pa 1), (cp_a pa 2), (cp_a pa 3), (cp_a pa 4), (cp_a pa 5), (cp_a pa 6), (cp_a pa 7), (cp_a pa 8), (cp_a pa 9), (cp_a pa 10), (cp_a pa 11), mp, (cp_sp su 0), (cp_sp su 1), ss, ns)) ∧ (¬ pa (12 * i + 4) &&& 1 = 0 →
      ((¬ cp_self pa i ∧ m = 0) → post 7 (cap, cnt, anc, up, fl, 7, (nI i), 0, 0, (cp_a pa 0), (cp_a pa 1), (cp_a pa 2), (cp_a pa 3), (cp_a pa 4), (cp_a pa 5), (cp_a pa 6), (cp_a pa 7), (cp_a pa 8), (cp_a pa 9), (cp_a pa 10), (cp_a pa 11), mp, (cp_sp su 0), (cp_sp su 1), ss, ns)) ∧ (¬ (¬ cp_self pa i ∧ m = 0) →
      ((¬ pa (12 * i + 4) &&& 2 = 0 ∧ pa (12 * i + 4) &&& 4 = 0) → post 8 (cap, cnt, anc, up, fl, 8, (nI i), 0, 0, (cp_a pa 0), (cp_a pa 1), (cp_a pa 2), (cp_a pa 3), (cp_a pa 4), (cp_a pa 5), (cp_a pa 6), (cp_a pa 7), (cp_a pa 8), (cp_a pa 9), (cp_a pa 10), (cp_a pa 11), mp, (cp_sp su 0), (cp_sp su 1), ss, ns)) ∧ (¬ (¬ pa (12 * i + 4) &&& 2 = 0 ∧ pa (12 * i + 4) &&& 4 = 0) →
      ∀ ss, cy_R ss (cp_S N p (fun v => mp (16 * i + v))) → J (cp_nx (pa (12 * i)) (pa (12 * i + 1)) e (pa (12 * i + 7))) (cp_nx (pa (12 * i)) (pa (12 * i + 1)) p (pa (12 * i + 8))) (cp_nx (pa (12 * i)) (pa (12 * i + 1)) a (pa (12 * i + 9))) (cp_nx (pa (12 * i)) (pa (12 * i + 1)) m (pa (12 * i + 5))) (nI (i + 1)) cap cnt anc up fl ys yf yF yR (cp_a pa 0) (cp_a pa 1) (cp_a pa 2) (cp_a pa 3) (cp_a pa 4) (cp_a pa 5) (cp_a pa 6) (cp_a pa 7) (cp_a pa 8) (cp_a pa 9) (cp_a pa 10) (cp_a pa 11) mp (cp_sp su 0) (cp_sp su 1) ss ns))))) :
    wY_validate_323 post J x1 (nI n) e p a m (nI i) sf lt cap cnt anc up fl ys yf yF yR (cp_a pa 0) (cp_a pa 1) (cp_a pa 2) (cp_a pa 3) (cp_a pa 4) (cp_a pa 5) (cp_a pa 6) (cp_a pa 7) (cp_a pa 8) (cp_a pa 9) (cp_a pa 10) (cp_a pa 11) mp (cp_sp su 0) (cp_sp su 1) ss ns := by
  unfold wY_validate_323
  rw [nI_clamp (by omega)]
  have v : vp_in (nI i) 8 := vp_in_nI (by omega) (by omega)
  refine br_c (fun l0 => ⟨v, ?_⟩) (fun l0 => ?_)
  · have h' := h.2 (hlt.mp l0)
    refine br_c (fun c6 => y_fail (h'.1 c6)) (fun c6 => br_c (fun s0 => br_c (fun m0 => y_fail ((h'.2 c6).1 ⟨hsf.mp s0, m0⟩)) (fun m0 => ?_)) (fun s0 => ?_))
    · have c7 : ¬ (¬ cp_self pa i ∧ m = 0) := fun q => m0 q.2
      exact y_371 (by omega) hsf hm c7 hN hT ((h'.2 c6).2 c7)
    · have c7 : ¬ (¬ cp_self pa i ∧ m = 0) := fun q => s0 (hsf.mpr q.1)
      exact y_371 (by omega) hsf hm c7 hN hT ((h'.2 c6).2 c7)
  · exact y_579 (by omega) hn he hN (h.1 (Classical.byContradiction fun c => l0 (hlt.mpr c)))
end YW
end
section
section YV
variable {cap cnt anc up fl ys yf yF yR : Int32} {pa mp su ss ns : Nat → Int32}
theorem y_290 {post : Int32 → SY → Prop} {J : (Int32 → Int32 → Int32 → Int32 → Int32 → Int32 → Int32 → Int32 → Int32 → Int32 → Int32 → Int32 → Int32 → Int32 → (Nat → Int32) → (Nat → Int32) → (Nat → Int32) → (Nat → Int32) → (Nat → Int32) → (Nat → Int32) → (Nat → Int32) → (Nat → Int32) → (Nat → Int32) → (Nat → Int32) → (Nat → Int32) → (Nat → Int32) → (Nat → Int32) → (Nat → Int32) → (Nat → Int32) → (Nat → Int32) → (Nat → Int32) → Prop)} {x1 x2 e p a m sf lt z : Int32} {i n : Nat} (hi : i < 8) (hz : z = 0 ↔ ¬ cp_an pa n a i) (hlt : lt = 0 ↔ i + 1 ≠ n) {S : Nat → Nat → Prop} (hZ : cp_Z S) (hS : cy_R ss S)
    (h : ∀ ns, cy_R ns (cp_NN pa mp n i p a S) → ((e = 0 ∧ cp_em (cp_NN pa mp n i p a S)) → post 5 (cap, cnt, anc, up, fl, 5, (nI i), 0, 0, (cp_a pa 0), (cp_a pa 1), (cp_a pa 2), (cp_a pa 3), (cp_a pa 4), (cp_a pa 5), (cp_a pa 6), (cp_a pa 7), (cp_a pa 8), (cp_a pa 9), (cp_a pa 10), (cp_a pa 11), mp, (cp_sp su 0), (cp_sp su 1), ss, ns)) ∧ (¬ (e = 0 ∧ cp_em (cp_NN pa mp n i p a S)) → wY_validate_323 post J x1 x2 e p a m (nI i) sf lt cap cnt anc up fl ys yf yF yR (cp_a pa 0) (cp_a pa 1) (cp_a pa 2) (cp_a pa 3) (cp_a pa 4) (cp_a pa 5) (cp_a pa 6) (cp_a pa 7) (cp_a pa 8) (cp_a pa 9) (cp_a pa 10) (cp_a pa 11) mp (cp_sp su 0) (cp_sp su 1) ss ns)) :
    wY_validate_290 post J x1 x2 e p a m (nI i) sf lt z cap cnt anc up fl ys yf yF yR (cp_a pa 0) (cp_a pa 1) (cp_a pa 2) (cp_a pa 3) (cp_a pa 4) (cp_a pa 5) (cp_a pa 6) (cp_a pa 7) (cp_a pa 8) (cp_a pa 9) (cp_a pa 10) (cp_a pa 11) mp (cp_sp su 0) (cp_sp su 1) ss ns := by
  unfold wY_validate_290
  exact y_buildN hi hz hlt hZ hS (fun ns hN hm => br_c (fun e0 => br_f (by decide) ((h ns hN).2 (fun q => hm q.2))) (fun e0 => (h ns hN).2 (fun q => e0 q.1))) (fun ns hN hm => br_c (fun e0 => br_t rfl (y_fail ((h ns hN).1 ⟨e0, hm⟩))) (fun e0 => (h ns hN).2 (fun q => e0 q.1)))
theorem y_255 {post : Int32 → SY → Prop} {J : (Int32 → Int32 → Int32 → Int32 → Int32 → Int32 → Int32 → Int32 → Int32 → Int32 → Int32 → Int32 → Int32 → Int32 → (Nat → Int32) → (Nat → Int32) → (Nat → Int32) → (Nat → Int32) → (Nat → Int32) → (Nat → Int32) → (Nat → Int32) → (Nat → Int32) → (Nat → Int32) → (Nat → Int32) → (Nat → Int32) → (Nat → Int32) → (Nat → Int32) → (Nat → Int32) → (Nat → Int32) → (Nat → Int32) → (Nat → Int32) → Prop)} {x1 x2 e p a m sf lt : Int32} {i n : Nat} (hi : i < 8) (hsf : sf = 0 ↔ ¬ cp_self pa i) (hlt : lt = 0 ↔ i + 1 ≠ n) {S : Nat → Nat → Prop} (hZ : cp_Z S) (hS : cy_R ss S)
    (h : ∀ ns, cy_R ns (cp_NN pa mp n i p a S) → ((e = 0 ∧ cp_em (cp_NN pa mp n i p a S)) → post 5 (cap, cnt, anc, up, fl, 5, (nI i), 0, 0, (cp_a pa 0), (cp_a pa 1), (cp_a pa 2), (cp_a pa 3), (cp_a pa 4), (cp_a pa 5), (cp_a pa 6), (cp_a pa 7), (cp_a pa 8), (cp_a pa 9), (cp_a pa 10), (cp_a pa 11), mp, (cp_sp su 0), (cp_sp su 1), ss, ns)) ∧ (¬ (e = 0 ∧ cp_em (cp_NN pa mp n i p a S)) → wY_validate_323 post J x1 x2 e p a m (nI i) sf lt cap cnt anc up fl ys yf yF yR (cp_a pa 0) (cp_a pa 1) (cp_a pa 2) (cp_a pa 3) (cp_a pa 4) (cp_a pa 5) (cp_a pa 6) (cp_a pa 7) (cp_a pa 8) (cp_a pa 9) (cp_a pa 10) (cp_a pa 11) mp (cp_sp su 0) (cp_sp su 1) ss ns)) :
    wY_validate_255 post J x1 x2 e p a m (nI i) sf lt cap cnt anc up fl ys yf yF yR (cp_a pa 0) (cp_a pa 1) (cp_a pa 2) (cp_a pa 3) (cp_a pa 4) (cp_a pa 5) (cp_a pa 6) (cp_a pa 7) (cp_a pa 8) (cp_a pa 9) (cp_a pa 10) (cp_a pa 11) mp (cp_sp su 0) (cp_sp su 1) ss ns := by
  unfold wY_validate_255
  rw [nI_clamp (by omega)]
  refine ⟨vp_in_nI (by omega) (by omega), y_bit (b := 0) (by omega) (fun hb => br_f (by decide) (br_c (fun a0 => ?_) (fun a0 => br_c (fun s0 => ?_) (fun s0 => br_c (fun l0 => ?_) (fun l0 => ?_))))) (fun hb => br_t rfl ?_)⟩
  · exact y_290 hi ⟨fun q => absurd q (by decide), fun q => absurd ⟨hb, Or.inl a0⟩ q⟩ hlt hZ hS h
  · exact y_290 hi ⟨fun _ q => q.2.elim a0 (fun w => hsf.mp s0 w.1), fun _ => rfl⟩ hlt hZ hS h
  · exact y_290 hi ⟨fun q => absurd q (by decide), fun q => absurd ⟨hb, Or.inr ⟨Classical.byContradiction fun c => s0 (hsf.mpr c), hlt.mp l0⟩⟩ q⟩ hlt hZ hS h
  · exact y_290 hi ⟨fun _ q => q.2.elim a0 (fun w => l0 (hlt.mpr w.2)), fun _ => rfl⟩ hlt hZ hS h
  · refine y_290 hi ⟨fun _ q => ?_, fun _ => rfl⟩ hlt hZ hS h
    have q1 : bt (cp_a pa 6 i) 0 = true := q.1
    rw [hb] at q1
    exact absurd q1 (by decide)
theorem y_206 {post : Int32 → SY → Prop} {J : (Int32 → Int32 → Int32 → Int32 → Int32 → Int32 → Int32 → Int32 → Int32 → Int32 → Int32 → Int32 → Int32 → Int32 → (Nat → Int32) → (Nat → Int32) → (Nat → Int32) → (Nat → Int32) → (Nat → Int32) → (Nat → Int32) → (Nat → Int32) → (Nat → Int32) → (Nat → Int32) → (Nat → Int32) → (Nat → Int32) → (Nat → Int32) → (Nat → Int32) → (Nat → Int32) → (Nat → Int32) → (Nat → Int32) → (Nat → Int32) → Prop)} {x1 x2 e p a m sf lt w : Int32} {i n : Nat} (hi : i < 8) (hnm : ∀ c, cp_nm (pa (12 * c + 1))) (hsu : ∀ j, cp_nm (su j)) (hK : cp_K pa) (hw : w = cp_want pa anc i) (hsf : sf = 0 ↔ ¬ cp_self pa i) (hlt : lt = 0 ↔ i + 1 ≠ n) {S : Nat → Nat → Prop} (hZ : cp_Z S) (hS : cy_R ss S)
    (h : ((¬ pa (12 * i) = cp_want pa anc i) → post 3 (cap, cnt, anc, up, fl, 3, (nI i), 0, 0, (cp_a pa 0), (cp_a pa 1), (cp_a pa 2), (cp_a pa 3), (cp_a pa 4), (cp_a pa 5), (cp_a pa 6), (cp_a pa 7), (cp_a pa 8), (cp_a pa 9), (cp_a pa 10), (cp_a pa 11), mp, (cp_sp su 0), (cp_sp su 1), ss, ns)) ∧ (¬ (¬ pa (12 * i) = cp_want pa anc i) →
      ((¬ cp_ex pa n i ∧ cp_bad pa su i) → post 4 (cap, cnt, anc, up, fl, 4, (nI i), 0, 0, (cp_a pa 0), (cp_a pa 1), (cp_a pa 2), (cp_a pa 3), (cp_a pa 4), (cp_a pa 5), (cp_a pa 6), (cp_a pa 7), (cp_a pa 8), (cp_a pa 9), (cp_a pa 10), (cp_a pa 11), mp, (cp_sp su 0), (cp_sp su 1), ss, ns)) ∧ (¬ (¬ cp_ex pa n i ∧ cp_bad pa su i) →
      ∀ ns, cy_R ns (cp_NN pa mp n i p a S) → ((e = 0 ∧ cp_em (cp_NN pa mp n i p a S)) → post 5 (cap, cnt, anc, up, fl, 5, (nI i), 0, 0, (cp_a pa 0), (cp_a pa 1), (cp_a pa 2), (cp_a pa 3), (cp_a pa 4), (cp_a pa 5), (cp_a pa 6), (cp_a pa 7), (cp_a pa 8), (cp_a pa 9), (cp_a pa 10), (cp_a pa 11), mp, (cp_sp su 0), (cp_sp su 1), ss, ns)) ∧ (¬ (e = 0 ∧ cp_em (cp_NN pa mp n i p a S)) → wY_validate_323 post J x1 x2 e p a m (nI i) sf lt cap cnt anc up fl ys yf yF yR (cp_a pa 0) (cp_a pa 1) (cp_a pa 2) (cp_a pa 3) (cp_a pa 4) (cp_a pa 5) (cp_a pa 6) (cp_a pa 7) (cp_a pa 8) (cp_a pa 9) (cp_a pa 10) (cp_a pa 11) mp (cp_sp su 0) (cp_sp su 1) ss ns)))) :
    wY_validate_206 post J x1 x2 e p a m (nI i) sf lt w cap cnt anc up fl ys yf yF yR (cp_a pa 0) (cp_a pa 1) (cp_a pa 2) (cp_a pa 3) (cp_a pa 4) (cp_a pa 5) (cp_a pa 6) (cp_a pa 7) (cp_a pa 8) (cp_a pa 9) (cp_a pa 10) (cp_a pa 11) mp (cp_sp su 0) (cp_sp su 1) ss ns := by
  unfold wY_validate_206
  rw [nI_clamp (by omega)]
  subst hw
  refine ⟨vp_in_nI (by omega) (by omega), br_c (fun c2 => ?_) (fun c2 => y_fail (h.1 c2))⟩
  have h' := h.2 (fun q => q c2)
  have k238 : ¬ cp_ex pa n i → wY_validate_238 post J x1 x2 e p a m (nI i) sf lt cap cnt anc up fl ys yf yF yR (cp_a pa 0) (cp_a pa 1) (cp_a pa 2) (cp_a pa 3) (cp_a pa 4) (cp_a pa 5) (cp_a pa 6) (cp_a pa 7) (cp_a pa 8) (cp_a pa 9) (cp_a pa 10) (cp_a pa 11) mp (cp_sp su 0) (cp_sp su 1) ss ns := by
    intro hx
    unfold wY_validate_238
    exact y_ok hi hnm hsu hK (fun hb => br_t rfl (y_fail (h'.1 ⟨hx, hb⟩))) (fun hb => br_f (by decide) (y_255 hi hsf hlt hZ hS (h'.2 (fun q => hb q.2))))
  exact br_c (fun s0 => k238 (fun q => hsf.mp s0 q.1)) (fun s0 => br_c (fun l0 => y_255 hi hsf hlt hZ hS (h'.2 (fun q => q.1 ⟨Classical.byContradiction fun c => s0 (hsf.mpr c), hlt.mp l0⟩))) (fun l0 => k238 (fun q => l0 (hlt.mpr q.2))))
theorem y_153 {post : Int32 → SY → Prop} {J : (Int32 → Int32 → Int32 → Int32 → Int32 → Int32 → Int32 → Int32 → Int32 → Int32 → Int32 → Int32 → Int32 → Int32 → (Nat → Int32) → (Nat → Int32) → (Nat → Int32) → (Nat → Int32) → (Nat → Int32) → (Nat → Int32) → (Nat → Int32) → (Nat → Int32) → (Nat → Int32) → (Nat → Int32) → (Nat → Int32) → (Nat → Int32) → (Nat → Int32) → (Nat → Int32) → (Nat → Int32) → (Nat → Int32) → (Nat → Int32) → Prop)} {tm x2 e p a m sf lt : Int32} {i n : Nat} (hi : i < 8) (hnm : ∀ c, cp_nm (pa (12 * c + 1))) (hsu : ∀ j, cp_nm (su j)) (hK : cp_K pa) (hsf : sf = 0 ↔ ¬ cp_self pa i) (hlt : lt = 0 ↔ i + 1 ≠ n) {S : Nat → Nat → Prop} (hZ : cp_Z S) (hS : cy_R ss S)
    (h : ((tm < pa (12 * i + 2) ∨ pa (12 * i + 3) < tm) → post 2 (cap, cnt, anc, up, fl, 2, (nI i), 0, 0, (cp_a pa 0), (cp_a pa 1), (cp_a pa 2), (cp_a pa 3), (cp_a pa 4), (cp_a pa 5), (cp_a pa 6), (cp_a pa 7), (cp_a pa 8), (cp_a pa 9), (cp_a pa 10), (cp_a pa 11), mp, (cp_sp su 0), (cp_sp su 1), ss, ns)) ∧ (¬ (tm < pa (12 * i + 2) ∨ pa (12 * i + 3) < tm) →
      ((¬ pa (12 * i) = cp_want pa anc i) → post 3 (cap, cnt, anc, up, fl, 3, (nI i), 0, 0, (cp_a pa 0), (cp_a pa 1), (cp_a pa 2), (cp_a pa 3), (cp_a pa 4), (cp_a pa 5), (cp_a pa 6), (cp_a pa 7), (cp_a pa 8), (cp_a pa 9), (cp_a pa 10), (cp_a pa 11), mp, (cp_sp su 0), (cp_sp su 1), ss, ns)) ∧ (¬ (¬ pa (12 * i) = cp_want pa anc i) →
      ((¬ cp_ex pa n i ∧ cp_bad pa su i) → post 4 (cap, cnt, anc, up, fl, 4, (nI i), 0, 0, (cp_a pa 0), (cp_a pa 1), (cp_a pa 2), (cp_a pa 3), (cp_a pa 4), (cp_a pa 5), (cp_a pa 6), (cp_a pa 7), (cp_a pa 8), (cp_a pa 9), (cp_a pa 10), (cp_a pa 11), mp, (cp_sp su 0), (cp_sp su 1), ss, ns)) ∧ (¬ (¬ cp_ex pa n i ∧ cp_bad pa su i) →
      ∀ ns, cy_R ns (cp_NN pa mp n i p a S) → ((e = 0 ∧ cp_em (cp_NN pa mp n i p a S)) → post 5 (cap, cnt, anc, up, fl, 5, (nI i), 0, 0, (cp_a pa 0), (cp_a pa 1), (cp_a pa 2), (cp_a pa 3), (cp_a pa 4), (cp_a pa 5), (cp_a pa 6), (cp_a pa 7), (cp_a pa 8), (cp_a pa 9), (cp_a pa 10), (cp_a pa 11), mp, (cp_sp su 0), (cp_sp su 1), ss, ns)) ∧ (¬ (e = 0 ∧ cp_em (cp_NN pa mp n i p a S)) → wY_validate_323 post J tm x2 e p a m (nI i) sf lt cap cnt anc up fl ys yf yF yR (cp_a pa 0) (cp_a pa 1) (cp_a pa 2) (cp_a pa 3) (cp_a pa 4) (cp_a pa 5) (cp_a pa 6) (cp_a pa 7) (cp_a pa 8) (cp_a pa 9) (cp_a pa 10) (cp_a pa 11) mp (cp_sp su 0) (cp_sp su 1) ss ns))))) :
    wY_validate_153 post J tm x2 e p a m (nI i) sf lt cap cnt anc up fl ys yf yF yR (cp_a pa 0) (cp_a pa 1) (cp_a pa 2) (cp_a pa 3) (cp_a pa 4) (cp_a pa 5) (cp_a pa 6) (cp_a pa 7) (cp_a pa 8) (cp_a pa 9) (cp_a pa 10) (cp_a pa 11) mp (cp_sp su 0) (cp_sp su 1) ss ns := by
  unfold wY_validate_153
  rw [nI_clamp (by omega)]
  have v : vp_in (nI i) 8 := vp_in_nI (by omega) (by omega)
  refine ⟨v, br_c (fun c => y_fail (h.1 (Or.inl c))) (fun c => ⟨v, br_c (fun d => ?_) (fun d => y_fail (h.1 (Or.inr (Int32.not_le.mp d))))⟩)⟩
  have h' := h.2 (fun q => q.elim c (Int32.not_lt.mpr d))
  refine pk_eq i 0 (fun e0 => ?_) (fun e0 => ?_)
  · exact y_206 hi hnm hsu hK (by rw [e0]; rfl) hsf hlt hZ hS h'
  · obtain ⟨k, rfl⟩ : ∃ k, i = k + 1 := ⟨i - 1, by omega⟩
    rw [nI_pred, nI_clamp (by omega)]
    exact ⟨vp_in_nI (by omega) (by omega), y_206 hi hnm hsu hK rfl hsf hlt hZ hS h'⟩
theorem y_valL {post : Int32 → SY → Prop} {n : Nat} (hn : n ≤ 8) (hnm : ∀ c, cp_nm (pa (12 * c + 1))) (hsu : ∀ j, cp_nm (su j)) (hK : cp_K pa) (hT : ∀ j, cp_T (mp j)) {tm : Int32} :
    ∀ (d i : Nat) (e p a m : Int32) (ss ns : Nat → Int32) (S : Nat → Nat → Prop), i + d = n → 1 ≤ d → 0 ≤ e → 0 ≤ m → cp_Z S → cy_R ss S →
    cp_V pa mp su anc up tm n (fun s x F R => ∀ ss ns, post s (cap, cnt, anc, up, fl, s, x, F, R, (cp_a pa 0), (cp_a pa 1), (cp_a pa 2), (cp_a pa 3), (cp_a pa 4), (cp_a pa 5), (cp_a pa 6), (cp_a pa 7), (cp_a pa 8), (cp_a pa 9), (cp_a pa 10), (cp_a pa 11), mp, (cp_sp su 0), (cp_sp su 1), ss, ns)) d i e p a m S →
    wY_validate_110 post tm (nI n) (d + 1) e p a m (nI i) cap cnt anc up fl ys yf yF yR (cp_a pa 0) (cp_a pa 1) (cp_a pa 2) (cp_a pa 3) (cp_a pa 4) (cp_a pa 5) (cp_a pa 6) (cp_a pa 7) (cp_a pa 8) (cp_a pa 9) (cp_a pa 10) (cp_a pa 11) mp (cp_sp su 0) (cp_sp su 1) ss ns := by
  intro d
  induction d with
  | zero => intro i e p a m ss ns S h1 h2; omega
  | succ d ih =>
    intro i e p a m ss ns S h1 h2 he hm hZ hS hV
    unfold cp_V at hV
    have hi : i < 8 := by omega
    have v : vp_in (nI i) 8 := vp_in_nI (by omega) (by omega)
    have key : ∀ sf lt : Int32, (sf = 0 ↔ ¬ cp_self pa i) → (lt = 0 ↔ i + 1 ≠ n) → wY_validate_153 post (wY_validate_110 post tm (nI n) (d + 1)) tm (nI n) e p a m (nI i) sf lt cap cnt anc up fl ys yf yF yR (cp_a pa 0) (cp_a pa 1) (cp_a pa 2) (cp_a pa 3) (cp_a pa 4) (cp_a pa 5) (cp_a pa 6) (cp_a pa 7) (cp_a pa 8) (cp_a pa 9) (cp_a pa 10) (cp_a pa 11) mp (cp_sp su 0) (cp_sp su 1) ss ns := by
      intro sf lt hsf hlt
      refine y_153 hi hnm hsu hK hsf hlt hZ hS ⟨fun c1 => hV.1 c1 _ _, fun c1 => ⟨fun c2 => (hV.2 c1).1 c2 _ _, fun c2 => ⟨fun c3 => ((hV.2 c1).2 c2).1 c3 _ _, fun c3 ns' hN => ⟨fun c4 => (((hV.2 c1).2 c2).2 c3).1 c4 _ _, fun c4 => ?_⟩⟩⟩⟩
      have hV' := (((hV.2 c1).2 c2).2 c3).2 c4
      refine y_323 (by omega) hn hsf hlt he hm hN hT ⟨fun l R hR => ⟨fun q => (hV'.1 l R hR).1 q _ _, fun q => (hV'.1 l R hR).2 q _ _⟩, fun l => ⟨fun c6 => (hV'.2 l).1 c6 _ _, fun c6 => ⟨fun c7 => ((hV'.2 l).2 c6).1 c7 _ _, fun c7 => ⟨fun c8 => (((hV'.2 l).2 c6).2 c7).1 c8 _ _, fun c8 ss' hS' => ?_⟩⟩⟩⟩
      exact ih (i + 1) _ _ _ _ ss' ns' _ (by omega) (by omega) (cp_nx0 he) (cp_nx0 hm) (cp_ZS cp_ZN fun w => cp_T0 (hT _)) hS' ((((hV'.2 l).2 c6).2 c7).2 c8)
    have key2 : ∀ sf : Int32, (sf = 0 ↔ ¬ cp_self pa i) → wY_validate_138 post (wY_validate_110 post tm (nI n) (d + 1)) tm (nI n) e p a m (nI i) sf cap cnt anc up fl ys yf yF yR (cp_a pa 0) (cp_a pa 1) (cp_a pa 2) (cp_a pa 3) (cp_a pa 4) (cp_a pa 5) (cp_a pa 6) (cp_a pa 7) (cp_a pa 8) (cp_a pa 9) (cp_a pa 10) (cp_a pa 11) mp (cp_sp su 0) (cp_sp su 1) ss ns := by
      intro sf hsf
      unfold wY_validate_138
      have e1 : nI n - 1 = nI (n - 1) := by
        obtain ⟨k, rfl⟩ : ∃ k, n = k + 1 := ⟨n - 1, by omega⟩
        exact nI_pred k
      rw [e1]
      exact pk_eq i (n - 1) (fun q => key sf 1 hsf ⟨fun z => absurd z (by decide), fun z => absurd (by omega) z⟩) (fun q => key sf 0 hsf ⟨fun _ => by omega, fun _ => rfl⟩)
    refine br_f (nI_ge (by omega) (by omega)) ⟨v, v, ?_⟩
    rw [nI_clamp (by omega)]
    exact br_c (fun q => key2 1 ⟨fun z => absurd z (by decide), fun z => absurd q z⟩) (fun q => key2 0 ⟨fun _ => q, fun _ => rfl⟩)
theorem y_78 {post : Int32 → SY → Prop} {x1 x2 e p a m : Int32}
    (h : ∀ ss, cy_R ss cp_S0 → ∃ n110 : Nat, wY_validate_110 post x1 x2 n110 e p a m 0 cap cnt anc up fl ys yf yF yR (cp_a pa 0) (cp_a pa 1) (cp_a pa 2) (cp_a pa 3) (cp_a pa 4) (cp_a pa 5) (cp_a pa 6) (cp_a pa 7) (cp_a pa 8) (cp_a pa 9) (cp_a pa 10) (cp_a pa 11) mp (cp_sp su 0) (cp_sp su 1) ss ns) :
    ∀ (d k : Nat) (ss : Nat → Int32), k + d = 256 → (∀ j, j < k → ss j = 0) → wY_validate_78 post x1 x2 e p a m cap cnt anc up fl ys yf yF yR (d + 1) (nI k) (cp_a pa 0) (cp_a pa 1) (cp_a pa 2) (cp_a pa 3) (cp_a pa 4) (cp_a pa 5) (cp_a pa 6) (cp_a pa 7) (cp_a pa 8) (cp_a pa 9) (cp_a pa 10) (cp_a pa 11) mp (cp_sp su 0) (cp_sp su 1) ss ns := by
  intro d
  induction d with
  | zero =>
    intro k ss hk H
    obtain rfl : k = 256 := by omega
    refine br_t (by decide) (nm_e (h _ (cy_R0 ?_ fun x hx h0 => ?_)))
    · rw [pk_us, y_v1]; decide
    · rw [pk_un h0]; exact H x hx
  | succ d ih =>
    intro k ss hk H
    refine br_f (nI_ge (b := 256) (by omega) (by decide)) ⟨vp_in_nI (by omega) (by omega), nm_r (by rw [nI_clamp (by omega)]) (nm_r (nI_1 k) (ih (k + 1) (upd ss k (vp_nar .boolean 0)) (by omega) fun j hj => ?_))⟩
    by_cases e : j = k
    · subst e; rw [pk_us, y_v0]
    · rw [pk_un e]; exact H j (by omega)
theorem cp_c00 {fl b : Int32} {n : Nat} (hn : n ≤ 8) : 0 ≤ cp_c0 fl b n := by
  unfold cp_c0
  split
  · rw [nI_1]; exact nI_pos' (by omega)
  · decide
theorem y_val {post : Int32 → SY → Prop} {n : Nat} (h1 : 1 ≤ n) (hn : n ≤ 8) (hnm : ∀ c, cp_nm (pa (12 * c + 1))) (hsu : ∀ j, cp_nm (su j)) (hK : cp_K pa) (hT : ∀ j, cp_T (mp j)) {tm : Int32}
    (h : cp_V pa mp su anc up tm n (fun s x F R => ∀ ss ns, post s (cap, (nI n), anc, up, fl, s, x, F, R, (cp_a pa 0), (cp_a pa 1), (cp_a pa 2), (cp_a pa 3), (cp_a pa 4), (cp_a pa 5), (cp_a pa 6), (cp_a pa 7), (cp_a pa 8), (cp_a pa 9), (cp_a pa 10), (cp_a pa 11), mp, (cp_sp su 0), (cp_sp su 1), ss, ns)) n 0 (cp_c0 fl 1 n) (cp_c0 fl 2 n) (cp_c0 fl 4 n) (nI n) cp_S0) : wpY_validate post (cap, (nI n), anc, up, fl, ys, yf, yF, yR, (cp_a pa 0), (cp_a pa 1), (cp_a pa 2), (cp_a pa 3), (cp_a pa 4), (cp_a pa 5), (cp_a pa 6), (cp_a pa 7), (cp_a pa 8), (cp_a pa 9), (cp_a pa 10), (cp_a pa 11), mp, (cp_sp su 0), (cp_sp su 1), ss, ns) tm := by
  unfold wpY_validate
  have key : ∀ e p a : Int32, e = cp_c0 fl 1 n → p = cp_c0 fl 2 n → a = cp_c0 fl 4 n → ∃ n78 : Nat, wY_validate_78 post tm (nI n) e p a (nI n) cap (nI n) anc up fl ys yf yF yR n78 0 (cp_a pa 0) (cp_a pa 1) (cp_a pa 2) (cp_a pa 3) (cp_a pa 4) (cp_a pa 5) (cp_a pa 6) (cp_a pa 7) (cp_a pa 8) (cp_a pa 9) (cp_a pa 10) (cp_a pa 11) mp (cp_sp su 0) (cp_sp su 1) ss ns := by
    rintro e p a rfl rfl rfl
    refine ⟨257, y_78 (fun ss' hS => ⟨n + 1, ?_⟩) 256 0 ss rfl (fun j hj => absurd hj (by omega))⟩
    exact y_valL hn hnm hsu hK hT n 0 _ _ _ _ ss' ns _ (by omega) h1 (cp_c00 hn) (nI_pos' (by omega)) cp_ZS0 hS h
  have k52 : ∀ e p : Int32, e = cp_c0 fl 1 n → p = cp_c0 fl 2 n → wY_validate_52 post tm (nI n) e p cap (nI n) anc up fl ys yf yF yR (cp_a pa 0) (cp_a pa 1) (cp_a pa 2) (cp_a pa 3) (cp_a pa 4) (cp_a pa 5) (cp_a pa 6) (cp_a pa 7) (cp_a pa 8) (cp_a pa 9) (cp_a pa 10) (cp_a pa 11) mp (cp_sp su 0) (cp_sp su 1) ss ns := by
    intro e p he hp
    unfold wY_validate_52
    exact br_c (fun c => nm_e (key e p _ he hp (if_pos c).symm)) (fun c => key e p _ he hp (if_neg c).symm)
  have k35 : ∀ e : Int32, e = cp_c0 fl 1 n → wY_validate_35 post tm (nI n) e cap (nI n) anc up fl ys yf yF yR (cp_a pa 0) (cp_a pa 1) (cp_a pa 2) (cp_a pa 3) (cp_a pa 4) (cp_a pa 5) (cp_a pa 6) (cp_a pa 7) (cp_a pa 8) (cp_a pa 9) (cp_a pa 10) (cp_a pa 11) mp (cp_sp su 0) (cp_sp su 1) ss ns := by
    intro e he
    unfold wY_validate_35
    exact br_c (fun c => k52 e _ he (if_pos c).symm) (fun c => k52 e _ he (if_neg c).symm)
  exact br_f (nI_ne0 (by omega) (by omega)) (br_c (fun c => k35 _ (if_pos c).symm) (fun c => k35 _ (if_neg c).symm))
end YV
end
section
/-! how the arrays of Y follow those of X -/
theorem cp_aS {pa : Nat → Int32} {n f : Nat} {y : Int32} : cp_a (upd pa (12 * n + f) y) f = upd (cp_a pa f) n y := by
  funext c
  unfold cp_a upd
  by_cases e : c = n
  · subst e; rw [if_pos rfl, if_pos rfl]
  · rw [if_neg (by omega), if_neg e]
theorem cp_aN {pa : Nat → Int32} {n f k : Nat} {y : Int32} (h : k ≠ f) (hk : k < 12) (hf : f < 12) : cp_a (upd pa (12 * n + f) y) k = cp_a pa k := by
  funext c
  unfold cp_a upd
  rw [if_neg (by omega)]
theorem cp_aC {pa q : Nat → Int32} {n k : Nat} (hk : k < 12) (h : ∀ j, q j = if 12 * n ≤ j ∧ j < 12 * n + 12 then 0 else pa j) : cp_a q k = upd (cp_a pa k) n 0 := by
  funext c
  unfold cp_a upd
  rw [h]
  by_cases e : c = n
  · subst e; rw [if_pos (by omega), if_pos rfl]
  · rw [if_neg (by omega), if_neg e]
theorem cp_uu {g : Nat → Int32} {n : Nat} {x y : Int32} : upd (upd g n x) n y = upd g n y := by
  funext c
  unfold upd
  by_cases e : c = n
  · rw [if_pos e, if_pos e]
  · rw [if_neg e, if_neg e, if_neg e]
theorem cp_spS {su : Nat → Int32} {c kd K : Nat} {y : Int32} (hK : K < 4) (hkd : kd < 2) : cp_sp (upd su (8 * c + 4 * kd + K) y) kd = upd (cp_sp su kd) (4 * c + K) y := by
  funext j
  unfold cp_sp upd
  by_cases e : j = 4 * c + K
  · rw [if_pos (by omega), if_pos e]
  · rw [if_neg (by omega), if_neg e]
theorem cp_spN {su : Nat → Int32} {c kd kd' K : Nat} {y : Int32} (hK : K < 4) (hkd : kd < 2) (hkd' : kd' < 2) (h : kd' ≠ kd) : cp_sp (upd su (8 * c + 4 * kd + K) y) kd' = cp_sp su kd' := by
  funext j
  unfold cp_sp upd
  rw [if_neg (by omega)]
/-! what the relation holds of the arrays -/
def cp_Inv (pa mp su : Nat → Int32) : Prop := (∀ c, cp_nm (pa (12 * c + 1))) ∧ cp_K pa ∧ (∀ j, cp_T (mp j)) ∧ (∀ j, cp_nm (su j))
theorem cp_Inv0 : cp_Inv (fun _ => 0) (fun _ => 0) (fun _ => 0) :=
  ⟨fun _ => cp_nm0, fun _ _ _ => ⟨0, by omega, rfl⟩, fun _ t _ h => by rw [b_0] at h; exact absurd h (by decide), fun _ => cp_nm0⟩
theorem cp_InvN {pa mp su : Nat → Int32} {c f : Nat} {y : Int32} (h : cp_Inv pa mp su) (hf : f < 12) (h1 : f ≠ 1) (h2 : f < 10) : cp_Inv (upd pa (12 * c + f) y) mp su := by
  refine ⟨fun d => ?_, fun d kd hkd => ?_, h.2.2.1, h.2.2.2⟩
  · rw [pk_un (by omega)]; exact h.1 d
  · rw [pk_un (by omega)]; exact h.2.1 d kd hkd
theorem cp_Inv1 {pa mp su : Nat → Int32} {c : Nat} {y : Int32} (h : cp_Inv pa mp su) (hy : cp_nm y) : cp_Inv (upd pa (12 * c + 1) y) mp su := by
  refine ⟨fun d => ?_, fun d kd hkd => ?_, h.2.2.1, h.2.2.2⟩
  · by_cases e : d = c
    · subst e; rw [pk_us]; exact hy
    · rw [pk_un (by omega)]; exact h.1 d
  · rw [pk_un (by omega)]; exact h.2.1 d kd hkd
theorem cp_InvK {pa mp su : Nat → Int32} {c kd K : Nat} (h : cp_Inv pa mp su) (hkd : kd < 2) (hK : K ≤ 4) : cp_Inv (upd pa (12 * c + (10 + kd)) (nI K)) mp su := by
  refine ⟨fun d => ?_, fun d kd' hkd' => ?_, h.2.2.1, h.2.2.2⟩
  · rw [pk_un (by omega)]; exact h.1 d
  · by_cases e : 12 * d + (10 + kd') = 12 * c + (10 + kd)
    · rw [e, pk_us]; exact ⟨K, hK, rfl⟩
    · rw [pk_un e]; exact h.2.1 d kd' hkd'
theorem cp_InvC {pa q mp mp' su : Nat → Int32} {n : Nat} (h : cp_Inv pa mp su) (hq : ∀ j, q j = if 12 * n ≤ j ∧ j < 12 * n + 12 then 0 else pa j) (hm : ∀ j, mp' j = if 16 * n ≤ j ∧ j < 16 * n + 16 then 0 else mp j) : cp_Inv q mp' su := by
  refine ⟨fun d => ?_, fun d kd hkd => ?_, fun j => ?_, h.2.2.2⟩
  · rw [hq]
    split
    · exact cp_nm0
    · exact h.1 d
  · rw [hq]
    split
    · exact ⟨0, by omega, rfl⟩
    · exact h.2.1 d kd hkd
  · rw [hm]
    split
    · exact cp_Inv0.2.2.1 0
    · exact h.2.2.1 j
theorem cp_InvT {pa mp su : Nat → Int32} {j t : Nat} (h : cp_Inv pa mp su) (h1 : 1 ≤ t) (h2 : t ≤ 15) : cp_Inv pa (upd mp j (mp j ||| ((1 : Int32) <<< (nI t &&& 31)))) su := by
  refine ⟨h.1, h.2.1, fun q => ?_, h.2.2.2⟩
  by_cases e : q = j
  · subst e
    rw [pk_us]
    intro v hv hb
    rcases (cx_or1 (by omega) hv).mp hb with a | a
    · exact h.2.2.1 q v hv a
    · omega
  · rw [pk_un e]; exact h.2.2.1 q
theorem cp_InvS {pa mp su : Nat → Int32} {j : Nat} {y : Int32} (h : cp_Inv pa mp su) (hy : cp_nm y) : cp_Inv pa mp (upd su j y) := by
  refine ⟨h.1, h.2.1, h.2.2.1, fun q => ?_⟩
  by_cases e : q = j
  · subst e; rw [pk_us]; exact hy
  · rw [pk_un e]; exact h.2.2.2 q
theorem cp_neL {a x : Int32} {P : Prop} (h : x < a) (q : a ≤ x) : P := absurd q (Int32.not_le.mpr h)
theorem cp_neR {a x : Int32} {P : Prop} (h : a ≤ x) (q : x < a) : P := absurd q (Int32.not_lt.mpr h)
section XC
variable {cap cnt anc up fl ls lf la lr el ml al ll : Int32} {pa mp su ex no : Nat → Int32}
/-! X: the calls -/
theorem x_setAnchor {post : Int32 → SX → Prop} {x : Int32} (h1 : cp_nm x → post 1 (cap, cnt, x, up, fl, (-1), (-1), 0, 0, el, ml, al, ll, pa, mp, su, ex, no)) (h0 : ¬ cp_nm x → post 0 (cap, cnt, anc, up, fl, ls, lf, la, lr, el, ml, al, ll, pa, mp, su, ex, no)) : wpX_setAnchor post (cap, cnt, anc, up, fl, ls, lf, la, lr, el, ml, al, ll, pa, mp, su, ex, no) x := by
  unfold wpX_setAnchor
  exact x_isName (fun h => br_f (by decide) (x_reset (h1 h))) (fun h => br_t rfl (h0 h))
theorem x_setInitial {post : Int32 → SX → Prop} {a b : Int32} (h1 : (0 ≤ a ∧ a ≤ 65535) ∧ (0 ≤ b ∧ b ≤ 7) → post 1 (cap, cnt, anc, a, b, (-1), (-1), 0, 0, el, ml, al, ll, pa, mp, su, ex, no)) (h0 : ¬ ((0 ≤ a ∧ a ≤ 65535) ∧ (0 ≤ b ∧ b ≤ 7)) → post 0 (cap, cnt, anc, up, fl, ls, lf, la, lr, el, ml, al, ll, pa, mp, su, ex, no)) : wpX_setInitial post (cap, cnt, anc, up, fl, ls, lf, la, lr, el, ml, al, ll, pa, mp, su, ex, no) a b := by
  unfold wpX_setInitial
  exact x_inRange (fun ha => br_f (by decide) (x_inRange (fun hb => br_f (by decide) (x_reset (h1 ⟨ha, hb⟩))) (fun hb => br_t rfl (h0 (fun q => hb q.2))))) (fun ha => br_t rfl (h0 (fun q => ha q.1)))
theorem x_clear54 {post : SX → Prop} {c : Nat} (hc : c < 8) {m0 : Nat → Int32} (h : ∀ mp, (∀ j, mp j = if 16 * c ≤ j ∧ j < 16 * c + 16 then 0 else m0 j) → post (cap, cnt, anc, up, fl, ls, lf, la, lr, el, ml, al, ll, pa, mp, su, ex, no)) : ∀ (d k : Nat) (mp : Nat → Int32), k + d = 16 →
    (∀ j, mp j = if 16 * c ≤ j ∧ j < 16 * c + k then 0 else m0 j) → wX_clearCert_54 post (nI c) cap cnt anc up fl ls lf la lr el ml al ll (d + 1) (nI k) pa mp su ex no := by
  intro d
  induction d with
  | zero =>
    intro k mp hk H
    obtain rfl : k = 16 := by omega
    exact br_t (by decide) (h mp H)
  | succ d ih =>
    intro k mp hk H
    refine br_f (nI_ge (b := 16) (by omega) (by decide)) ?_
    have e : nI c * 16 + nI k = nI (16 * c + k) := x_ix
    rw [e, nI_clamp (by omega)]
    refine ⟨vp_in_nI (by omega) (by omega), nm_e (nm_r (nI_1 k) (ih (k + 1) _ (by omega) fun j => ?_))⟩
    by_cases ej : j = 16 * c + k
    · subst ej; rw [pk_us, if_pos (by omega)]
    · rw [pk_un ej, H j]
      by_cases e2 : 16 * c ≤ j ∧ j < 16 * c + k
      · rw [if_pos e2, if_pos (by omega)]
      · rw [if_neg e2, if_neg (by omega)]
theorem x_clear2 {post : SX → Prop} {c : Nat} (hc : c < 8) {p0 : Nat → Int32}
    (h : ∀ pa mp', (∀ j, pa j = if 12 * c ≤ j ∧ j < 12 * c + 12 then 0 else p0 j) → (∀ j, mp' j = if 16 * c ≤ j ∧ j < 16 * c + 16 then 0 else mp j) → post (cap, cnt, anc, up, fl, ls, lf, la, lr, el, ml, al, ll, (upd (upd (upd (upd pa (12 * c + 5) (-1)) (12 * c + 7) (-1)) (12 * c + 8) (-1)) (12 * c + 9) (-1)), mp', su, ex, no)) :
    ∀ (d k : Nat) (pa : Nat → Int32), k + d = 12 → (∀ j, pa j = if 12 * c ≤ j ∧ j < 12 * c + k then 0 else p0 j) → wX_clearCert_2 post (nI c) (d + 1) (nI k) cap cnt anc up fl ls lf la lr el ml al ll pa mp su ex no := by
  intro d
  induction d with
  | zero =>
    intro k pa hk H
    obtain rfl : k = 12 := by omega
    refine br_t (by decide) (x_setPart (f := 5) hc (by decide) (x_setPart (f := 7) hc (by decide) (x_setPart (f := 8) hc (by decide) (x_setPart (f := 9) hc (by decide) ⟨17, ?_⟩))))
    refine x_clear54 hc (m0 := mp) (fun mp' h' => h pa mp' H h') 16 0 mp rfl (fun j => ?_)
    rw [if_neg (by omega)]
  | succ d ih =>
    intro k pa hk H
    refine br_f (nI_ge (b := 12) (by omega) (by decide)) (x_setPart (f := k) hc (by omega) (nm_r (nI_1 k) (ih (k + 1) _ (by omega) fun j => ?_)))
    by_cases ej : j = 12 * c + k
    · subst ej; rw [pk_us, if_pos (by omega)]
    · rw [pk_un ej, H j]
      by_cases e2 : 12 * c ≤ j ∧ j < 12 * c + k
      · rw [if_pos e2, if_pos (by omega)]
      · rw [if_neg e2, if_neg (by omega)]
theorem x_clear {post : SX → Prop} {c : Nat} (hc : c < 8)
    (h : ∀ q mp', (∀ j, q j = if 12 * c ≤ j ∧ j < 12 * c + 12 then 0 else pa j) → (∀ j, mp' j = if 16 * c ≤ j ∧ j < 16 * c + 16 then 0 else mp j) → post (cap, cnt, anc, up, fl, ls, lf, la, lr, el, ml, al, ll, (upd (upd (upd (upd q (12 * c + 5) (-1)) (12 * c + 7) (-1)) (12 * c + 8) (-1)) (12 * c + 9) (-1)), mp', su, ex, no)) : wpX_clearCert post (cap, cnt, anc, up, fl, ls, lf, la, lr, el, ml, al, ll, pa, mp, su, ex, no) (nI c) := by
  unfold wpX_clearCert
  refine ⟨13, x_clear2 hc (p0 := pa) h 12 0 pa rfl (fun j => ?_)⟩
  rw [if_neg (by omega)]
theorem x_addCert {post : Int32 → SX → Prop} {kp n : Nat} (h8 : kp ≤ 8) (hnk : n ≤ kp) {a b c d : Int32}
    (h1 : n < kp ∧ cp_nm a ∧ cp_nm b → ∀ q mp', (∀ j, q j = if 12 * n ≤ j ∧ j < 12 * n + 12 then 0 else pa j) → (∀ j, mp' j = if 16 * n ≤ j ∧ j < 16 * n + 16 then 0 else mp j) →
      post (nI n) ((nI kp), (nI (n + 1)), anc, up, fl, (-1), (-1), 0, 0, el, ml, al, ll, (upd (upd (upd (upd (upd (upd (upd (upd q (12 * n + 5) (-1)) (12 * n + 7) (-1)) (12 * n + 8) (-1)) (12 * n + 9) (-1)) (12 * n + 0) a) (12 * n + 1) b) (12 * n + 2) c) (12 * n + 3) d), mp', su, ex, no))
    (h0 : ¬ (n < kp ∧ cp_nm a ∧ cp_nm b) → post (-1) ((nI kp), (nI n), anc, up, fl, ls, lf, la, lr, el, ml, al, ll, pa, mp, su, ex, no)) : wpX_addCert post ((nI kp), (nI n), anc, up, fl, ls, lf, la, lr, el, ml, al, ll, pa, mp, su, ex, no) a b c d := by
  unfold wpX_addCert
  refine pk_le kp n (fun hk => h0 (fun q => by omega)) (fun hk => x_isName (fun ha => br_f (by decide) (x_isName (fun hb => br_f (by decide) ?_) (fun hb => br_t rfl (h0 (fun q => hb q.2.2))))) (fun ha => br_t rfl (h0 (fun q => ha q.2.1))))
  refine x_clear (by omega) (fun q mp' hq hm => x_setPart (f := 0) (by omega) (by decide) (x_setPart (f := 1) (by omega) (by decide) (x_setPart (f := 2) (by omega) (by decide) (x_setPart (f := 3) (by omega) (by decide) (nm_r (nI_1 n) (x_reset (h1 ⟨hk, ha, hb⟩ q mp' hq hm)))))))
theorem x_removeLast {post : Int32 → SX → Prop} {n : Nat} (hn : n ≤ 8) (h1 : 1 ≤ n → post 1 (cap, (nI (n - 1)), anc, up, fl, (-1), (-1), 0, 0, el, ml, al, ll, pa, mp, su, ex, no)) (h0 : n = 0 → post 0 (cap, (nI n), anc, up, fl, ls, lf, la, lr, el, ml, al, ll, pa, mp, su, ex, no)) : wpX_removeLast post (cap, (nI n), anc, up, fl, ls, lf, la, lr, el, ml, al, ll, pa, mp, su, ex, no) := by
  unfold wpX_removeLast
  refine pk_eq n 0 h0 (fun e => nm_r ?_ (x_reset (h1 (by omega))))
  obtain ⟨m, rfl⟩ : ∃ m, n = m + 1 := ⟨n - 1, by omega⟩
  exact nI_pred m
theorem x_setBasicN {post : Int32 → SX → Prop} {n : Nat} (hn : n ≤ 8) {x f p : Int32} (hx : ¬ (0 ≤ x ∧ x < nI n)) (h : post 0 (cap, (nI n), anc, up, fl, ls, lf, la, lr, el, ml, al, ll, pa, mp, su, ex, no)) : wpX_setBasic post (cap, (nI n), anc, up, fl, ls, lf, la, lr, el, ml, al, ll, pa, mp, su, ex, no) x f p := by
  unfold wpX_setBasic
  exact x_isCert hn (fun q => absurd q hx) (fun _ => br_t rfl h)
theorem x_setBasic {post : Int32 → SX → Prop} {n c : Nat} (hn : n ≤ 8) (hc : c < n) {f p : Int32} (h1 : (0 ≤ f ∧ f ≤ 7) ∧ (-1 ≤ p ∧ p ≤ 15) → post 1 (cap, (nI n), anc, up, fl, (-1), (-1), 0, 0, el, ml, al, ll, (upd (upd pa (12 * c + 4) f) (12 * c + 5) p), mp, su, ex, no))
    (h0 : ¬ ((0 ≤ f ∧ f ≤ 7) ∧ (-1 ≤ p ∧ p ≤ 15)) → post 0 (cap, (nI n), anc, up, fl, ls, lf, la, lr, el, ml, al, ll, pa, mp, su, ex, no)) : wpX_setBasic post (cap, (nI n), anc, up, fl, ls, lf, la, lr, el, ml, al, ll, pa, mp, su, ex, no) (nI c) f p := by
  unfold wpX_setBasic
  refine x_isCert hn (fun _ => br_f (by decide) (x_inRange (fun hf => br_f (by decide) (x_isNum (fun hp => br_f (by decide) ?_) (fun hp => br_t rfl (h0 (fun q => hp q.2))))) (fun hf => br_t rfl (h0 (fun q => hf q.1))))) (fun q => absurd ⟨nI_pos' (by omega), nI_lt hc (by omega)⟩ q)
  exact x_setPart (f := 4) (by omega) (by decide) (x_setPart (f := 5) (by omega) (by decide) (x_reset (h1 ⟨hf, hp⟩)))
theorem x_addPolicyN {post : Int32 → SX → Prop} {n : Nat} (hn : n ≤ 8) {x p : Int32} (hx : ¬ (0 ≤ x ∧ x < nI n)) (h : post 0 (cap, (nI n), anc, up, fl, ls, lf, la, lr, el, ml, al, ll, pa, mp, su, ex, no)) : wpX_addPolicy post (cap, (nI n), anc, up, fl, ls, lf, la, lr, el, ml, al, ll, pa, mp, su, ex, no) x p := by
  unfold wpX_addPolicy
  exact x_isCert hn (fun q => absurd q hx) (fun _ => br_t rfl h)
theorem x_addPolicy {post : Int32 → SX → Prop} {n c : Nat} (hn : n ≤ 8) (hc : c < n) {p : Int32} (h1 : (0 ≤ p ∧ p ≤ 15) → post 1 (cap, (nI n), anc, up, fl, (-1), (-1), 0, 0, el, ml, al, ll, (upd pa (12 * c + 6) (pa (12 * c + 6) ||| ((1 : Int32) <<< (p &&& 31)))), mp, su, ex, no))
    (h0 : ¬ (0 ≤ p ∧ p ≤ 15) → post 0 (cap, (nI n), anc, up, fl, ls, lf, la, lr, el, ml, al, ll, pa, mp, su, ex, no)) : wpX_addPolicy post (cap, (nI n), anc, up, fl, ls, lf, la, lr, el, ml, al, ll, pa, mp, su, ex, no) (nI c) p := by
  unfold wpX_addPolicy
  refine x_isCert hn (fun _ => br_f (by decide) (x_inRange (fun hp => br_f (by decide) ?_) (fun hp => br_t rfl (h0 hp)))) (fun q => absurd ⟨nI_pos' (by omega), nI_lt hc (by omega)⟩ q)
  exact x_part (f := 6) (by omega) (by decide) (x_setPart (f := 6) (by omega) (by decide) (x_reset (h1 hp)))
theorem x_addMappingN {post : Int32 → SX → Prop} {n : Nat} (hn : n ≤ 8) {x s t : Int32} (hx : ¬ (0 ≤ x ∧ x < nI n)) (h : post 0 (cap, (nI n), anc, up, fl, ls, lf, la, lr, el, ml, al, ll, pa, mp, su, ex, no)) : wpX_addMapping post (cap, (nI n), anc, up, fl, ls, lf, la, lr, el, ml, al, ll, pa, mp, su, ex, no) x s t := by
  unfold wpX_addMapping
  exact x_isCert hn (fun q => absurd q hx) (fun _ => br_t rfl h)
theorem x_addMapping {post : Int32 → SX → Prop} {n c : Nat} (hn : n ≤ 8) (hc : c < n) {s t : Int32} (h1 : ∀ s' t' : Nat, s = nI s' → t = nI t' → 1 ≤ s' ∧ s' ≤ 15 → 1 ≤ t' ∧ t' ≤ 15 → post 1 (cap, (nI n), anc, up, fl, (-1), (-1), 0, 0, el, ml, al, ll, pa, (upd mp (16 * c + s') (mp (16 * c + s') ||| ((1 : Int32) <<< (nI t' &&& 31)))), su, ex, no))
    (h0 : ¬ ((1 ≤ s ∧ s ≤ 15) ∧ (1 ≤ t ∧ t ≤ 15)) → post 0 (cap, (nI n), anc, up, fl, ls, lf, la, lr, el, ml, al, ll, pa, mp, su, ex, no)) : wpX_addMapping post (cap, (nI n), anc, up, fl, ls, lf, la, lr, el, ml, al, ll, pa, mp, su, ex, no) (nI c) s t := by
  unfold wpX_addMapping
  refine x_isCert hn (fun _ => br_f (by decide) (x_isSpec (fun hs => br_f (by decide) (x_isSpec (fun ht => br_f (by decide) ?_) (fun ht => br_t rfl (h0 (fun q => ht q.2))))) (fun hs => br_t rfl (h0 (fun q => hs q.1))))) (fun q => absurd ⟨nI_pos' (by omega), nI_lt hc (by omega)⟩ q)
  obtain ⟨s', s1, s2, rfl⟩ := x_rng (a := 1) (b := 15) (by omega) hs (by omega)
  obtain ⟨t', t1, t2, rfl⟩ := x_rng (a := 1) (b := 15) (by omega) ht (by omega)
  have e : nI c * 16 + nI s' = nI (16 * c + s') := x_ix
  rw [e, nI_clamp (by omega)]
  have v : vp_in (nI (16 * c + s')) 128 := vp_in_nI (by omega) (by omega)
  exact ⟨v, v, nm_e (x_reset (h1 s' t' rfl rfl ⟨s1, s2⟩ ⟨t1, t2⟩))⟩
theorem x_setPCN {post : Int32 → SX → Prop} {n : Nat} (hn : n ≤ 8) {x a b d : Int32} (hx : ¬ (0 ≤ x ∧ x < nI n)) (h : post 0 (cap, (nI n), anc, up, fl, ls, lf, la, lr, el, ml, al, ll, pa, mp, su, ex, no)) : wpX_setPolicyConstraints post (cap, (nI n), anc, up, fl, ls, lf, la, lr, el, ml, al, ll, pa, mp, su, ex, no) x a b d := by
  unfold wpX_setPolicyConstraints
  exact x_isCert hn (fun q => absurd q hx) (fun _ => br_t rfl h)
theorem x_setPC {post : Int32 → SX → Prop} {n c : Nat} (hn : n ≤ 8) (hc : c < n) {a b d : Int32} (h1 : (-1 ≤ a ∧ a ≤ 15) ∧ (-1 ≤ b ∧ b ≤ 15) ∧ (-1 ≤ d ∧ d ≤ 15) → post 1 (cap, (nI n), anc, up, fl, (-1), (-1), 0, 0, el, ml, al, ll, (upd (upd (upd pa (12 * c + 7) a) (12 * c + 8) b) (12 * c + 9) d), mp, su, ex, no))
    (h0 : ¬ ((-1 ≤ a ∧ a ≤ 15) ∧ (-1 ≤ b ∧ b ≤ 15) ∧ (-1 ≤ d ∧ d ≤ 15)) → post 0 (cap, (nI n), anc, up, fl, ls, lf, la, lr, el, ml, al, ll, pa, mp, su, ex, no)) : wpX_setPolicyConstraints post (cap, (nI n), anc, up, fl, ls, lf, la, lr, el, ml, al, ll, pa, mp, su, ex, no) (nI c) a b d := by
  unfold wpX_setPolicyConstraints
  refine x_isCert hn (fun _ => br_f (by decide) (x_isNum (fun ha => br_f (by decide) (x_isNum (fun hb => br_f (by decide) (x_isNum (fun hd => br_f (by decide) ?_) (fun hd => br_t rfl (h0 (fun q => hd q.2.2))))) (fun hb => br_t rfl (h0 (fun q => hb q.2.1))))) (fun ha => br_t rfl (h0 (fun q => ha q.1))))) (fun q => absurd ⟨nI_pos' (by omega), nI_lt hc (by omega)⟩ q)
  exact x_setPart (f := 7) (by omega) (by decide) (x_setPart (f := 8) (by omega) (by decide) (x_setPart (f := 9) (by omega) (by decide) (x_reset (h1 ⟨ha, hb, hd⟩))))
theorem x_addSubtreeN {post : Int32 → SX → Prop} {n : Nat} (hn : n ≤ 8) {x kd nm : Int32} (hx : ¬ ((0 ≤ x ∧ x < nI n) ∧ (kd = 0 ∨ kd = 1) ∧ cp_nm nm)) (h : post 0 (cap, (nI n), anc, up, fl, ls, lf, la, lr, el, ml, al, ll, pa, mp, su, ex, no)) : wpX_addSubtree post (cap, (nI n), anc, up, fl, ls, lf, la, lr, el, ml, al, ll, pa, mp, su, ex, no) x kd nm := by
  unfold wpX_addSubtree
  exact x_isCert hn (fun q => br_f (by decide) (x_isKind (fun r => br_f (by decide) (x_isName (fun s => absurd ⟨q, r, s⟩ hx) (fun _ => br_t rfl h))) (fun _ => br_t rfl h))) (fun _ => br_t rfl h)
theorem x_addSubtree {post : Int32 → SX → Prop} {n c kd K : Nat} (hn : n ≤ 8) (hc : c < n) (hkd : kd < 2) (hK : K ≤ 4) (hp : pa (12 * c + (10 + kd)) = nI K) {nm : Int32} (hnm : cp_nm nm)
    (h1 : K < 4 → post 1 (cap, (nI n), anc, up, fl, (-1), (-1), 0, 0, el, ml, al, ll, (upd pa (12 * c + (10 + kd)) (nI (K + 1))), mp, (upd su (8 * c + 4 * kd + K) nm), ex, no))
    (h0 : ¬ K < 4 → post 0 (cap, (nI n), anc, up, fl, ls, lf, la, lr, el, ml, al, ll, pa, mp, su, ex, no)) : wpX_addSubtree post (cap, (nI n), anc, up, fl, ls, lf, la, lr, el, ml, al, ll, pa, mp, su, ex, no) (nI c) (nI kd) nm := by
  unfold wpX_addSubtree
  have kk : nI kd = 0 ∨ nI kd = 1 := by
    have : kd = 0 ∨ kd = 1 := by omega
    rcases this with rfl | rfl
    · exact Or.inl rfl
    · exact Or.inr rfl
  refine x_isCert hn (fun _ => br_f (by decide) (x_isKind (fun _ => br_f (by decide) (x_isName (fun _ => br_f (by decide) (x_subCnt (by omega) hkd ?_)) (fun q => absurd hnm q))) (fun q => absurd kk q))) (fun q => absurd ⟨nI_pos' (by omega), nI_lt hc (by omega)⟩ q)
  rw [hp]
  refine pk_lt K 4 (fun k4 => x_first ?_) (fun k4 => h0 (by omega))
  have e : nI (8 * c + 4 * kd) + nI K = nI (8 * c + 4 * kd + K) := nI_add _ _
  have e2 : 10 + nI kd = nI (10 + kd) := nI_add 10 kd
  rw [e, nI_clamp (by omega), e2, nI_1]
  exact ⟨vp_in_nI (by omega) (by omega), nm_e (x_setPart (f := 10 + kd) (by omega) (by omega) (x_reset (h1 k4)))⟩
end XC
end
section
section YC
variable {cap cnt anc up fl ys yf yF yR : Int32} {pa mp su ss ns : Nat → Int32}
/-! Y: the calls -/
theorem y_reset {post : SY → Prop} (h : post (cap, cnt, anc, up, fl, (-1), (-1), 0, 0, (cp_a pa 0), (cp_a pa 1), (cp_a pa 2), (cp_a pa 3), (cp_a pa 4), (cp_a pa 5), (cp_a pa 6), (cp_a pa 7), (cp_a pa 8), (cp_a pa 9), (cp_a pa 10), (cp_a pa 11), mp, (cp_sp su 0), (cp_sp su 1), ss, ns)) : wpY_reset post (cap, cnt, anc, up, fl, ys, yf, yF, yR, (cp_a pa 0), (cp_a pa 1), (cp_a pa 2), (cp_a pa 3), (cp_a pa 4), (cp_a pa 5), (cp_a pa 6), (cp_a pa 7), (cp_a pa 8), (cp_a pa 9), (cp_a pa 10), (cp_a pa 11), mp, (cp_sp su 0), (cp_sp su 1), ss, ns) := h
theorem y_setAnchor {post : Int32 → SY → Prop} {x : Int32} (h1 : cp_nm x → post 1 (cap, cnt, x, up, fl, (-1), (-1), 0, 0, (cp_a pa 0), (cp_a pa 1), (cp_a pa 2), (cp_a pa 3), (cp_a pa 4), (cp_a pa 5), (cp_a pa 6), (cp_a pa 7), (cp_a pa 8), (cp_a pa 9), (cp_a pa 10), (cp_a pa 11), mp, (cp_sp su 0), (cp_sp su 1), ss, ns)) (h0 : ¬ cp_nm x → post 0 (cap, cnt, anc, up, fl, ys, yf, yF, yR, (cp_a pa 0), (cp_a pa 1), (cp_a pa 2), (cp_a pa 3), (cp_a pa 4), (cp_a pa 5), (cp_a pa 6), (cp_a pa 7), (cp_a pa 8), (cp_a pa 9), (cp_a pa 10), (cp_a pa 11), mp, (cp_sp su 0), (cp_sp su 1), ss, ns)) : wpY_setAnchor post (cap, cnt, anc, up, fl, ys, yf, yF, yR, (cp_a pa 0), (cp_a pa 1), (cp_a pa 2), (cp_a pa 3), (cp_a pa 4), (cp_a pa 5), (cp_a pa 6), (cp_a pa 7), (cp_a pa 8), (cp_a pa 9), (cp_a pa 10), (cp_a pa 11), mp, (cp_sp su 0), (cp_sp su 1), ss, ns) x := by
  unfold wpY_setAnchor
  exact y_isName (fun h => br_f (by decide) ((h1 h))) (fun h => br_t rfl (h0 h))
theorem y_setInitial {post : Int32 → SY → Prop} {a b : Int32} (h1 : (0 ≤ a ∧ a ≤ 65535) ∧ (0 ≤ b ∧ b ≤ 7) → post 1 (cap, cnt, anc, a, b, (-1), (-1), 0, 0, (cp_a pa 0), (cp_a pa 1), (cp_a pa 2), (cp_a pa 3), (cp_a pa 4), (cp_a pa 5), (cp_a pa 6), (cp_a pa 7), (cp_a pa 8), (cp_a pa 9), (cp_a pa 10), (cp_a pa 11), mp, (cp_sp su 0), (cp_sp su 1), ss, ns)) (h0 : ¬ ((0 ≤ a ∧ a ≤ 65535) ∧ (0 ≤ b ∧ b ≤ 7)) → post 0 (cap, cnt, anc, up, fl, ys, yf, yF, yR, (cp_a pa 0), (cp_a pa 1), (cp_a pa 2), (cp_a pa 3), (cp_a pa 4), (cp_a pa 5), (cp_a pa 6), (cp_a pa 7), (cp_a pa 8), (cp_a pa 9), (cp_a pa 10), (cp_a pa 11), mp, (cp_sp su 0), (cp_sp su 1), ss, ns)) : wpY_setInitial post (cap, cnt, anc, up, fl, ys, yf, yF, yR, (cp_a pa 0), (cp_a pa 1), (cp_a pa 2), (cp_a pa 3), (cp_a pa 4), (cp_a pa 5), (cp_a pa 6), (cp_a pa 7), (cp_a pa 8), (cp_a pa 9), (cp_a pa 10), (cp_a pa 11), mp, (cp_sp su 0), (cp_sp su 1), ss, ns) a b := by
  unfold wpY_setInitial
  exact br_c (fun p => h0 (fun q => cp_neL p q.1.1)) (fun p => br_c (fun p' => h0 (fun q => cp_neR q.1.2 p')) (fun p' => br_c (fun r => h0 (fun q => cp_neL r q.2.1)) (fun r => br_c (fun r' => y_reset (h1 ⟨⟨Int32.not_lt.mp p, Int32.not_lt.mp p'⟩, Int32.not_lt.mp r, r'⟩)) (fun r' => h0 (fun q => r' q.2.2)))))
theorem y_135 {post : Int32 → SY → Prop} {c : Nat} (hc : c < 8) {is' sb' nb' na' bs' pl' po' re' im' ia' pn' en' m0 : Nat → Int32}
    (h : ∀ mp, (∀ j, mp j = if 16 * c ≤ j ∧ j < 16 * c + 16 then 0 else m0 j) → post (nI c) (cap, (nI (c + 1)), anc, up, fl, (-1), (-1), 0, 0, is', sb', nb', na', bs', pl', po', re', im', ia', pn', en', mp, (cp_sp su 0), (cp_sp su 1), ss, ns)) :
    ∀ (d k : Nat) (mp : Nat → Int32), k + d = 16 → (∀ j, mp j = if 16 * c ≤ j ∧ j < 16 * c + k then 0 else m0 j) →
    wY_addCert_135 post (nI c) cap cnt anc up fl ys yf yF yR (d + 1) (nI k) is' sb' nb' na' bs' pl' po' re' im' ia' pn' en' mp (cp_sp su 0) (cp_sp su 1) ss ns := by
  intro d
  induction d with
  | zero =>
    intro k mp hk H
    obtain rfl : k = 16 := by omega
    exact br_t (by decide) (nm_r (nI_1 c) (h mp H))
  | succ d ih =>
    intro k mp hk H
    refine br_f (nI_ge (b := 16) (by omega) (by decide)) ?_
    have e : nI c * 16 + nI k = nI (16 * c + k) := x_ix
    rw [e, nI_clamp (by omega)]
    refine ⟨vp_in_nI (by omega) (by omega), nm_e (nm_r (nI_1 k) (ih (k + 1) _ (by omega) fun j => ?_))⟩
    by_cases ej : j = 16 * c + k
    · subst ej; rw [pk_us, if_pos (by omega)]
    · rw [pk_un ej, H j]
      by_cases e2 : 16 * c ≤ j ∧ j < 16 * c + k
      · rw [if_pos e2, if_pos (by omega)]
      · rw [if_neg e2, if_neg (by omega)]
theorem y_addCert {post : Int32 → SY → Prop} {kp n : Nat} (h8 : kp ≤ 8) (hnk : n ≤ kp) {a b c d : Int32}
    (h1 : n < kp ∧ cp_nm a ∧ cp_nm b → ∀ mp', (∀ j, mp' j = if 16 * n ≤ j ∧ j < 16 * n + 16 then 0 else mp j) →
      post (nI n) ((nI kp), (nI (n + 1)), anc, up, fl, (-1), (-1), 0, 0, (upd (cp_a pa 0) n a), (upd (cp_a pa 1) n b), (upd (cp_a pa 2) n c), (upd (cp_a pa 3) n d), (upd (cp_a pa 4) n 0), (upd (cp_a pa 5) n (-1)), (upd (cp_a pa 6) n 0), (upd (cp_a pa 7) n (-1)), (upd (cp_a pa 8) n (-1)), (upd (cp_a pa 9) n (-1)), (upd (cp_a pa 10) n 0), (upd (cp_a pa 11) n 0), mp', (cp_sp su 0), (cp_sp su 1), ss, ns))
    (h0 : ¬ (n < kp ∧ cp_nm a ∧ cp_nm b) → post (-1) ((nI kp), (nI n), anc, up, fl, ys, yf, yF, yR, (cp_a pa 0), (cp_a pa 1), (cp_a pa 2), (cp_a pa 3), (cp_a pa 4), (cp_a pa 5), (cp_a pa 6), (cp_a pa 7), (cp_a pa 8), (cp_a pa 9), (cp_a pa 10), (cp_a pa 11), mp, (cp_sp su 0), (cp_sp su 1), ss, ns)) : wpY_addCert post ((nI kp), (nI n), anc, up, fl, ys, yf, yF, yR, (cp_a pa 0), (cp_a pa 1), (cp_a pa 2), (cp_a pa 3), (cp_a pa 4), (cp_a pa 5), (cp_a pa 6), (cp_a pa 7), (cp_a pa 8), (cp_a pa 9), (cp_a pa 10), (cp_a pa 11), mp, (cp_sp su 0), (cp_sp su 1), ss, ns) a b c d := by
  unfold wpY_addCert
  refine pk_le kp n (fun hk => h0 (fun q => by omega)) (fun hk => y_isName (fun ha => br_f (by decide) (y_isName (fun hb => br_f (by decide) ?_) (fun hb => br_t rfl (h0 (fun q => hb q.2.2))))) (fun ha => br_t rfl (h0 (fun q => ha q.2.1))))
  have v : vp_in (nI n) 8 := vp_in_nI (by omega) (by omega)
  rw [nI_clamp (by omega)]
  refine ⟨v, nm_e ⟨v, nm_e ⟨v, nm_e ⟨v, nm_e ⟨v, nm_e ⟨v, nm_e ⟨v, nm_e ⟨v, nm_e ⟨v, nm_e ⟨v, nm_e ⟨v, nm_e ⟨v, nm_e ⟨17, ?_⟩⟩⟩⟩⟩⟩⟩⟩⟩⟩⟩⟩⟩
  refine y_135 (by omega) (m0 := mp) (fun mp' hm => h1 ⟨hk, ha, hb⟩ mp' hm) 16 0 mp rfl (fun j => ?_)
  rw [if_neg (by omega)]
theorem y_removeLast {post : Int32 → SY → Prop} {n : Nat} (hn : n ≤ 8) (h1 : 1 ≤ n → post 1 (cap, (nI (n - 1)), anc, up, fl, (-1), (-1), 0, 0, (cp_a pa 0), (cp_a pa 1), (cp_a pa 2), (cp_a pa 3), (cp_a pa 4), (cp_a pa 5), (cp_a pa 6), (cp_a pa 7), (cp_a pa 8), (cp_a pa 9), (cp_a pa 10), (cp_a pa 11), mp, (cp_sp su 0), (cp_sp su 1), ss, ns)) (h0 : n = 0 → post 0 (cap, (nI n), anc, up, fl, ys, yf, yF, yR, (cp_a pa 0), (cp_a pa 1), (cp_a pa 2), (cp_a pa 3), (cp_a pa 4), (cp_a pa 5), (cp_a pa 6), (cp_a pa 7), (cp_a pa 8), (cp_a pa 9), (cp_a pa 10), (cp_a pa 11), mp, (cp_sp su 0), (cp_sp su 1), ss, ns)) : wpY_removeLast post (cap, (nI n), anc, up, fl, ys, yf, yF, yR, (cp_a pa 0), (cp_a pa 1), (cp_a pa 2), (cp_a pa 3), (cp_a pa 4), (cp_a pa 5), (cp_a pa 6), (cp_a pa 7), (cp_a pa 8), (cp_a pa 9), (cp_a pa 10), (cp_a pa 11), mp, (cp_sp su 0), (cp_sp su 1), ss, ns) := by
  unfold wpY_removeLast
  refine pk_eq n 0 h0 (fun e => nm_r ?_ ((h1 (by omega))))
  obtain ⟨m, rfl⟩ : ∃ m, n = m + 1 := ⟨n - 1, by omega⟩
  exact nI_pred m
theorem y_cert {n : Nat} {x : Int32} {A B : Prop} (hx : ¬ (0 ≤ x ∧ x < nI n)) (h : A) : (x < 0 → A) ∧ (¬ x < 0 → (nI n ≤ x → A) ∧ (¬ nI n ≤ x → B)) :=
  br_c (fun _ => h) (fun a => br_c (fun _ => h) (fun b => absurd ⟨Int32.not_lt.mp a, Int32.not_le.mp b⟩ hx))
theorem y_in {n c : Nat} {A B : Prop} (hn : n ≤ 8) (hc : c < n) (h : B) : (nI c < 0 → A) ∧ (¬ nI c < 0 → (nI n ≤ nI c → A) ∧ (¬ nI n ≤ nI c → B)) :=
  br_f (nI_pos (by omega)) (br_f (nI_ge hc (by omega)) h)
theorem y_setBasicN {post : Int32 → SY → Prop} {n : Nat} {x f p : Int32} (hx : ¬ (0 ≤ x ∧ x < nI n)) (h : post 0 (cap, (nI n), anc, up, fl, ys, yf, yF, yR, (cp_a pa 0), (cp_a pa 1), (cp_a pa 2), (cp_a pa 3), (cp_a pa 4), (cp_a pa 5), (cp_a pa 6), (cp_a pa 7), (cp_a pa 8), (cp_a pa 9), (cp_a pa 10), (cp_a pa 11), mp, (cp_sp su 0), (cp_sp su 1), ss, ns)) : wpY_setBasic post (cap, (nI n), anc, up, fl, ys, yf, yF, yR, (cp_a pa 0), (cp_a pa 1), (cp_a pa 2), (cp_a pa 3), (cp_a pa 4), (cp_a pa 5), (cp_a pa 6), (cp_a pa 7), (cp_a pa 8), (cp_a pa 9), (cp_a pa 10), (cp_a pa 11), mp, (cp_sp su 0), (cp_sp su 1), ss, ns) x f p := by
  unfold wpY_setBasic
  exact y_cert hx h
theorem y_setBasic {post : Int32 → SY → Prop} {n c : Nat} (hn : n ≤ 8) (hc : c < n) {f p : Int32} (h1 : (0 ≤ f ∧ f ≤ 7) ∧ (-1 ≤ p ∧ p ≤ 15) → post 1 (cap, (nI n), anc, up, fl, (-1), (-1), 0, 0, (cp_a pa 0), (cp_a pa 1), (cp_a pa 2), (cp_a pa 3), (upd (cp_a pa 4) c f), (upd (cp_a pa 5) c p), (cp_a pa 6), (cp_a pa 7), (cp_a pa 8), (cp_a pa 9), (cp_a pa 10), (cp_a pa 11), mp, (cp_sp su 0), (cp_sp su 1), ss, ns))
    (h0 : ¬ ((0 ≤ f ∧ f ≤ 7) ∧ (-1 ≤ p ∧ p ≤ 15)) → post 0 (cap, (nI n), anc, up, fl, ys, yf, yF, yR, (cp_a pa 0), (cp_a pa 1), (cp_a pa 2), (cp_a pa 3), (cp_a pa 4), (cp_a pa 5), (cp_a pa 6), (cp_a pa 7), (cp_a pa 8), (cp_a pa 9), (cp_a pa 10), (cp_a pa 11), mp, (cp_sp su 0), (cp_sp su 1), ss, ns)) : wpY_setBasic post (cap, (nI n), anc, up, fl, ys, yf, yF, yR, (cp_a pa 0), (cp_a pa 1), (cp_a pa 2), (cp_a pa 3), (cp_a pa 4), (cp_a pa 5), (cp_a pa 6), (cp_a pa 7), (cp_a pa 8), (cp_a pa 9), (cp_a pa 10), (cp_a pa 11), mp, (cp_sp su 0), (cp_sp su 1), ss, ns) (nI c) f p := by
  unfold wpY_setBasic
  rw [nI_clamp (by omega)]
  have v : vp_in (nI c) 8 := vp_in_nI (by omega) (by omega)
  exact y_in hn hc (br_c (fun a => h0 (fun q => cp_neL a q.1.1)) (fun a => br_c (fun b => h0 (fun q => cp_neR q.1.2 b)) (fun b => br_c (fun a' => h0 (fun q => cp_neL a' q.2.1)) (fun a' => br_c (fun b' => ⟨v, nm_e ⟨v, nm_e ((h1 ⟨⟨Int32.not_lt.mp a, Int32.not_lt.mp b⟩, Int32.not_lt.mp a', b'⟩))⟩⟩) (fun b' => h0 (fun q => b' q.2.2))))))
theorem y_addPolicyN {post : Int32 → SY → Prop} {n : Nat} {x p : Int32} (hx : ¬ (0 ≤ x ∧ x < nI n)) (h : post 0 (cap, (nI n), anc, up, fl, ys, yf, yF, yR, (cp_a pa 0), (cp_a pa 1), (cp_a pa 2), (cp_a pa 3), (cp_a pa 4), (cp_a pa 5), (cp_a pa 6), (cp_a pa 7), (cp_a pa 8), (cp_a pa 9), (cp_a pa 10), (cp_a pa 11), mp, (cp_sp su 0), (cp_sp su 1), ss, ns)) : wpY_addPolicy post (cap, (nI n), anc, up, fl, ys, yf, yF, yR, (cp_a pa 0), (cp_a pa 1), (cp_a pa 2), (cp_a pa 3), (cp_a pa 4), (cp_a pa 5), (cp_a pa 6), (cp_a pa 7), (cp_a pa 8), (cp_a pa 9), (cp_a pa 10), (cp_a pa 11), mp, (cp_sp su 0), (cp_sp su 1), ss, ns) x p := by
  unfold wpY_addPolicy
  exact y_cert hx h
theorem y_addPolicy {post : Int32 → SY → Prop} {n c : Nat} (hn : n ≤ 8) (hc : c < n) {p : Int32} (h1 : (0 ≤ p ∧ p ≤ 15) → post 1 (cap, (nI n), anc, up, fl, (-1), (-1), 0, 0, (cp_a pa 0), (cp_a pa 1), (cp_a pa 2), (cp_a pa 3), (cp_a pa 4), (cp_a pa 5), (upd (cp_a pa 6) c (pa (12 * c + 6) ||| ((1 : Int32) <<< (p &&& 31)))), (cp_a pa 7), (cp_a pa 8), (cp_a pa 9), (cp_a pa 10), (cp_a pa 11), mp, (cp_sp su 0), (cp_sp su 1), ss, ns))
    (h0 : ¬ (0 ≤ p ∧ p ≤ 15) → post 0 (cap, (nI n), anc, up, fl, ys, yf, yF, yR, (cp_a pa 0), (cp_a pa 1), (cp_a pa 2), (cp_a pa 3), (cp_a pa 4), (cp_a pa 5), (cp_a pa 6), (cp_a pa 7), (cp_a pa 8), (cp_a pa 9), (cp_a pa 10), (cp_a pa 11), mp, (cp_sp su 0), (cp_sp su 1), ss, ns)) : wpY_addPolicy post (cap, (nI n), anc, up, fl, ys, yf, yF, yR, (cp_a pa 0), (cp_a pa 1), (cp_a pa 2), (cp_a pa 3), (cp_a pa 4), (cp_a pa 5), (cp_a pa 6), (cp_a pa 7), (cp_a pa 8), (cp_a pa 9), (cp_a pa 10), (cp_a pa 11), mp, (cp_sp su 0), (cp_sp su 1), ss, ns) (nI c) p := by
  unfold wpY_addPolicy
  rw [nI_clamp (by omega)]
  have v : vp_in (nI c) 8 := vp_in_nI (by omega) (by omega)
  exact y_in hn hc (br_c (fun a => h0 (fun q => cp_neL a q.1)) (fun a => br_c (fun b => ⟨v, v, nm_e ((h1 ⟨Int32.not_lt.mp a, b⟩))⟩) (fun b => h0 (fun q => b q.2))))
theorem y_addMappingN {post : Int32 → SY → Prop} {n : Nat} {x s t : Int32} (hx : ¬ (0 ≤ x ∧ x < nI n)) (h : post 0 (cap, (nI n), anc, up, fl, ys, yf, yF, yR, (cp_a pa 0), (cp_a pa 1), (cp_a pa 2), (cp_a pa 3), (cp_a pa 4), (cp_a pa 5), (cp_a pa 6), (cp_a pa 7), (cp_a pa 8), (cp_a pa 9), (cp_a pa 10), (cp_a pa 11), mp, (cp_sp su 0), (cp_sp su 1), ss, ns)) : wpY_addMapping post (cap, (nI n), anc, up, fl, ys, yf, yF, yR, (cp_a pa 0), (cp_a pa 1), (cp_a pa 2), (cp_a pa 3), (cp_a pa 4), (cp_a pa 5), (cp_a pa 6), (cp_a pa 7), (cp_a pa 8), (cp_a pa 9), (cp_a pa 10), (cp_a pa 11), mp, (cp_sp su 0), (cp_sp su 1), ss, ns) x s t := by
  unfold wpY_addMapping
  exact y_cert hx h
theorem y_addMapping {post : Int32 → SY → Prop} {n c : Nat} (hn : n ≤ 8) (hc : c < n) {s t : Int32} (h1 : ∀ s' t' : Nat, s = nI s' → t = nI t' → 1 ≤ s' ∧ s' ≤ 15 → 1 ≤ t' ∧ t' ≤ 15 → post 1 (cap, (nI n), anc, up, fl, (-1), (-1), 0, 0, (cp_a pa 0), (cp_a pa 1), (cp_a pa 2), (cp_a pa 3), (cp_a pa 4), (cp_a pa 5), (cp_a pa 6), (cp_a pa 7), (cp_a pa 8), (cp_a pa 9), (cp_a pa 10), (cp_a pa 11), (upd mp (16 * c + s') (mp (16 * c + s') ||| ((1 : Int32) <<< (nI t' &&& 31)))), (cp_sp su 0), (cp_sp su 1), ss, ns))
    (h0 : ¬ ((1 ≤ s ∧ s ≤ 15) ∧ (1 ≤ t ∧ t ≤ 15)) → post 0 (cap, (nI n), anc, up, fl, ys, yf, yF, yR, (cp_a pa 0), (cp_a pa 1), (cp_a pa 2), (cp_a pa 3), (cp_a pa 4), (cp_a pa 5), (cp_a pa 6), (cp_a pa 7), (cp_a pa 8), (cp_a pa 9), (cp_a pa 10), (cp_a pa 11), mp, (cp_sp su 0), (cp_sp su 1), ss, ns)) : wpY_addMapping post (cap, (nI n), anc, up, fl, ys, yf, yF, yR, (cp_a pa 0), (cp_a pa 1), (cp_a pa 2), (cp_a pa 3), (cp_a pa 4), (cp_a pa 5), (cp_a pa 6), (cp_a pa 7), (cp_a pa 8), (cp_a pa 9), (cp_a pa 10), (cp_a pa 11), mp, (cp_sp su 0), (cp_sp su 1), ss, ns) (nI c) s t := by
  unfold wpY_addMapping
  refine y_in hn hc (br_c (fun a => h0 (fun q => cp_neL a q.1.1)) (fun a => br_c (fun b => h0 (fun q => cp_neR q.1.2 b)) (fun b => br_c (fun a' => h0 (fun q => cp_neL a' q.2.1)) (fun a' => br_c (fun b' => ?_) (fun b' => h0 (fun q => b' q.2.2))))))
  obtain ⟨s', s1, s2, rfl⟩ := x_rng (a := 1) (b := 15) (by omega) ⟨Int32.not_lt.mp a, Int32.not_lt.mp b⟩ (by omega)
  obtain ⟨t', t1, t2, rfl⟩ := x_rng (a := 1) (b := 15) (by omega) ⟨Int32.not_lt.mp a', b'⟩ (by omega)
  have e : nI c * 16 + nI s' = nI (16 * c + s') := x_ix
  rw [e, nI_clamp (by omega)]
  have v : vp_in (nI (16 * c + s')) 128 := vp_in_nI (by omega) (by omega)
  exact ⟨v, v, nm_e ((h1 s' t' rfl rfl ⟨s1, s2⟩ ⟨t1, t2⟩))⟩
theorem y_setPCN {post : Int32 → SY → Prop} {n : Nat} {x a b d : Int32} (hx : ¬ (0 ≤ x ∧ x < nI n)) (h : post 0 (cap, (nI n), anc, up, fl, ys, yf, yF, yR, (cp_a pa 0), (cp_a pa 1), (cp_a pa 2), (cp_a pa 3), (cp_a pa 4), (cp_a pa 5), (cp_a pa 6), (cp_a pa 7), (cp_a pa 8), (cp_a pa 9), (cp_a pa 10), (cp_a pa 11), mp, (cp_sp su 0), (cp_sp su 1), ss, ns)) : wpY_setPolicyConstraints post (cap, (nI n), anc, up, fl, ys, yf, yF, yR, (cp_a pa 0), (cp_a pa 1), (cp_a pa 2), (cp_a pa 3), (cp_a pa 4), (cp_a pa 5), (cp_a pa 6), (cp_a pa 7), (cp_a pa 8), (cp_a pa 9), (cp_a pa 10), (cp_a pa 11), mp, (cp_sp su 0), (cp_sp su 1), ss, ns) x a b d := by
  unfold wpY_setPolicyConstraints
  exact br_c (fun _ => h) (fun a => br_c (fun b => absurd ⟨Int32.not_lt.mp a, b⟩ hx) (fun _ => h))
theorem y_setPC {post : Int32 → SY → Prop} {n c : Nat} (hn : n ≤ 8) (hc : c < n) {a b d : Int32} (h1 : (-1 ≤ a ∧ a ≤ 15) ∧ (-1 ≤ b ∧ b ≤ 15) ∧ (-1 ≤ d ∧ d ≤ 15) → post 1 (cap, (nI n), anc, up, fl, (-1), (-1), 0, 0, (cp_a pa 0), (cp_a pa 1), (cp_a pa 2), (cp_a pa 3), (cp_a pa 4), (cp_a pa 5), (cp_a pa 6), (upd (cp_a pa 7) c a), (upd (cp_a pa 8) c b), (upd (cp_a pa 9) c d), (cp_a pa 10), (cp_a pa 11), mp, (cp_sp su 0), (cp_sp su 1), ss, ns))
    (h0 : ¬ ((-1 ≤ a ∧ a ≤ 15) ∧ (-1 ≤ b ∧ b ≤ 15) ∧ (-1 ≤ d ∧ d ≤ 15)) → post 0 (cap, (nI n), anc, up, fl, ys, yf, yF, yR, (cp_a pa 0), (cp_a pa 1), (cp_a pa 2), (cp_a pa 3), (cp_a pa 4), (cp_a pa 5), (cp_a pa 6), (cp_a pa 7), (cp_a pa 8), (cp_a pa 9), (cp_a pa 10), (cp_a pa 11), mp, (cp_sp su 0), (cp_sp su 1), ss, ns)) : wpY_setPolicyConstraints post (cap, (nI n), anc, up, fl, ys, yf, yF, yR, (cp_a pa 0), (cp_a pa 1), (cp_a pa 2), (cp_a pa 3), (cp_a pa 4), (cp_a pa 5), (cp_a pa 6), (cp_a pa 7), (cp_a pa 8), (cp_a pa 9), (cp_a pa 10), (cp_a pa 11), mp, (cp_sp su 0), (cp_sp su 1), ss, ns) (nI c) a b d := by
  unfold wpY_setPolicyConstraints
  rw [nI_clamp (by omega)]
  have v : vp_in (nI c) 8 := vp_in_nI (by omega) (by omega)
  exact br_f (nI_pos (by omega)) (br_t (nI_lt hc (by omega)) (br_c (fun a1 => h0 (fun q => cp_neL a1 q.1.1)) (fun a1 => br_c (fun a2 => h0 (fun q => cp_neR q.1.2 a2)) (fun a2 => br_c (fun b1 => h0 (fun q => cp_neL b1 q.2.1.1)) (fun b1 => br_c (fun b2 => br_c (fun d1 => h0 (fun q => cp_neL d1 q.2.2.1)) (fun d1 => br_c (fun d2 => ⟨v, nm_e ⟨v, nm_e ⟨v, nm_e ((h1 ⟨⟨Int32.not_lt.mp a1, Int32.not_lt.mp a2⟩, ⟨Int32.not_lt.mp b1, b2⟩, Int32.not_lt.mp d1, d2⟩))⟩⟩⟩) (fun d2 => h0 (fun q => d2 q.2.2.2)))) (fun b2 => h0 (fun q => b2 q.2.1.2)))))))
theorem y_kd {kd : Int32} (h0 : ¬ kd < 0) (h1 : ¬ 1 < kd) : kd = 0 ∨ kd = 1 := by
  obtain ⟨k, _, k2, rfl⟩ := x_rng (a := 0) (b := 1) (by omega) ⟨Int32.not_lt.mp h0, Int32.not_lt.mp h1⟩ (by omega)
  have : k = 0 ∨ k = 1 := by omega
  rcases this with rfl | rfl
  · exact Or.inl rfl
  · exact Or.inr rfl
theorem y_addSubtreeN {post : Int32 → SY → Prop} {n : Nat} {x kd nm : Int32} (hx : ¬ ((0 ≤ x ∧ x < nI n) ∧ (kd = 0 ∨ kd = 1) ∧ cp_nm nm)) (h : post 0 (cap, (nI n), anc, up, fl, ys, yf, yF, yR, (cp_a pa 0), (cp_a pa 1), (cp_a pa 2), (cp_a pa 3), (cp_a pa 4), (cp_a pa 5), (cp_a pa 6), (cp_a pa 7), (cp_a pa 8), (cp_a pa 9), (cp_a pa 10), (cp_a pa 11), mp, (cp_sp su 0), (cp_sp su 1), ss, ns)) : wpY_addSubtree post (cap, (nI n), anc, up, fl, ys, yf, yF, yR, (cp_a pa 0), (cp_a pa 1), (cp_a pa 2), (cp_a pa 3), (cp_a pa 4), (cp_a pa 5), (cp_a pa 6), (cp_a pa 7), (cp_a pa 8), (cp_a pa 9), (cp_a pa 10), (cp_a pa 11), mp, (cp_sp su 0), (cp_sp su 1), ss, ns) x kd nm := by
  unfold wpY_addSubtree
  exact br_c (fun _ => h) (fun a => br_c (fun _ => h) (fun b => br_c (fun _ => h) (fun k0 => br_c (fun _ => h) (fun k1 => y_isName (fun hn => absurd ⟨⟨Int32.not_lt.mp a, Int32.not_le.mp b⟩, y_kd k0 k1, hn⟩ hx) (fun _ => br_t rfl h)))))
theorem y_addSubtree0 {post : Int32 → SY → Prop} {n c K : Nat} (hn : n ≤ 8) (hc : c < n) (hK : K ≤ 4) (hp : pa (12 * c + 10) = nI K) {nm : Int32} (hnm : cp_nm nm)
    (h1 : K < 4 → post 1 (cap, (nI n), anc, up, fl, (-1), (-1), 0, 0, (cp_a pa 0), (cp_a pa 1), (cp_a pa 2), (cp_a pa 3), (cp_a pa 4), (cp_a pa 5), (cp_a pa 6), (cp_a pa 7), (cp_a pa 8), (cp_a pa 9), (upd (cp_a pa 10) c (nI (K + 1))), (cp_a pa 11), mp, (upd (cp_sp su 0) (4 * c + K) nm), (cp_sp su 1), ss, ns))
    (h0 : ¬ K < 4 → post 0 (cap, (nI n), anc, up, fl, ys, yf, yF, yR, (cp_a pa 0), (cp_a pa 1), (cp_a pa 2), (cp_a pa 3), (cp_a pa 4), (cp_a pa 5), (cp_a pa 6), (cp_a pa 7), (cp_a pa 8), (cp_a pa 9), (cp_a pa 10), (cp_a pa 11), mp, (cp_sp su 0), (cp_sp su 1), ss, ns)) : wpY_addSubtree post (cap, (nI n), anc, up, fl, ys, yf, yF, yR, (cp_a pa 0), (cp_a pa 1), (cp_a pa 2), (cp_a pa 3), (cp_a pa 4), (cp_a pa 5), (cp_a pa 6), (cp_a pa 7), (cp_a pa 8), (cp_a pa 9), (cp_a pa 10), (cp_a pa 11), mp, (cp_sp su 0), (cp_sp su 1), ss, ns) (nI c) 0 nm := by
  unfold wpY_addSubtree
  rw [nI_clamp (by omega)]
  have v : vp_in (nI c) 8 := vp_in_nI (by omega) (by omega)
  refine y_in hn hc (br_f (by decide) (br_f (by decide) (y_isName (fun _ => br_f (by decide) (br_t rfl ⟨v, ?_⟩)) (fun q => absurd hnm q))))
  have hp' : cp_a pa 10 c = nI K := hp
  rw [hp']
  refine pk_lt K 4 (fun k4 => ?_) (fun k4 => h0 (by omega))
  have e : nI c * 4 + nI K = nI (4 * c + K) := x_ix
  rw [e, nI_clamp (by omega), nI_1]
  exact ⟨v, vp_in_nI (by omega) (by omega), nm_e ⟨v, v, nm_e (h1 k4)⟩⟩
theorem y_addSubtree1 {post : Int32 → SY → Prop} {n c K : Nat} (hn : n ≤ 8) (hc : c < n) (hK : K ≤ 4) (hp : pa (12 * c + 11) = nI K) {nm : Int32} (hnm : cp_nm nm)
    (h1 : K < 4 → post 1 (cap, (nI n), anc, up, fl, (-1), (-1), 0, 0, (cp_a pa 0), (cp_a pa 1), (cp_a pa 2), (cp_a pa 3), (cp_a pa 4), (cp_a pa 5), (cp_a pa 6), (cp_a pa 7), (cp_a pa 8), (cp_a pa 9), (cp_a pa 10), (upd (cp_a pa 11) c (nI (K + 1))), mp, (cp_sp su 0), (upd (cp_sp su 1) (4 * c + K) nm), ss, ns))
    (h0 : ¬ K < 4 → post 0 (cap, (nI n), anc, up, fl, ys, yf, yF, yR, (cp_a pa 0), (cp_a pa 1), (cp_a pa 2), (cp_a pa 3), (cp_a pa 4), (cp_a pa 5), (cp_a pa 6), (cp_a pa 7), (cp_a pa 8), (cp_a pa 9), (cp_a pa 10), (cp_a pa 11), mp, (cp_sp su 0), (cp_sp su 1), ss, ns)) : wpY_addSubtree post (cap, (nI n), anc, up, fl, ys, yf, yF, yR, (cp_a pa 0), (cp_a pa 1), (cp_a pa 2), (cp_a pa 3), (cp_a pa 4), (cp_a pa 5), (cp_a pa 6), (cp_a pa 7), (cp_a pa 8), (cp_a pa 9), (cp_a pa 10), (cp_a pa 11), mp, (cp_sp su 0), (cp_sp su 1), ss, ns) (nI c) 1 nm := by
  unfold wpY_addSubtree
  rw [nI_clamp (by omega)]
  have v : vp_in (nI c) 8 := vp_in_nI (by omega) (by omega)
  refine y_in hn hc (br_f (by decide) (br_f (by decide) (y_isName (fun _ => br_f (by decide) (br_f (by decide) ⟨v, ?_⟩)) (fun q => absurd hnm q))))
  have hp' : cp_a pa 11 c = nI K := hp
  rw [hp']
  refine pk_lt K 4 (fun k4 => ?_) (fun k4 => h0 (by omega))
  have e : nI c * 4 + nI K = nI (4 * c + K) := x_ix
  rw [e, nI_clamp (by omega), nI_1]
  exact ⟨v, vp_in_nI (by omega) (by omega), nm_e ⟨v, v, nm_e (h1 k4)⟩⟩
theorem y_getSub {post : Int32 → Prop} {n c kd q K : Nat} (hn : n ≤ 8) (hc : c < n) (hkd : kd < 2) (hK : K ≤ 4) (hp : pa (12 * c + (10 + kd)) = nI K) (hq : q < 2 ^ 31)
    (h1 : q < K → post (su (8 * c + 4 * kd + q))) (h0 : ¬ q < K → post (-1)) : wpY_getSubtree post (cap, (nI n), anc, up, fl, ys, yf, yF, yR, (cp_a pa 0), (cp_a pa 1), (cp_a pa 2), (cp_a pa 3), (cp_a pa 4), (cp_a pa 5), (cp_a pa 6), (cp_a pa 7), (cp_a pa 8), (cp_a pa 9), (cp_a pa 10), (cp_a pa 11), mp, (cp_sp su 0), (cp_sp su 1), ss, ns) (nI c) (nI kd) (nI q) := by
  unfold wpY_getSubtree
  have v : vp_in (nI c) 8 := vp_in_nI (by omega) (by omega)
  have hcl : (nI c).toNatClampNeg = c := nI_clamp (by omega)
  have e4 : nI c * 4 + nI q = nI (4 * c + q) := x_ix
  have kk : kd = 0 ∨ kd = 1 := by omega
  rcases kk with rfl | rfl
  · refine y_in hn hc (br_f (by decide) (br_f (by decide) (br_t (nI_pos' hq) (br_t rfl ⟨v, ?_⟩))))
    have hp' : cp_a pa 10 c = nI K := hp
    rw [hcl, hp', e4]
    refine pk_le K q (fun a => h0 (by omega)) (fun a => br_t (nI_lt (b := 4) (by omega) (by omega)) ⟨vp_in_nI (by omega) (by omega), ?_⟩)
    rw [nI_clamp (by omega), cp_spk (by omega)]
    exact h1 a
  · refine y_in hn hc (br_f (by decide) (br_f (by decide) (br_t (nI_pos' hq) (br_f (by decide) ⟨v, ?_⟩))))
    have hp' : cp_a pa 11 c = nI K := hp
    rw [hcl, hp', e4]
    refine pk_le K q (fun a => h0 (by omega)) (fun a => br_t (nI_lt (b := 4) (by omega) (by omega)) ⟨vp_in_nI (by omega) (by omega), ?_⟩)
    rw [nI_clamp (by omega), cp_spk (by omega)]
    exact h1 a
end YC
end
section
/-! the relation, and what is owed -/
/-- X's state and Y's: the same numbers, Y's arrays cut out of X's; the sets of the last walk are free -/
def i_Rel (_ : Nat) (u : SX) (v : SY) : Prop := ∃ (kp n : Nat) (anc up fl ls lf la lr el ml al ll : Int32) (pa mp su ex no ss ns : Nat → Int32),
  n ≤ kp ∧ kp ≤ 8 ∧ cp_Inv pa mp su ∧ u = ((nI kp), (nI n), anc, up, fl, ls, lf, la, lr, el, ml, al, ll, pa, mp, su, ex, no) ∧ v = ((nI kp), (nI n), anc, up, fl, ls, lf, la, lr, (cp_a pa 0), (cp_a pa 1), (cp_a pa 2), (cp_a pa 3), (cp_a pa 4), (cp_a pa 5), (cp_a pa 6), (cp_a pa 7), (cp_a pa 8), (cp_a pa 9), (cp_a pa 10), (cp_a pa 11), mp, (cp_sp su 0), (cp_sp su 1), ss, ns)
section IR
variable {anc up fl ls lf la lr el ml al ll : Int32} {pa mp su ex no ss ns : Nat → Int32}
theorem i_mk {k kp n : Nat} (h1 : n ≤ kp) (h2 : kp ≤ 8) (h : cp_Inv pa mp su) : i_Rel k ((nI kp), (nI n), anc, up, fl, ls, lf, la, lr, el, ml, al, ll, pa, mp, su, ex, no) ((nI kp), (nI n), anc, up, fl, ls, lf, la, lr, (cp_a pa 0), (cp_a pa 1), (cp_a pa 2), (cp_a pa 3), (cp_a pa 4), (cp_a pa 5), (cp_a pa 6), (cp_a pa 7), (cp_a pa 8), (cp_a pa 9), (cp_a pa 10), (cp_a pa 11), mp, (cp_sp su 0), (cp_sp su 1), ss, ns) :=
  ⟨kp, n, anc, up, fl, ls, lf, la, lr, el, ml, al, ll, pa, mp, su, ex, no, ss, ns, h1, h2, h, rfl, rfl⟩
theorem i_mkE {k kp n : Nat} {v : SY} (h1 : n ≤ kp) (h2 : kp ≤ 8) (h : cp_Inv pa mp su) (e : v = ((nI kp), (nI n), anc, up, fl, ls, lf, la, lr, (cp_a pa 0), (cp_a pa 1), (cp_a pa 2), (cp_a pa 3), (cp_a pa 4), (cp_a pa 5), (cp_a pa 6), (cp_a pa 7), (cp_a pa 8), (cp_a pa 9), (cp_a pa 10), (cp_a pa 11), mp, (cp_sp su 0), (cp_sp su 1), ss, ns)) : i_Rel k ((nI kp), (nI n), anc, up, fl, ls, lf, la, lr, el, ml, al, ll, pa, mp, su, ex, no) v :=
  ⟨kp, n, anc, up, fl, ls, lf, la, lr, el, ml, al, ll, pa, mp, su, ex, no, ss, ns, h1, h2, h, rfl, e⟩
end IR
theorem i_up {k : Nat} {u : SX} {v : SY} (h : i_Rel k u v) : i_Rel (k + 5) u v := h
theorem i_vc0 (k0 : Int32) : wpX_init (fun u => wpY_init (fun v => i_Rel 1 u v) k0) k0 := by
  unfold wpX_init
  refine br_c (fun a => br_c (fun b => ?_) (fun b => ?_)) (fun a => ?_)
  · obtain ⟨kp, p1, p2, rfl⟩ := x_rng (a := 1) (b := 8) (by omega) ⟨a, b⟩ (by omega)
    exact br_t a (br_t b (i_mk (n := 0) (by omega) (by omega) cp_Inv0))
  · exact br_t a (br_f b (i_mk (kp := 8) (n := 0) (by omega) (by omega) cp_Inv0))
  · exact br_f a (br_t (by decide) (i_mk (kp := 1) (n := 0) (by omega) (by omega) cp_Inv0))
theorem i_vc_setAnchor {k : Nat} {u : SX} {v : SY} (I : i_Rel k u v) (hk : k + 5 ≤ 2561) (v1 : Int32) : wpX_setAnchor (fun r u' => wpY_setAnchor (fun r' v' => r' = r ∧ i_Rel (k + 5) u' v') v v1) u v1 := by
  obtain ⟨kp, n, anc, up, fl, ls, lf, la, lr, el, ml, al, ll, pa, mp, su, ex, no, ss, ns, h1, h2, hI, rfl, rfl⟩ := I
  exact x_setAnchor (fun c => y_setAnchor (fun _ => ⟨rfl, i_mk h1 h2 hI⟩) (fun d => absurd c d)) (fun d => y_setAnchor (fun c => absurd c d) (fun _ => ⟨rfl, i_mk h1 h2 hI⟩))
theorem i_vc_setInitial {k : Nat} {u : SX} {v : SY} (I : i_Rel k u v) (hk : k + 5 ≤ 2561) (v1 : Int32) (v2 : Int32) : wpX_setInitial (fun r u' => wpY_setInitial (fun r' v' => r' = r ∧ i_Rel (k + 5) u' v') v v1 v2) u v1 v2 := by
  obtain ⟨kp, n, anc, up, fl, ls, lf, la, lr, el, ml, al, ll, pa, mp, su, ex, no, ss, ns, h1, h2, hI, rfl, rfl⟩ := I
  exact x_setInitial (fun c => y_setInitial (fun _ => ⟨rfl, i_mk h1 h2 hI⟩) (fun d => absurd c d)) (fun d => y_setInitial (fun c => absurd c d) (fun _ => ⟨rfl, i_mk h1 h2 hI⟩))
theorem i_vc_addCert {k : Nat} {u : SX} {v : SY} (I : i_Rel k u v) (hk : k + 5 ≤ 2561) (v1 : Int32) (v2 : Int32) (v3 : Int32) (v4 : Int32) : wpX_addCert (fun r u' => wpY_addCert (fun r' v' => r' = r ∧ i_Rel (k + 5) u' v') v v1 v2 v3 v4) u v1 v2 v3 v4 := by
  obtain ⟨kp, n, anc, up, fl, ls, lf, la, lr, el, ml, al, ll, pa, mp, su, ex, no, ss, ns, h1, h2, hI, rfl, rfl⟩ := I
  refine x_addCert h2 h1 (fun c q mp' hq hm => y_addCert h2 h1 (fun _ mp2 hm2 => ⟨rfl, ?_⟩) (fun d => absurd c d)) (fun d => y_addCert h2 h1 (fun c => absurd c d) (fun _ => ⟨rfl, i_mk h1 h2 hI⟩))
  have em : mp2 = mp' := funext fun j => (hm2 j).trans (hm j).symm
  subst em
  refine i_mkE (ss := ss) (ns := ns) (by omega) h2 (cp_InvN (cp_InvN (cp_Inv1 (cp_InvN (cp_InvN (cp_InvN (cp_InvN (cp_InvN (cp_InvC hI hq hm) (by decide) (by decide) (by decide)) (by decide) (by decide) (by decide)) (by decide) (by decide) (by decide)) (by decide) (by decide) (by decide)) (by decide) (by decide) (by decide)) c.2.2) (by decide) (by decide) (by decide)) (by decide) (by decide) (by decide)) ?_
  simp (disch := decide) only [cp_aS, cp_aN, cp_aC (hk := (by decide : 0 < 12)) hq, cp_aC (hk := (by decide : 1 < 12)) hq, cp_aC (hk := (by decide : 2 < 12)) hq, cp_aC (hk := (by decide : 3 < 12)) hq, cp_aC (hk := (by decide : 4 < 12)) hq, cp_aC (hk := (by decide : 5 < 12)) hq, cp_aC (hk := (by decide : 6 < 12)) hq, cp_aC (hk := (by decide : 7 < 12)) hq, cp_aC (hk := (by decide : 8 < 12)) hq, cp_aC (hk := (by decide : 9 < 12)) hq, cp_aC (hk := (by decide : 10 < 12)) hq, cp_aC (hk := (by decide : 11 < 12)) hq, cp_uu]
theorem i_vc_removeLast {k : Nat} {u : SX} {v : SY} (I : i_Rel k u v) (hk : k + 5 ≤ 2561) : wpX_removeLast (fun r u' => wpY_removeLast (fun r' v' => r' = r ∧ i_Rel (k + 5) u' v') v) u := by
  obtain ⟨kp, n, anc, up, fl, ls, lf, la, lr, el, ml, al, ll, pa, mp, su, ex, no, ss, ns, h1, h2, hI, rfl, rfl⟩ := I
  exact x_removeLast (by omega) (fun c => y_removeLast (by omega) (fun _ => ⟨rfl, i_mk (by omega) h2 hI⟩) (fun d => absurd c (by omega))) (fun d => y_removeLast (by omega) (fun c => absurd c (by omega)) (fun _ => ⟨rfl, i_mk h1 h2 hI⟩))
theorem i_vc_setBasic {k : Nat} {u : SX} {v : SY} (I : i_Rel k u v) (hk : k + 5 ≤ 2561) (v1 : Int32) (v2 : Int32) (v3 : Int32) : wpX_setBasic (fun r u' => wpY_setBasic (fun r' v' => r' = r ∧ i_Rel (k + 5) u' v') v v1 v2 v3) u v1 v2 v3 := by
  obtain ⟨kp, n, anc, up, fl, ls, lf, la, lr, el, ml, al, ll, pa, mp, su, ex, no, ss, ns, h1, h2, hI, rfl, rfl⟩ := I
  have hn : n ≤ 8 := by omega
  by_cases hx : 0 ≤ v1 ∧ v1 < nI n
  · obtain ⟨c, hc, rfl⟩ := x_cert hn hx
    refine x_setBasic hn hc (fun q => y_setBasic hn hc (fun _ => ⟨rfl, i_mkE (ss := ss) (ns := ns) h1 h2 (cp_InvN (cp_InvN hI (by decide) (by decide) (by decide)) (by decide) (by decide) (by decide)) ?_⟩) (fun d => absurd q d)) (fun d => y_setBasic hn hc (fun q => absurd q d) (fun _ => ⟨rfl, i_mk h1 h2 hI⟩))
    simp (disch := decide) only [cp_aS, cp_aN]
  · exact x_setBasicN hn hx (y_setBasicN hx ⟨rfl, i_mk h1 h2 hI⟩)
theorem i_vc_addPolicy {k : Nat} {u : SX} {v : SY} (I : i_Rel k u v) (hk : k + 5 ≤ 2561) (v1 : Int32) (v2 : Int32) : wpX_addPolicy (fun r u' => wpY_addPolicy (fun r' v' => r' = r ∧ i_Rel (k + 5) u' v') v v1 v2) u v1 v2 := by
  obtain ⟨kp, n, anc, up, fl, ls, lf, la, lr, el, ml, al, ll, pa, mp, su, ex, no, ss, ns, h1, h2, hI, rfl, rfl⟩ := I
  have hn : n ≤ 8 := by omega
  by_cases hx : 0 ≤ v1 ∧ v1 < nI n
  · obtain ⟨c, hc, rfl⟩ := x_cert hn hx
    refine x_addPolicy hn hc (fun q => y_addPolicy hn hc (fun _ => ⟨rfl, i_mkE (ss := ss) (ns := ns) h1 h2 (cp_InvN hI (by decide) (by decide) (by decide)) ?_⟩) (fun d => absurd q d)) (fun d => y_addPolicy hn hc (fun q => absurd q d) (fun _ => ⟨rfl, i_mk h1 h2 hI⟩))
    simp (disch := decide) only [cp_aS, cp_aN]
  · exact x_addPolicyN hn hx (y_addPolicyN hx ⟨rfl, i_mk h1 h2 hI⟩)
theorem i_vc_addMapping {k : Nat} {u : SX} {v : SY} (I : i_Rel k u v) (hk : k + 5 ≤ 2561) (v1 : Int32) (v2 : Int32) (v3 : Int32) : wpX_addMapping (fun r u' => wpY_addMapping (fun r' v' => r' = r ∧ i_Rel (k + 5) u' v') v v1 v2 v3) u v1 v2 v3 := by
  obtain ⟨kp, n, anc, up, fl, ls, lf, la, lr, el, ml, al, ll, pa, mp, su, ex, no, ss, ns, h1, h2, hI, rfl, rfl⟩ := I
  have hn : n ≤ 8 := by omega
  by_cases hx : 0 ≤ v1 ∧ v1 < nI n
  · obtain ⟨c, hc, rfl⟩ := x_cert hn hx
    refine x_addMapping hn hc (fun s t es et s1 t1 => y_addMapping hn hc (fun s' t' es' et' s2 t2 => ⟨rfl, ?_⟩) (fun d => absurd ?_ d)) (fun d => y_addMapping hn hc (fun s t es et s1 t1 => absurd ?_ d) (fun _ => ⟨rfl, i_mk h1 h2 hI⟩))
    · have a : s' = s := (nI_eq (by omega) (by omega)).mp (es'.symm.trans es)
      have b : t' = t := (nI_eq (by omega) (by omega)).mp (et'.symm.trans et)
      subst a b
      exact i_mk h1 h2 (cp_InvT hI t1.1 t1.2)
    · rw [es, et]
      exact ⟨⟨nI_le (a := 1) s1.1 (by omega), nI_le (b := 15) s1.2 (by omega)⟩, nI_le (a := 1) t1.1 (by omega), nI_le (b := 15) t1.2 (by omega)⟩
    · rw [es, et]
      exact ⟨⟨nI_le (a := 1) s1.1 (by omega), nI_le (b := 15) s1.2 (by omega)⟩, nI_le (a := 1) t1.1 (by omega), nI_le (b := 15) t1.2 (by omega)⟩
  · exact x_addMappingN hn hx (y_addMappingN hx ⟨rfl, i_mk h1 h2 hI⟩)
theorem i_vc_setPolicyConstraints {k : Nat} {u : SX} {v : SY} (I : i_Rel k u v) (hk : k + 5 ≤ 2561) (v1 : Int32) (v2 : Int32) (v3 : Int32) (v4 : Int32) : wpX_setPolicyConstraints (fun r u' => wpY_setPolicyConstraints (fun r' v' => r' = r ∧ i_Rel (k + 5) u' v') v v1 v2 v3 v4) u v1 v2 v3 v4 := by
  obtain ⟨kp, n, anc, up, fl, ls, lf, la, lr, el, ml, al, ll, pa, mp, su, ex, no, ss, ns, h1, h2, hI, rfl, rfl⟩ := I
  have hn : n ≤ 8 := by omega
  by_cases hx : 0 ≤ v1 ∧ v1 < nI n
  · obtain ⟨c, hc, rfl⟩ := x_cert hn hx
    refine x_setPC hn hc (fun q => y_setPC hn hc (fun _ => ⟨rfl, i_mkE (ss := ss) (ns := ns) h1 h2 (cp_InvN (cp_InvN (cp_InvN hI (by decide) (by decide) (by decide)) (by decide) (by decide) (by decide)) (by decide) (by decide) (by decide)) ?_⟩) (fun d => absurd q d)) (fun d => y_setPC hn hc (fun q => absurd q d) (fun _ => ⟨rfl, i_mk h1 h2 hI⟩))
    simp (disch := decide) only [cp_aS, cp_aN]
  · exact x_setPCN hn hx (y_setPCN hx ⟨rfl, i_mk h1 h2 hI⟩)
theorem i_vc_addSubtree {k : Nat} {u : SX} {v : SY} (I : i_Rel k u v) (hk : k + 5 ≤ 2561) (v1 : Int32) (v2 : Int32) (v3 : Int32) : wpX_addSubtree (fun r u' => wpY_addSubtree (fun r' v' => r' = r ∧ i_Rel (k + 5) u' v') v v1 v2 v3) u v1 v2 v3 := by
  obtain ⟨kp, n, anc, up, fl, ls, lf, la, lr, el, ml, al, ll, pa, mp, su, ex, no, ss, ns, h1, h2, hI, rfl, rfl⟩ := I
  have hn : n ≤ 8 := by omega
  by_cases hx : (0 ≤ v1 ∧ v1 < nI n) ∧ (v2 = 0 ∨ v2 = 1) ∧ cp_nm v3
  · obtain ⟨hx, hkd, hnm⟩ := hx
    obtain ⟨c, hc, rfl⟩ := x_cert hn hx
    rcases hkd with rfl | rfl
    · obtain ⟨K, hK, hp⟩ := hI.2.1 c 0 (by decide)
      refine x_addSubtree (kd := 0) hn hc (by decide) hK hp hnm (fun q => y_addSubtree0 hn hc hK hp hnm (fun _ => ⟨rfl, i_mkE (ss := ss) (ns := ns) h1 h2 (cp_InvS (cp_InvK hI (by decide) (by omega)) hnm) ?_⟩) (fun d => absurd q d)) (fun d => y_addSubtree0 hn hc hK hp hnm (fun q => absurd q d) (fun _ => ⟨rfl, i_mk h1 h2 hI⟩))
      rw [cp_spS q (by decide), cp_spN q (by decide) (by decide) (by decide)]
      simp (disch := decide) only [cp_aS, cp_aN, Nat.add_zero, Nat.reduceAdd]
    · obtain ⟨K, hK, hp⟩ := hI.2.1 c 1 (by decide)
      refine x_addSubtree (kd := 1) hn hc (by decide) hK hp hnm (fun q => y_addSubtree1 hn hc hK hp hnm (fun _ => ⟨rfl, i_mkE (ss := ss) (ns := ns) h1 h2 (cp_InvS (cp_InvK hI (by decide) (by omega)) hnm) ?_⟩) (fun d => absurd q d)) (fun d => y_addSubtree1 hn hc hK hp hnm (fun q => absurd q d) (fun _ => ⟨rfl, i_mk h1 h2 hI⟩))
      rw [cp_spS q (by decide), cp_spN q (by decide) (by decide) (by decide)]
      simp (disch := decide) only [cp_aS, cp_aN, Nat.add_zero, Nat.reduceAdd]
  · exact x_addSubtreeN hn hx (y_addSubtreeN hx ⟨rfl, i_mk h1 h2 hI⟩)
theorem i_vc_validate {k : Nat} {u : SX} {v : SY} (I : i_Rel k u v) (hk : k + 5 ≤ 2561) (v1 : Int32) : wpX_validate (fun r u' => wpY_validate (fun r' v' => r' = r ∧ i_Rel (k + 5) u' v') v v1) u v1 := by
  obtain ⟨kp, n, anc, up, fl, ls, lf, la, lr, el, ml, al, ll, pa, mp, su, ex, no, ss, ns, h1, h2, hI, rfl, rfl⟩ := I
  have hn : n ≤ 8 := by omega
  by_cases h0 : n = 0
  · subst h0
    unfold wpX_validate
    refine br_t rfl (x_keep ?_)
    unfold wpY_validate
    exact br_t rfl (y_fail ⟨rfl, i_mk h1 h2 hI⟩)
  · obtain ⟨s, x, F, R, h⟩ := cp_tot (pa := pa) (mp := mp) (su := su) (anc := anc) (up := up) (tm := v1) (n := n) n 0 (cp_c0 fl 1 n) (cp_c0 fl 2 n) (cp_c0 fl 4 n) (nI n) cp_S0 (by omega) (by omega)
    refine x_val (by omega) hn hI.2.1 hI.2.2.1 (h _ fun el ml al ll ex no => ?_)
    exact y_val (by omega) hn hI.1 hI.2.2.2 hI.2.1 hI.2.2.1 (h _ fun ss ns => ⟨rfl, i_mk h1 h2 hI⟩)
theorem i_vc_getFailIndex {k : Nat} {u : SX} {v : SY} (I : i_Rel k u v) (hk : k + 5 ≤ 2561) : wpX_getFailIndex (fun r => wpY_getFailIndex (fun r' => r' = r ∧ i_Rel (k + 5) u v) v) u := by
  obtain ⟨kp, n, anc, up, fl, ls, lf, la, lr, el, ml, al, ll, pa, mp, su, ex, no, ss, ns, h1, h2, hI, rfl, rfl⟩ := I
  exact ⟨rfl, i_mk h1 h2 hI⟩
theorem i_vc_getPolicies {k : Nat} {u : SX} {v : SY} (I : i_Rel k u v) (hk : k + 5 ≤ 2561) : wpX_getPolicies (fun r => wpY_getPolicies (fun r' => r' = r ∧ i_Rel (k + 5) u v) v) u := by
  obtain ⟨kp, n, anc, up, fl, ls, lf, la, lr, el, ml, al, ll, pa, mp, su, ex, no, ss, ns, h1, h2, hI, rfl, rfl⟩ := I
  exact ⟨rfl, i_mk h1 h2 hI⟩
theorem i_vc_getAuthorityPolicies {k : Nat} {u : SX} {v : SY} (I : i_Rel k u v) (hk : k + 5 ≤ 2561) : wpX_getAuthorityPolicies (fun r => wpY_getAuthorityPolicies (fun r' => r' = r ∧ i_Rel (k + 5) u v) v) u := by
  obtain ⟨kp, n, anc, up, fl, ls, lf, la, lr, el, ml, al, ll, pa, mp, su, ex, no, ss, ns, h1, h2, hI, rfl, rfl⟩ := I
  exact ⟨rfl, i_mk h1 h2 hI⟩
theorem i_12 {f : Nat} (h : f < 12) : f = 0 ∨ f = 1 ∨ f = 2 ∨ f = 3 ∨ f = 4 ∨ f = 5 ∨ f = 6 ∨ f = 7 ∨ f = 8 ∨ f = 9 ∨ f = 10 ∨ f = 11 := by omega
theorem i_6 {f : Nat} (h : f < 6) : f = 0 ∨ f = 1 ∨ f = 2 ∨ f = 3 ∨ f = 4 ∨ f = 5 := by omega
theorem i_out {x : Int32} {b c : Nat} (hb : b < 2 ^ 31) (hc : c ≤ b) (h : ¬ (0 ≤ x ∧ x ≤ nI b)) : ¬ x = nI c := by
  rintro rfl
  exact h ⟨nI_pos' (by omega), nI_le hc (by omega)⟩
theorem i_vc_getField {k : Nat} {u : SX} {v : SY} (I : i_Rel k u v) (hk : k + 5 ≤ 2561) (v1 : Int32) (v2 : Int32) : wpX_getField (fun r => wpY_getField (fun r' => r' = r ∧ i_Rel (k + 5) u v) v v1 v2) u v1 v2 := by
  obtain ⟨kp, n, anc, up, fl, ls, lf, la, lr, el, ml, al, ll, pa, mp, su, ex, no, ss, ns, h1, h2, hI, rfl, rfl⟩ := I
  have hn : n ≤ 8 := by omega
  have J : i_Rel (k + 5) ((nI kp), (nI n), anc, up, fl, ls, lf, la, lr, el, ml, al, ll, pa, mp, su, ex, no) ((nI kp), (nI n), anc, up, fl, ls, lf, la, lr, (cp_a pa 0), (cp_a pa 1), (cp_a pa 2), (cp_a pa 3), (cp_a pa 4), (cp_a pa 5), (cp_a pa 6), (cp_a pa 7), (cp_a pa 8), (cp_a pa 9), (cp_a pa 10), (cp_a pa 11), mp, (cp_sp su 0), (cp_sp su 1), ss, ns) := i_mk h1 h2 hI
  generalize hu : i_Rel (k + 5) ((nI kp), (nI n), anc, up, fl, ls, lf, la, lr, el, ml, al, ll, pa, mp, su, ex, no) ((nI kp), (nI n), anc, up, fl, ls, lf, la, lr, (cp_a pa 0), (cp_a pa 1), (cp_a pa 2), (cp_a pa 3), (cp_a pa 4), (cp_a pa 5), (cp_a pa 6), (cp_a pa 7), (cp_a pa 8), (cp_a pa 9), (cp_a pa 10), (cp_a pa 11), mp, (cp_sp su 0), (cp_sp su 1), ss, ns) = JJ at J ⊢
  unfold wpX_getField
  by_cases hm : v1 = -1
  · refine br_t hm ?_
    unfold wpX_globalField
    by_cases hr : 0 ≤ v2 ∧ v2 ≤ 5
    · obtain ⟨f, _, f2, rfl⟩ := x_rng (a := 0) (b := 5) (by omega) hr (by omega)
      refine br_f (nI_pos (by omega)) (br_f (nI_nlt (a := 5) (by omega) (by omega)) ?_)
      rcases i_6 (f := f) (by omega) with rfl | rfl | rfl | rfl | rfl | rfl
      · exact br_t rfl (br_t hm (br_t rfl ⟨rfl, J⟩))
      · exact br_f (by decide) (br_t rfl (br_t hm (br_f (by decide) (br_t rfl ⟨rfl, J⟩))))
      · exact br_f (by decide) (br_f (by decide) (br_t rfl (br_t hm (br_f (by decide) (br_f (by decide) (br_t rfl ⟨rfl, J⟩))))))
      · exact br_f (by decide) (br_f (by decide) (br_f (by decide) (br_t rfl (br_t hm (br_f (by decide) (br_f (by decide) (br_f (by decide) (br_t rfl ⟨rfl, J⟩))))))))
      · exact br_f (by decide) (br_f (by decide) (br_f (by decide) (br_f (by decide) (br_t rfl (br_t hm (br_f (by decide) (br_f (by decide) (br_f (by decide) (br_f (by decide) (br_t rfl ⟨rfl, J⟩))))))))))
      · exact br_f (by decide) (br_f (by decide) (br_f (by decide) (br_f (by decide) (br_f (by decide) (br_t rfl (br_t hm (br_f (by decide) (br_f (by decide) (br_f (by decide) (br_f (by decide) (br_f (by decide) (br_t rfl ⟨rfl, J⟩))))))))))))
    · have hy := fun c (hc : c ≤ 5) => i_out (b := 5) (c := c) (by omega) hc hr
      have fin : wpY_getField (fun r' => r' = -2147483648 ∧ JJ) ((nI kp), (nI n), anc, up, fl, ls, lf, la, lr, (cp_a pa 0), (cp_a pa 1), (cp_a pa 2), (cp_a pa 3), (cp_a pa 4), (cp_a pa 5), (cp_a pa 6), (cp_a pa 7), (cp_a pa 8), (cp_a pa 9), (cp_a pa 10), (cp_a pa 11), mp, (cp_sp su 0), (cp_sp su 1), ss, ns) v1 v2 := by
        unfold wpY_getField
        exact br_t hm (br_f (hy 0 (by omega)) (br_f (hy 1 (by omega)) (br_f (hy 2 (by omega)) (br_f (hy 3 (by omega)) (br_f (hy 4 (by omega)) (br_f (hy 5 (by omega)) ⟨rfl, J⟩))))))
      exact br_c (fun _ => fin) (fun a => br_c (fun _ => fin) (fun b => absurd ⟨Int32.not_lt.mp a, Int32.not_lt.mp b⟩ hr))
  · refine br_f hm ?_
    by_cases hx : 0 ≤ v1 ∧ v1 < nI n
    · obtain ⟨c, hc, rfl⟩ := x_cert hn hx
      have v : vp_in (nI c) 8 := vp_in_nI (by omega) (by omega)
      have hcl : (nI c).toNatClampNeg = c := nI_clamp (by omega)
      refine x_isCert hn (fun _ => br_f (by decide) (x_inRange (fun hr => br_f (by decide) ?_) (fun hr => br_t rfl ?_))) (fun q => absurd hx q)
      · obtain ⟨f, _, f2, rfl⟩ := x_rng (a := 0) (b := 11) (by omega) hr (by omega)
        refine x_part (by omega) (by omega) ?_
        unfold wpY_getField
        rw [hcl]
        refine br_f hm (br_f (nI_pos (by omega)) (br_t (nI_lt hc (by omega)) ?_))
        rcases i_12 (f := f) (by omega) with rfl | rfl | rfl | rfl | rfl | rfl | rfl | rfl | rfl | rfl | rfl | rfl
        · exact br_t rfl ⟨v, rfl, J⟩
        · exact br_f (by decide) (br_t rfl ⟨v, rfl, J⟩)
        · exact br_f (by decide) (br_f (by decide) (br_t rfl ⟨v, rfl, J⟩))
        · exact br_f (by decide) (br_f (by decide) (br_f (by decide) (br_t rfl ⟨v, rfl, J⟩)))
        · exact br_f (by decide) (br_f (by decide) (br_f (by decide) (br_f (by decide) (br_t rfl ⟨v, rfl, J⟩))))
        · exact br_f (by decide) (br_f (by decide) (br_f (by decide) (br_f (by decide) (br_f (by decide) (br_t rfl ⟨v, rfl, J⟩)))))
        · exact br_f (by decide) (br_f (by decide) (br_f (by decide) (br_f (by decide) (br_f (by decide) (br_f (by decide) (br_t rfl ⟨v, rfl, J⟩))))))
        · exact br_f (by decide) (br_f (by decide) (br_f (by decide) (br_f (by decide) (br_f (by decide) (br_f (by decide) (br_f (by decide) (br_t rfl ⟨v, rfl, J⟩)))))))
        · exact br_f (by decide) (br_f (by decide) (br_f (by decide) (br_f (by decide) (br_f (by decide) (br_f (by decide) (br_f (by decide) (br_f (by decide) (br_t rfl ⟨v, rfl, J⟩))))))))
        · exact br_f (by decide) (br_f (by decide) (br_f (by decide) (br_f (by decide) (br_f (by decide) (br_f (by decide) (br_f (by decide) (br_f (by decide) (br_f (by decide) (br_t rfl ⟨v, rfl, J⟩)))))))))
        · exact br_f (by decide) (br_f (by decide) (br_f (by decide) (br_f (by decide) (br_f (by decide) (br_f (by decide) (br_f (by decide) (br_f (by decide) (br_f (by decide) (br_f (by decide) (br_t rfl ⟨v, rfl, J⟩))))))))))
        · exact br_f (by decide) (br_f (by decide) (br_f (by decide) (br_f (by decide) (br_f (by decide) (br_f (by decide) (br_f (by decide) (br_f (by decide) (br_f (by decide) (br_f (by decide) (br_f (by decide) (br_t rfl ⟨v, rfl, J⟩)))))))))))
      · have hy := fun c (hc : c ≤ 11) => i_out (b := 11) (c := c) (by omega) hc hr
        unfold wpY_getField
        exact br_f hm (br_f (nI_pos (by omega)) (br_t (nI_lt hc (by omega)) (br_f (hy 0 (by omega)) (br_f (hy 1 (by omega)) (br_f (hy 2 (by omega)) (br_f (hy 3 (by omega)) (br_f (hy 4 (by omega)) (br_f (hy 5 (by omega)) (br_f (hy 6 (by omega)) (br_f (hy 7 (by omega)) (br_f (hy 8 (by omega)) (br_f (hy 9 (by omega)) (br_f (hy 10 (by omega)) (br_f (hy 11 (by omega)) ⟨rfl, J⟩))))))))))))))
    · refine x_isCert hn (fun q => absurd q hx) (fun _ => br_t rfl ?_)
      unfold wpY_getField
      exact br_f hm (br_c (fun _ => ⟨rfl, J⟩) (fun a => br_c (fun b => absurd ⟨Int32.not_lt.mp a, b⟩ hx) (fun _ => ⟨rfl, J⟩)))
theorem i_vc_getMappingTargets {k : Nat} {u : SX} {v : SY} (I : i_Rel k u v) (hk : k + 5 ≤ 2561) (v1 : Int32) (v2 : Int32) : wpX_getMappingTargets (fun r => wpY_getMappingTargets (fun r' => r' = r ∧ i_Rel (k + 5) u v) v v1 v2) u v1 v2 := by
  obtain ⟨kp, n, anc, up, fl, ls, lf, la, lr, el, ml, al, ll, pa, mp, su, ex, no, ss, ns, h1, h2, hI, rfl, rfl⟩ := I
  have hn : n ≤ 8 := by omega
  have J : i_Rel (k + 5) ((nI kp), (nI n), anc, up, fl, ls, lf, la, lr, el, ml, al, ll, pa, mp, su, ex, no) ((nI kp), (nI n), anc, up, fl, ls, lf, la, lr, (cp_a pa 0), (cp_a pa 1), (cp_a pa 2), (cp_a pa 3), (cp_a pa 4), (cp_a pa 5), (cp_a pa 6), (cp_a pa 7), (cp_a pa 8), (cp_a pa 9), (cp_a pa 10), (cp_a pa 11), mp, (cp_sp su 0), (cp_sp su 1), ss, ns) := i_mk h1 h2 hI
  unfold wpX_getMappingTargets
  by_cases hx : 0 ≤ v1 ∧ v1 < nI n
  · obtain ⟨c, hc, rfl⟩ := x_cert hn hx
    refine x_isCert hn (fun _ => br_f (by decide) (x_isSpec (fun hs => br_f (by decide) ?_) (fun hs => br_t rfl ?_))) (fun q => absurd hx q)
    · obtain ⟨s, s1, s2, rfl⟩ := x_rng (a := 1) (b := 15) (by omega) hs (by omega)
      refine x_targets (by omega) (by omega) ?_
      unfold wpY_getMappingTargets
      have e : nI c * 16 + nI s = nI (16 * c + s) := x_ix
      rw [e, nI_clamp (by omega)]
      exact y_in hn hc (br_f (Int32.not_lt.mpr hs.1) (br_t hs.2 ⟨vp_in_nI (by omega) (by omega), rfl, J⟩))
    · unfold wpY_getMappingTargets
      exact y_in hn hc (br_c (fun _ => ⟨rfl, J⟩) (fun a => br_c (fun b => absurd ⟨Int32.not_lt.mp a, b⟩ hs) (fun _ => ⟨rfl, J⟩)))
  · refine x_isCert hn (fun q => absurd q hx) (fun _ => br_t rfl ?_)
    unfold wpY_getMappingTargets
    exact y_cert hx ⟨rfl, J⟩
theorem i_vc_getSubtree {k : Nat} {u : SX} {v : SY} (I : i_Rel k u v) (hk : k + 5 ≤ 2561) (v1 : Int32) (v2 : Int32) (v3 : Int32) : wpX_getSubtree (fun r => wpY_getSubtree (fun r' => r' = r ∧ i_Rel (k + 5) u v) v v1 v2 v3) u v1 v2 v3 := by
  obtain ⟨kp, n, anc, up, fl, ls, lf, la, lr, el, ml, al, ll, pa, mp, su, ex, no, ss, ns, h1, h2, hI, rfl, rfl⟩ := I
  have hn : n ≤ 8 := by omega
  have J : i_Rel (k + 5) ((nI kp), (nI n), anc, up, fl, ls, lf, la, lr, el, ml, al, ll, pa, mp, su, ex, no) ((nI kp), (nI n), anc, up, fl, ls, lf, la, lr, (cp_a pa 0), (cp_a pa 1), (cp_a pa 2), (cp_a pa 3), (cp_a pa 4), (cp_a pa 5), (cp_a pa 6), (cp_a pa 7), (cp_a pa 8), (cp_a pa 9), (cp_a pa 10), (cp_a pa 11), mp, (cp_sp su 0), (cp_sp su 1), ss, ns) := i_mk h1 h2 hI
  unfold wpX_getSubtree
  by_cases hx : 0 ≤ v1 ∧ v1 < nI n
  · obtain ⟨c, hc, rfl⟩ := x_cert hn hx
    have v : vp_in (nI c) 8 := vp_in_nI (by omega) (by omega)
    refine x_isCert hn (fun _ => br_f (by decide) (x_isKind (fun hkd => br_f (by decide) (br_c (fun a => ?_) (fun a => ?_))) (fun hkd => br_t rfl ?_))) (fun q => absurd hx q)
    · unfold wpY_getSubtree
      have hkd' : ¬ v2 < 0 ∧ ¬ 1 < v2 := by rcases hkd with rfl | rfl <;> decide
      exact y_in hn hc (br_f hkd'.1 (br_f hkd'.2 (br_f (Int32.not_le.mpr a) ⟨rfl, J⟩)))
    · obtain ⟨q, hq, rfl⟩ := nI_of a
      obtain ⟨kd, hkd2, rfl⟩ : ∃ kd, kd < 2 ∧ v2 = nI kd := by
        rcases hkd with h | h
        · exact ⟨0, by decide, h⟩
        · exact ⟨1, by decide, h⟩
      obtain ⟨K, hK, hp⟩ := hI.2.1 c kd hkd2
      refine x_subCnt (by omega) hkd2 ?_
      rw [hp]
      refine pk_lt q K (fun hqK => x_first ?_) (fun hqK => ?_)
      · have e : nI (8 * c + 4 * kd) + nI q = nI (8 * c + 4 * kd + q) := nI_add _ _
        rw [e, nI_clamp (by omega)]
        exact ⟨vp_in_nI (by omega) (by omega), y_getSub hn hc hkd2 hK hp hq (fun _ => ⟨rfl, J⟩) (fun a => absurd hqK a)⟩
      · exact y_getSub hn hc hkd2 hK hp hq (fun a => absurd a (by omega)) (fun _ => ⟨rfl, J⟩)
    · unfold wpY_getSubtree
      exact y_in hn hc (br_c (fun _ => ⟨rfl, J⟩) (fun k0 => br_c (fun _ => ⟨rfl, J⟩) (fun k1 => absurd (y_kd k0 k1) hkd)))
  · refine x_isCert hn (fun q => absurd q hx) (fun _ => br_t rfl ?_)
    unfold wpY_getSubtree
    exact y_cert hx ⟨rfl, J⟩
end
