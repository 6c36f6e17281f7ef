/-! the law's sets: masks of sixteen pairs -/
def cw_R (m : Int32) (S : Nat → Nat → Prop) : Prop := ∀ q, q < 32 → (bt m q = true ↔ q < 16 ∧ S (q / 4) (q % 4))
def cw_Z (S : Nat → Nat → Prop) : Prop := ∀ d v, d < 16 → v < 16 → S d v → d < 4 ∧ v < 4
def cw_ad (m0 m1 : Int32) (P : Nat → Prop) : Prop := ∀ j, j < 32 → (bt m1 j = true ↔ bt m0 j = true ∨ P j)
theorem cw_ad0 {m0 : Int32} {P : Nat → Prop} (h : ∀ j, ¬ P j) : cw_ad m0 m0 P := fun j _ => ⟨Or.inl, fun q => q.elim id (fun z => absurd z (h j))⟩
theorem cw_adn {m0 m1 : Int32} {P P' : Nat → Prop} (h : cw_ad m0 m1 P) (hp : ∀ j, P' j ↔ P j) : cw_ad m0 m1 P' := fun j hj => by rw [hp j]; exact h j hj
theorem cw_adh {m0 m1 : Int32} {P P' : Nat → Prop} {x : Nat} (hx : x < 32) (h : cw_ad m0 m1 P) (hp : ∀ j, P' j ↔ P j ∨ j = x) : cw_ad m0 (m1 ||| ((1 : Int32) <<< (nI x &&& 31))) P' := by
  intro j hj
  rw [hp j, cx_or1 hx hj, h j hj, or_assoc]
theorem cw_ad1 {m0 m1 : Int32} {P P' : Nat → Prop} (h : cw_ad m0 m1 P) (hp : ∀ j, P' j ↔ P j ∨ j = 0) : cw_ad m0 (m1 ||| 1) P' := by
  intro j hj
  rw [hp j, cx_or0 hj, h j hj, or_assoc]
def cw_I (A : Nat → Nat → Prop) (s : Int32) (k : Nat) (m : Int32) : Prop := ∀ j, j < 32 → (bt m j = true ↔ ∃ x, x < k ∧ bt s x = true ∧ A x j)
theorem cw_I0 {A : Nat → Nat → Prop} {s : Int32} : cw_I A s 0 0 := by
  intro j hj
  rw [b_0]
  constructor
  · intro z; exact absurd z (by decide)
  · rintro ⟨x, a, _⟩; omega
theorem cw_In {A : Nat → Nat → Prop} {s m : Int32} {k : Nat} (h : cw_I A s k m) (hz : bt s k = false) : cw_I A s (k + 1) m := by
  intro j hj
  rw [h j hj]
  constructor
  · rintro ⟨x, a, b⟩; exact ⟨x, by omega, b⟩
  · rintro ⟨x, a, b, c⟩
    by_cases e : x = k
    · subst e; rw [hz] at b; exact absurd b (by decide)
    · exact ⟨x, by omega, b, c⟩
theorem cw_Is {A : Nat → Nat → Prop} {s m m' : Int32} {k : Nat} (h : cw_I A s k m) (hz : bt s k = true) (hn : cw_ad m m' (A k)) : cw_I A s (k + 1) m' := by
  intro j hj
  rw [hn j hj, h j hj]
  constructor
  · rintro (⟨x, a, b⟩ | a)
    · exact ⟨x, by omega, b⟩
    · exact ⟨k, by omega, hz, a⟩
  · rintro ⟨x, a, b, c⟩
    by_cases e : x = k
    · subst e; exact Or.inr c
    · exact Or.inl ⟨x, by omega, b, c⟩
def cw_A (C : Int32) (an op : Prop) (T : Nat → Int32) (x j : Nat) : Prop :=
  (x % 4 ≠ 0 ∧ j = x ∧ (bt C (x % 4) = true ∨ an)) ∨ (x % 4 = 0 ∧ ((∃ q, 1 ≤ q ∧ q < 4 ∧ bt C q = true ∧ j = 5 * q) ∨ (an ∧ (j = 0 ∨ (op ∧ ∃ q, 1 ≤ q ∧ q < 4 ∧ ¬ T q = 0 ∧ j = 5 * q)))))
def cw_C4 (C : Int32) : Prop := ∀ v, 4 ≤ v → v < 32 → bt C v = false
def cw_T4 (T : Nat → Int32) : Prop := ∀ v, v < 16 → (4 ≤ v → T v = 0) ∧ ∀ t, t < 32 → bt (T v) t = true → 1 ≤ t ∧ t < 4
theorem cw_N {s m : Int32} {S : Nat → Nat → Prop} {C : Int32} {an op : Prop} {T : Nat → Int32} (hZ : cp_Z S) (h : cw_R s S) (hI : cw_I (cw_A C an op T) s 16 m) : cw_R m (cp_N S C an op T) := by
  intro j hj
  rw [hI j hj]
  unfold cp_N cw_A
  constructor
  · rintro ⟨x, hx, hs, ⟨a, rfl, b⟩ | ⟨a, b⟩⟩
    · exact ⟨hx, Or.inl ⟨a, ((h j hj).mp hs).2, b⟩⟩
    · have h0 := ((h x (by omega)).mp hs).2
      rw [a] at h0
      have h1 := hZ _ h0
      rw [h1] at h0
      rcases b with ⟨q, q1, q2, q3, rfl⟩ | ⟨c, rfl | ⟨q3, q, q1, q2, q4, rfl⟩⟩
      · have e1 : 5 * q / 4 = q := by omega
        have e2 : 5 * q % 4 = q := by omega
        rw [e1, e2]
        exact ⟨by omega, Or.inr ⟨rfl, h0, Or.inl ⟨by omega, Or.inl q3⟩⟩⟩
      · exact ⟨by omega, Or.inr ⟨rfl, h0, Or.inr ⟨rfl, c⟩⟩⟩
      · have e1 : 5 * q / 4 = q := by omega
        have e2 : 5 * q % 4 = q := by omega
        rw [e1, e2]
        exact ⟨by omega, Or.inr ⟨rfl, h0, Or.inl ⟨by omega, Or.inr ⟨c, q3, q4⟩⟩⟩⟩
  · rintro ⟨j16, ⟨a, b, c⟩ | ⟨a, b, c⟩⟩
    · exact ⟨j, j16, (h j hj).mpr ⟨j16, b⟩, Or.inl ⟨a, rfl, c⟩⟩
    · refine ⟨0, by omega, (h 0 (by omega)).mpr ⟨by omega, b⟩, Or.inr ⟨rfl, ?_⟩⟩
      have hj5 : j = 5 * (j % 4) := by omega
      rcases c with ⟨c1, c2 | ⟨c2, c3, c4⟩⟩ | ⟨c1, c2⟩
      · exact Or.inl ⟨j % 4, by omega, by omega, c2, hj5⟩
      · exact Or.inr ⟨c2, Or.inr ⟨c3, j % 4, by omega, by omega, c4, hj5⟩⟩
      · exact Or.inr ⟨c2, Or.inl (by omega)⟩
theorem cw_ZN {S : Nat → Nat → Prop} {C : Int32} {an op : Prop} {T : Nat → Int32} (hS : cw_Z S) (hC : cw_C4 C) (hT : cw_T4 T) : cw_Z (cp_N S C an op T) := by
  rintro d v hd hv (⟨_, b, _⟩ | ⟨rfl, _, ⟨_, c | ⟨_, _, c⟩⟩ | ⟨c, _⟩⟩)
  · exact hS d v hd hv b
  · have : d < 4 := by
      apply Classical.byContradiction
      intro q
      rw [hC d (by omega) (by omega)] at c
      exact absurd c (by decide)
    exact ⟨this, this⟩
  · have : d < 4 := by
      apply Classical.byContradiction
      intro q
      exact c ((hT d hd).1 (by omega))
    exact ⟨this, this⟩
  · omega
theorem cw_em {m : Int32} {N : Nat → Nat → Prop} (h : cw_R m N) (hZ : cw_Z N) : m = 0 ↔ cp_em N := by
  constructor
  · rintro rfl d v hd hv hN
    have hz := hZ d v hd hv hN
    have e1 : (4 * d + v) / 4 = d := by omega
    have e2 : (4 * d + v) % 4 = v := by omega
    have := (h (4 * d + v) (by omega)).mpr ⟨by omega, by rw [e1, e2]; exact hN⟩
    rw [b_0] at this
    exact absurd this (by decide)
  · intro he
    refine cq_z.mpr fun q hq => ?_
    cases hb : bt m q with
    | false => rfl
    | true =>
      obtain ⟨a, b⟩ := (h q hq).mp hb
      exact absurd b (he _ _ (by omega) (by omega))
def cw_B (p : Int32) (T : Nat → Int32) (x j : Nat) : Prop :=
  (¬ (x % 4 ≠ 0 ∧ ¬ T (x % 4) = 0) ∧ j = x) ∨ ((x % 4 ≠ 0 ∧ ¬ T (x % 4) = 0) ∧ 0 < p ∧ ∃ t, 1 ≤ t ∧ t < 4 ∧ bt (T (x % 4)) t = true ∧ j = 4 * (x / 4) + t)
theorem cw_S {s m : Int32} {N : Nat → Nat → Prop} {p : Int32} {T : Nat → Int32} (hT : cw_T4 T) (hZ : cw_Z N) (h : cw_R m N) (hI : cw_I (cw_B p T) m 16 s) : cw_R s (cp_S N p T) := by
  intro j hj
  rw [hI j hj]
  unfold cp_S cw_B
  constructor
  · rintro ⟨x, hx, hs, ⟨a, rfl⟩ | ⟨⟨a, b⟩, c, t, t1, t2, t3, rfl⟩⟩
    · refine ⟨hx, Or.inl ⟨((h j hj).mp hs).2, ?_⟩⟩
      by_cases z : j % 4 = 0
      · exact Or.inl z
      · exact Or.inr (Classical.byContradiction fun hn => a ⟨z, hn⟩)
    · have e1 : (4 * (x / 4) + t) / 4 = x / 4 := by omega
      have e2 : (4 * (x / 4) + t) % 4 = t := by omega
      rw [e1, e2]
      exact ⟨by omega, Or.inr ⟨c, x % 4, by omega, a, ((h x (by omega)).mp hs).2, b, t3⟩⟩
  · rintro ⟨j16, ⟨a, b⟩ | ⟨a, v, v1, v2, v3, v4, v5⟩⟩
    · refine ⟨j, j16, (h j hj).mpr ⟨j16, a⟩, Or.inl ⟨?_, rfl⟩⟩
      rintro ⟨c, d⟩
      rcases b with b | b
      · exact c b
      · exact d b
    · have hz := hZ (j / 4) v (by omega) v1 v3
      have e1 : (4 * (j / 4) + v) / 4 = j / 4 := by omega
      have e2 : (4 * (j / 4) + v) % 4 = v := by omega
      have ht := (hT v v1).2 (j % 4) (by omega) v5
      refine ⟨4 * (j / 4) + v, by omega, (h _ (by omega)).mpr ⟨by omega, ?_⟩, Or.inr ?_⟩
      · rw [e1, e2]; exact v3
      · rw [e1, e2]; exact ⟨⟨v2, v4⟩, a, j % 4, ht.1, ht.2, v5, by omega⟩
theorem cw_ZS {N : Nat → Nat → Prop} {p : Int32} {T : Nat → Int32} (hT : cw_T4 T) (hZ : cw_Z N) : cw_Z (cp_S N p T) := by
  rintro d v hd hv (⟨a, _⟩ | ⟨_, w, w1, _, w3, _, w5⟩)
  · exact hZ d v hd hv a
  · exact ⟨(hZ d w hd w1 w3).1, ((hT w w1).2 v (by omega) w5).2⟩
theorem cw_R0 : cw_R 1 cp_S0 := by
  intro q hq
  rw [cq_1 q hq, decide_eq_true_eq]
  unfold cp_S0
  omega
theorem cw_Z0 : cw_Z cp_S0 := by
  rintro d v _ _ ⟨rfl, rfl⟩
  omega
def cw_r (m : Int32) (k : Nat) (r : Int32) : Prop := ∀ d, d < 32 → (bt r d = true ↔ ∃ x, x < k ∧ bt m x = true ∧ x / 4 = d)
theorem cw_r0 {m : Int32} : cw_r m 0 0 := fun d _ => by rw [b_0]; simp
theorem cw_rz {m r : Int32} {k : Nat} (h : cw_r m k r) (hz : bt m k = false) : cw_r m (k + 1) r := by
  intro d hd
  rw [h d hd]
  constructor
  · rintro ⟨x, a, b⟩; exact ⟨x, by omega, b⟩
  · rintro ⟨x, a, b, c⟩
    by_cases e : x = k
    · subst e; rw [hz] at b; exact absurd b (by decide)
    · exact ⟨x, by omega, b, c⟩
theorem cw_rs {m r : Int32} {k : Nat} (hk : k < 16) (h : cw_r m k r) (hz : bt m k = true) : cw_r m (k + 1) (r ||| ((1 : Int32) <<< (nI (k / 4) &&& 31))) := by
  intro d hd
  rw [cx_or1 (by omega) hd, h d hd]
  constructor
  · rintro (⟨x, a, b⟩ | rfl)
    · exact ⟨x, by omega, b⟩
    · exact ⟨k, by omega, hz, rfl⟩
  · rintro ⟨x, a, b, c⟩
    by_cases e : x = k
    · subst e; exact Or.inr c.symm
    · exact Or.inl ⟨x, by omega, b, c⟩
theorem cw_rR {m r : Int32} {N : Nat → Nat → Prop} (h : cw_r m 16 r) (hN : cw_R m N) (hZ : cw_Z N) : cp_R N r := by
  intro d hd
  rw [h d hd]
  constructor
  · rintro ⟨x, a, b, rfl⟩
    exact ⟨by omega, x % 4, by omega, ((hN x (by omega)).mp b).2⟩
  · rintro ⟨a, v, hv, hb⟩
    have hz := hZ d v a hv hb
    have e1 : (4 * d + v) / 4 = d := by omega
    have e2 : (4 * d + v) % 4 = v := by omega
    refine ⟨4 * d + v, by omega, (hN _ (by omega)).mpr ⟨by omega, ?_⟩, e1⟩
    rw [e1, e2]
    exact hb
/-! the sequences of the walk -/
def cw_SS (pa mp : Nat → Int32) (fl : Int32) (n : Nat) : Nat → Nat → Nat → Prop
  | 0 => cp_S0
  | i + 1 => cp_S (cp_NN pa mp n i (cw_e pa (cp_c0 fl 2 n) 8 i) (cw_e pa (cp_c0 fl 4 n) 9 i) (cw_SS pa mp fl n i)) (cw_e pa (cp_c0 fl 2 n) 8 i) (fun v => mp (16 * i + v))
def cw_NS (pa mp : Nat → Int32) (fl : Int32) (n i : Nat) : Nat → Nat → Prop := cp_NN pa mp n i (cw_e pa (cp_c0 fl 2 n) 8 i) (cw_e pa (cp_c0 fl 4 n) 9 i) (cw_SS pa mp fl n i)
def cw_o1 (pa : Nat → Int32) (tm : Int32) (i : Nat) : Prop := ¬ (tm < pa (12 * i + 2) ∨ pa (12 * i + 3) < tm)
def cw_o2 (pa : Nat → Int32) (anc : Int32) (i : Nat) : Prop := pa (12 * i) = cp_want pa anc i
def cw_o3 (pa su : Nat → Int32) (n i : Nat) : Prop := ¬ (¬ cp_ex pa n i ∧ cp_bad pa su i)
def cw_o4 (pa mp : Nat → Int32) (fl : Int32) (n i : Nat) : Prop := ¬ (cw_e pa (cp_c0 fl 1 n) 7 i = 0 ∧ cp_em (cw_NS pa mp fl n i))
def cw_o6 (pa : Nat → Int32) (i : Nat) : Prop := ¬ pa (12 * i + 4) &&& 1 = 0 ∧ ¬ (¬ pa (12 * i + 4) &&& 2 = 0 ∧ pa (12 * i + 4) &&& 4 = 0)
def cw_o7 (pa : Nat → Int32) (n i : Nat) : Prop := ¬ (¬ cp_self pa i ∧ cw_e pa (nI n) 5 i = 0)
def cw_ok (pa mp su : Nat → Int32) (anc fl tm : Int32) (n i : Nat) : Prop :=
  cw_o1 pa tm i ∧ cw_o2 pa anc i ∧ cw_o3 pa su n i ∧ cw_o4 pa mp fl n i ∧ (i + 1 ≠ n → cw_o6 pa i ∧ cw_o7 pa n i)
theorem cw_V {pa mp su : Nat → Int32} {anc up fl tm : Int32} {n : Nat} {post : Int32 → Int32 → Int32 → Int32 → Prop} : ∀ d i, i + d = n → 1 ≤ d →
    ((∀ j, i ≤ j → j < n → cw_ok pa mp su anc fl tm n j) → cp_W pa up n post (cw_e pa (cp_c0 fl 1 n) 7 (n - 1)) (cw_NS pa mp fl n (n - 1))) →
    ((¬ ∀ j, i ≤ j → j < n → cw_ok pa mp su anc fl tm n j) → ∀ s x : Int32, ¬ s = 0 → post s x 0 0) →
    cp_V pa mp su anc up tm n post d i (cw_e pa (cp_c0 fl 1 n) 7 i) (cw_e pa (cp_c0 fl 2 n) 8 i) (cw_e pa (cp_c0 fl 4 n) 9 i) (cw_e pa (nI n) 5 i) (cw_SS pa mp fl n i) := by
  intro d
  induction d with
  | zero => intro i h1 h2; omega
  | succ d ih =>
    intro i h1 h2 hg hb
    unfold cp_V
    refine br_c (fun c1 => hb (fun H => (H i (by omega) (by omega)).1 c1) _ _ (by decide)) (fun c1 => br_c (fun c2 => hb (fun H => c2 (H i (by omega) (by omega)).2.1) _ _ (by decide)) (fun c2 => br_c (fun c3 => hb (fun H => (H i (by omega) (by omega)).2.2.1 c3) _ _ (by decide)) (fun c3 => br_c (fun c4 => hb (fun H => (H i (by omega) (by omega)).2.2.2.1 c4) _ _ (by decide)) (fun c4 => br_c (fun c5 => ?_) (fun c5 => br_c (fun c6 => hb (fun H => ((H i (by omega) (by omega)).2.2.2.2 c5).1.1 c6) _ _ (by decide)) (fun c6 => br_c (fun c7 => hb (fun H => ((H i (by omega) (by omega)).2.2.2.2 c5).2 c7) _ _ (by decide)) (fun c7 => br_c (fun c8 => hb (fun H => ((H i (by omega) (by omega)).2.2.2.2 c5).1.2 c8) _ _ (by decide)) (fun c8 => ?_))))))))
    · have e : n - 1 = i := by omega
      rw [e] at hg
      refine hg (fun j j1 j2 => ?_)
      obtain rfl : j = i := by omega
      exact ⟨c1, Classical.byContradiction c2, c3, c4, fun q => absurd c5 q⟩
    · have hi : cw_ok pa mp su anc fl tm n i := ⟨c1, Classical.byContradiction c2, c3, c4, fun _ => ⟨⟨c6, c8⟩, c7⟩⟩
      refine ih (i + 1) (by omega) (by omega) (fun H => hg (fun j j1 j2 => ?_)) (fun H => hb (fun H' => H (fun j j1 j2 => H' j (by omega) j2)))
      by_cases e : j = i
      · subst e; exact hi
      · exact H j (by omega) j2
