section LE
variable {cap cnt anc up fl ls lf la lr el ml al ll : Int32} {pa mp su ex no : Nat → Int32}
variable {post : Int32 → Prop} {L : Nat} {xs : Nat → Int32} {kc ks n i : Nat}
/-! the law's own verdict, certificate by certificate -/
def cw_oW (pa mp : Nat → Int32) (up fl : Int32) (n i : Nat) : Prop := ∀ R, cp_R (cw_NS pa mp fl n i) R → ¬ ((cw_e pa (cp_c0 fl 1 n) 7 i ≤ 1 ∨ pa (12 * i + 7) = 0) ∧ cp_F up R = 0)
def cw_lk' (pa mp su : Nat → Int32) (anc up fl : Int32) (n i : Nat) : Prop :=
  cw_o1 pa 10 i ∧ cw_o2 pa anc i ∧ cw_o3 pa su n i ∧ (i + 1 ≠ n → cw_o6 pa i ∧ cw_p7 pa n i) ∧ cw_o4 pa mp fl n i ∧ (i + 1 = n → cw_oW pa mp up fl n i)
theorem cw_eq (hL : cw_L pa) (h1 : 1 ≤ n) (hn : n ≤ 8) : (∀ j, j < n → cw_lk' pa mp su anc up fl n j) ↔ (∀ j, 0 ≤ j → j < n → cw_ok pa mp su anc fl 10 n j) ∧ cw_oW pa mp up fl n (n - 1) := by
  have hlen := cw_len hL hn h1
  constructor
  · intro H
    have h7 : ∀ j, j + 1 < n → cw_o7 pa n j := hlen.mpr (fun j hj => ((H j (by omega)).2.2.2.1 (by omega)).2)
    refine ⟨fun j _ hj => ?_, (H (n - 1) (by omega)).2.2.2.2.2 (by omega)⟩
    have q := H j hj
    exact ⟨q.1, q.2.1, q.2.2.1, q.2.2.2.2.1, fun r => ⟨(q.2.2.2.1 r).1, h7 j (by omega)⟩⟩
  · rintro ⟨H, hW⟩ j hj
    have h7 : ∀ j, j + 1 < n → cw_p7 pa n j := hlen.mp (fun j hj => ((H j (by omega) (by omega)).2.2.2.2 (by omega)).2)
    have q := H j (by omega) hj
    refine ⟨q.1, q.2.1, q.2.2.1, fun r => ⟨(q.2.2.2.2 r).1, h7 j (by omega)⟩, q.2.2.2.1, fun r => ?_⟩
    have e : n - 1 = j := by omega
    rw [e] at hW
    exact hW
theorem cw_e0 {e0 : Int32} {f : Nat} (h : 0 ≤ e0) : ∀ i, 0 ≤ cw_e pa e0 f i := by
  intro i
  induction i with
  | zero => exact h
  | succ i ih => exact cp_nx0 ih
theorem cw_c00 {b : Int32} (hn : n ≤ 8) : 0 ≤ cp_c0 fl b n := by
  unfold cp_c0
  split
  · rw [nI_1]; exact nI_pos' (by omega)
  · decide
theorem cw_SZ (hT : ∀ j, cp_T (mp j)) : ∀ i, cp_Z (cw_SS pa mp fl n i) := by
  intro i
  cases i with
  | zero => exact cp_ZS0
  | succ i => exact cp_ZS cp_ZN (fun v => cp_T0 (hT _))
theorem cw_S4 (hQ : cw_Q pa mp) : ∀ i, cw_Z (cw_SS pa mp fl n i) := by
  intro i
  induction i with
  | zero => exact cw_Z0
  | succ i ih => exact cw_ZS (hQ.2.1 i) (cw_ZN ih (hQ.1 i) (hQ.2.1 i))
theorem cw_N4 (hQ : cw_Q pa mp) (i : Nat) : cw_Z (cw_NS pa mp fl n i) := cw_ZN (cw_S4 hQ i) (hQ.1 i) (hQ.2.1 i)
theorem l_iter {J : Int32 → Int32 → Int32 → Int32 → Int32 → Prop} {x9 x10 lt : Int32} (hn : n ≤ 8) (hi : i < n) (hI : cp_Inv pa mp su) (hQ : cw_Q pa mp) (hl : lt = 0 ↔ i + 1 ≠ n)
    (hb : cw_b x9 (∀ j, j < i → cw_lk' pa mp su anc up fl n j)) (hS : cw_R x10 (cw_SS pa mp fl n i))
    (HA : i + 1 ≠ n → ∀ y s, cw_b y (∀ j, j < i + 1 → cw_lk' pa mp su anc up fl n j) → cw_R s (cw_SS pa mp fl n (i + 1)) → J y s 0 0 (nI (i + 1)))
    (HB : i + 1 = n → ∀ y R, cp_R (cw_NS pa mp fl n i) R → cw_b y (∀ j, j < i + 1 → cw_lk' pa mp su anc up fl n j) → J y x10 R (cp_F up R) (nI (i + 1))) :
    wL_law_661 post L xs J (nI n) anc up fl x9 x10 0 0 (nI i) lt kc ks cap (nI n) anc up fl ls lf la lr el ml al ll pa mp su ex no := by
  refine l_661 hn hi hI.2.2.2 hI.2.1 hl hb (fun w ns hns hw => l_989 hn hi hQ.2.2 (l_1244 hn hi hns hl hw (fun m y hm hy => ?_)))
  have hN : cw_R m (cw_NS pa mp fl n i) := cw_N (cw_SZ hI.2.2.1 i) hS hm
  have hz := cw_em hN (cw_N4 hQ i)
  refine l_1460 hn hi (cw_e0 (cw_c00 hn) i) hN (cw_N4 hQ i) (hQ.2.1 i) hy (fun l0 s hs => HA (hl.mp l0) y s (cw_bi hy ⟨?_, ?_⟩) hs) (fun l0 R v hR hv => HB (Classical.byContradiction fun q => l0 (hl.mpr q)) v R hR (cw_bi hv ⟨?_, ?_⟩))
  · rintro ⟨⟨⟨⟨⟨a, b⟩, c⟩, d⟩, e⟩, f⟩ j hj
    by_cases ej : j = i
    · subst ej
      exact ⟨b, c, d, e, fun q => f ⟨q.1, hz.mpr q.2⟩, fun q => absurd q (hl.mp l0)⟩
    · exact a j (by omega)
  · intro H
    obtain ⟨b, c, d, e, f, _⟩ := H i (by omega)
    exact ⟨⟨⟨⟨⟨fun j hj => H j (by omega), b⟩, c⟩, d⟩, e⟩, fun q => f ⟨q.1, hz.mp q.2⟩⟩
  · rintro ⟨⟨⟨⟨⟨⟨a, b⟩, c⟩, d⟩, e⟩, f⟩, g⟩ j hj
    by_cases ej : j = i
    · subst ej
      refine ⟨b, c, d, e, fun q => f ⟨q.1, hz.mpr q.2⟩, fun _ R' hR' => ?_⟩
      rw [cp_Run hR' hR]
      exact g
    · exact a j (by omega)
  · intro H
    obtain ⟨b, c, d, e, f, g⟩ := H i (by omega)
    exact ⟨⟨⟨⟨⟨⟨fun j hj => H j (by omega), b⟩, c⟩, d⟩, e⟩, fun q => f ⟨q.1, hz.mp q.2⟩⟩, g (Classical.byContradiction fun q => l0 (hl.mpr q)) R hR⟩
theorem l_fin {x9 R : Int32} (hp : post 1) (h1 : 1 ≤ n) (hn : n ≤ 8) (hI : cp_Inv pa mp su) (hQ : cw_Q pa mp) (hb : cw_b x9 (∀ j, j < n → cw_lk' pa mp su anc up fl n j)) (hR : cp_R (cw_NS pa mp fl n (n - 1)) R) {x10 : Int32} :
    wL_law_642 post L xs (nI n) anc up fl kc ks cap (nI n) anc up fl ls lf la lr el ml al ll pa mp su ex no 1 x9 x10 R (cp_F up R) (nI n) := by
  have hq := cw_eq (mp := mp) (su := su) (anc := anc) (up := up) (fl := fl) hQ.2.2 h1 hn
  refine br_t (nI_le (by omega) (by omega)) (x_val h1 hn hI.2.1 hI.2.2.1 ?_)
  have bad : (¬ ∀ j, j < n → cw_lk' pa mp su anc up fl n j) → ∀ (s x : Int32), ¬ s = 0 → ∀ (el ml al ll : Int32) (ex no : Nat → Int32), ((s = 0 → wL_law_1729 post L xs x9 R (cp_F up R) s 1 kc ks cap (nI n) anc up fl s x 0 0 el ml al ll pa mp su ex no) ∧ (¬ s = 0 → wL_law_1729 post L xs x9 R (cp_F up R) s 0 kc ks cap (nI n) anc up fl s x 0 0 el ml al ll pa mp su ex no)) := by
    intro hh s x hs el ml al ll ex no
    have e9 : x9 = 0 := (cw_b0 hb).mpr hh
    refine br_f hs ?_
    unfold wL_law_1729
    exact br_t e9.symm (br_f hs hp)
  refine cw_V n 0 (by omega) h1 (fun H R' hR' => ?_) (fun H s x hs el ml al ll ex no => ?_)
  · cases cp_Run hR hR'
    refine br_c (fun q el ml al ll ex no => ?_) (fun q el ml al ll ex no => ?_)
    · exact bad (fun H' => ((hq.mp H').2 R hR) q) 5 _ (by decide) el ml al ll ex no
    · have hall : ∀ j, j < n → cw_lk' pa mp su anc up fl n j := by
        refine hq.mpr ⟨H, fun R2 hR2 => ?_⟩
        rw [cp_Run hR2 hR]
        exact q
      have e9 : x9 = 1 := by
        rcases hb with ⟨a, _⟩ | ⟨_, a⟩
        · exact a
        · exact absurd hall a
      refine br_t rfl ?_
      unfold wL_law_1729
      exact br_t e9.symm (br_t rfl (br_t rfl (br_t rfl (br_t rfl hp))))
  · exact bad (fun H' => H (hq.mp H').1) s x hs el ml al ll ex no
theorem l_642 (hp : post 1) (h1 : 1 ≤ n) (hn : n ≤ 8) (hI : cp_Inv pa mp su) (hQ : cw_Q pa mp) :
    ∀ (d i : Nat) (x9 x10 x12 x13 : Int32), i + d = n → cw_b x9 (∀ j, j < i → cw_lk' pa mp su anc up fl n j) → (i < n → cw_R x10 (cw_SS pa mp fl n i) ∧ x12 = 0 ∧ x13 = 0) →
    (i = n → ∃ R, cp_R (cw_NS pa mp fl n (n - 1)) R ∧ x12 = R ∧ x13 = cp_F up R) → wL_law_642 post L xs (nI n) anc up fl kc ks cap (nI n) anc up fl ls lf la lr el ml al ll pa mp su ex no (d + 1) x9 x10 x12 x13 (nI i) := by
  intro d
  induction d with
  | zero =>
    intro i x9 x10 x12 x13 hi hb hA hB
    obtain rfl : i = n := by omega
    obtain ⟨R, hR, rfl, rfl⟩ := hB rfl
    exact l_fin hp h1 hn hI hQ hb hR
  | succ d ih =>
    intro i x9 x10 x12 x13 hi hb hA hB
    obtain ⟨hS, rfl, rfl⟩ := hA (by omega)
    have e1 : nI n - 1 = nI (n - 1) := by
      obtain ⟨k, rfl⟩ : ∃ k, n = k + 1 := ⟨n - 1, by omega⟩
      exact nI_pred k
    have key : ∀ lt : Int32, (lt = 0 ↔ i + 1 ≠ n) → wL_law_661 post L xs (wL_law_642 post L xs (nI n) anc up fl kc ks cap (nI n) anc up fl ls lf la lr el ml al ll pa mp su ex no (d + 1)) (nI n) anc up fl x9 x10 0 0 (nI i) lt kc ks cap (nI n) anc up fl ls lf la lr el ml al ll pa mp su ex no := by
      intro lt hl
      refine l_iter hn (by omega) hI hQ hl hb hS (fun hne y s hy hs => ih (i + 1) y s 0 0 (by omega) hy (fun _ => ⟨hs, rfl, rfl⟩) (fun q => absurd q hne)) (fun he y R hR hy => ih (i + 1) y x10 R _ (by omega) hy (fun q => absurd he (by omega)) (fun _ => ⟨R, ?_, rfl, rfl⟩))
      have e : n - 1 = i := by omega
      rw [e]
      exact hR
    refine br_f (nI_ge (by omega) (by omega)) ?_
    rw [e1]
    exact pk_eq i (n - 1) (fun q => key 1 ⟨fun z => absurd z (by decide), fun z => absurd (by omega) z⟩) (fun q => key 0 ⟨fun _ => by omega, fun _ => rfl⟩)
end LE
