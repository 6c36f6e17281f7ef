/-! what the law's building keeps -/
def cw_Q (pa mp : Nat → Int32) : Prop := (∀ c, cw_C4 (pa (12 * c + 6))) ∧ (∀ c, cw_T4 (fun v => mp (16 * c + v))) ∧ cw_L pa
theorem cw_T40 {T : Nat → Int32} (h : ∀ v, v < 16 → T v = 0) : cw_T4 T := by
  intro v hv
  rw [h v hv]
  refine ⟨fun _ => rfl, fun t _ hb => ?_⟩
  rw [b_0] at hb
  exact absurd hb (by decide)
theorem cw_Q0 : cw_Q (fun _ => 0) (fun _ => 0) :=
  ⟨fun _ v _ _ => b_0 v, fun _ => cw_T40 fun _ _ => rfl, fun _ _ _ => (by decide : -1 ≤ (0 : Int32).toInt ∧ (0 : Int32).toInt ≤ 15)⟩
theorem cw_QN {pa mp : Nat → Int32} {c f : Nat} {y : Int32} (h : cw_Q pa mp) (hf : f < 12) (h1 : f < 4 ∨ f = 4 ∨ f = 10 ∨ f = 11) : cw_Q (upd pa (12 * c + f) y) mp := by
  refine ⟨fun d => ?_, h.2.1, fun d g hg => ?_⟩
  · rw [pk_un (by omega)]; exact h.1 d
  · rw [pk_un (by omega)]; exact h.2.2 d g hg
theorem cw_QL {pa mp : Nat → Int32} {c f : Nat} {y : Int32} (h : cw_Q pa mp) (hf : f = 5 ∨ f = 7 ∨ f = 8 ∨ f = 9) (h1 : -1 ≤ y ∧ y ≤ 15) : cw_Q (upd pa (12 * c + f) y) mp := by
  refine ⟨fun d => ?_, h.2.1, fun d g hg => ?_⟩
  · rw [pk_un (by omega)]; exact h.1 d
  · by_cases e : 12 * d + g = 12 * c + f
    · rw [e, pk_us]
      have a := Int32.le_iff_toInt_le.mp h1.1
      have b := Int32.le_iff_toInt_le.mp h1.2
      have a1 : (-1 : Int32).toInt = -1 := by decide
      have b1 : (15 : Int32).toInt = 15 := by decide
      rw [a1] at a
      rw [b1] at b
      exact ⟨a, b⟩
    · rw [pk_un e]; exact h.2.2 d g hg
theorem cw_Q6 {pa mp : Nat → Int32} {c k : Nat} (h : cw_Q pa mp) (hk : k < 4) : cw_Q (upd pa (12 * c + 6) (pa (12 * c + 6) ||| ((1 : Int32) <<< (nI k &&& 31)))) mp := by
  refine ⟨fun d => ?_, h.2.1, fun d g hg => ?_⟩
  · by_cases e : d = c
    · subst e
      rw [pk_us]
      intro v v4 v32
      cases hb : bt (pa (12 * d + 6) ||| ((1 : Int32) <<< (nI k &&& 31))) v with
      | false => rfl
      | true =>
        rcases (cx_or1 (by omega) v32).mp hb with a | a
        · rw [h.1 d v v4 v32] at a; exact absurd a (by decide)
        · omega
    · rw [pk_un (by omega)]; exact h.1 d
  · rw [pk_un (by omega)]; exact h.2.2 d g hg
theorem cw_QT {pa mp : Nat → Int32} {c s t : Nat} (h : cw_Q pa mp) (hs : s < 4) (t1 : 1 ≤ t) (t2 : t < 4) : cw_Q pa (upd mp (16 * c + s) (mp (16 * c + s) ||| ((1 : Int32) <<< (nI t &&& 31)))) := by
  refine ⟨h.1, fun d v hv => ?_, h.2.2⟩
  have hd := h.2.1 d v hv
  dsimp only at hd ⊢
  by_cases e : 16 * d + v = 16 * c + s
  · rw [e] at hd ⊢
    rw [pk_us]
    refine ⟨fun q => by omega, fun u hu hb => ?_⟩
    rcases (cx_or1 (by omega) hu).mp hb with a | a
    · exact hd.2 u hu a
    · omega
  · rw [pk_un e]; exact hd
theorem cw_QC {pa q mp mp' : Nat → Int32} {n : Nat} (h : cw_Q pa mp) (hq : ∀ j, q j = if 12 * n ≤ j ∧ j < 12 * n + 12 then 0 else pa j) (hm : ∀ j, mp' j = if 16 * n ≤ j ∧ j < 16 * n + 16 then 0 else mp j) : cw_Q q mp' := by
  refine ⟨fun d => ?_, fun d => ?_, fun d g hg => ?_⟩
  · rw [hq]
    split
    · exact cw_Q0.1 0
    · exact h.1 d
  · by_cases e : d = n
    · subst e
      exact cw_T40 fun v hv => by rw [hm, if_pos (by omega)]
    · intro v hv
      dsimp only
      rw [hm, if_neg (by omega)]
      exact h.2.1 d v hv
  · rw [hq]
    split
    · exact cw_Q0.2.2 0 g hg
    · exact h.2.2 d g hg
/-- for every state that the building may have reached -/
def cw_al (n : Nat) (post : Int32 → St2 → Prop) : Prop := ∀ (r anc up fl ls lf la lr el ml al ll : Int32) (pa mp su ex no : Nat → Int32), cp_Inv pa mp su → cw_Q pa mp → post r ((nI 8), (nI n), anc, up, fl, ls, lf, la, lr, el, ml, al, ll, pa, mp, su, ex, no)
def cw_as (n : Nat) (P : (Int32 → Int32 → Int32 → Int32 → Int32 → Int32 → Int32 → Int32 → Int32 → Int32 → Int32 → Int32 → Int32 → (Nat → Int32) → (Nat → Int32) → (Nat → Int32) → (Nat → Int32) → (Nat → Int32) → Prop)) : Prop := ∀ (anc up fl ls lf la lr el ml al ll : Int32) (pa mp su ex no : Nat → Int32), cp_Inv pa mp su → cw_Q pa mp → P (nI 8) (nI n) anc up fl ls lf la lr el ml al ll pa mp su ex no
section LB
variable {cap cnt anc up fl ls lf la lr el ml al ll : Int32} {pa mp su ex no : Nat → Int32}
theorem l_cell {post : Int32 → Prop} {L k : Nat} {xs : Nat → Int32} (hk : k < 1000) (hL : L ≤ 260) (H : ∀ r, post r) : wpL_cell post L xs () (nI k) := by
  unfold wpL_cell
  refine br_c (fun _ => H _) (fun h => ⟨vp_in_nI ?_ (by omega), H _⟩)
  have h' : ¬ nI L ≤ nI k := h
  rw [nI_leI (by omega) (by omega)] at h'
  omega
theorem l_nm {post : Int32 → Prop} {x : Int32} (H : ∀ r, cp_nm r → post r) : wpL_nm post () x := by
  unfold wpL_nm
  have k : ∀ y : Int32, (0 ≤ y ∧ y ≤ 65535) → (∀ k, k < 3 → ¬ cp_g y (k + 1) = 0 → ¬ cp_g y k = 0) → post y := fun y a b => H y ⟨a, b⟩
  refine nm_e (br_c (fun _ => k _ (by decide) (by decide +kernel)) (fun _ => br_c (fun _ => k _ (by decide) (by decide +kernel)) (fun _ => br_c (fun _ => k _ (by decide) (by decide +kernel)) (fun _ => br_c (fun _ => k _ (by decide) (by decide +kernel)) (fun _ => br_c (fun _ => k _ (by decide) (by decide +kernel)) (fun _ => br_c (fun _ => k _ (by decide) (by decide +kernel)) (fun _ => br_c (fun _ => k _ (by decide) (by decide +kernel)) (fun _ => k _ (by decide) (by decide +kernel)))))))))
theorem l_opt {post : Int32 → Prop} {x : Int32} (H : ∀ r, post r) : wpL_opt post () x := by
  unfold wpL_opt
  exact br_c (fun _ => H _) (fun _ => H _)
theorem l_addSub {post : Int32 → St2 → Prop} {n i kd : Nat} (hn : n ≤ 8) (hi : i < n) (hkd : kd < 2) {y : Int32} (hy : cp_nm y) (hI : cp_Inv pa mp su) (hQ : cw_Q pa mp) (H : cw_al n post) : wpX_addSubtree post ((nI 8), (nI n), anc, up, fl, ls, lf, la, lr, el, ml, al, ll, pa, mp, su, ex, no) (nI i) (nI kd) y := by
  obtain ⟨K, hK, hp⟩ := hI.2.1 i kd hkd
  refine x_addSubtree hn hi hkd hK hp hy (fun q => H _ _ _ _ _ _ _ _ _ _ _ _ _ _ _ _ _ (cp_InvS (cp_InvK hI hkd (by omega)) hy) (cw_QN hQ (by omega) (by omega))) (fun _ => H _ _ _ _ _ _ _ _ _ _ _ _ _ _ _ _ _ hI hQ)
theorem l_setPC {post : Int32 → St2 → Prop} {n i : Nat} (hn : n ≤ 8) (hi : i < n) {a b c : Int32} (hI : cp_Inv pa mp su) (hQ : cw_Q pa mp) (H : cw_al n post) : wpX_setPolicyConstraints post ((nI 8), (nI n), anc, up, fl, ls, lf, la, lr, el, ml, al, ll, pa, mp, su, ex, no) (nI i) a b c :=
  x_setPC hn hi (fun q => H _ _ _ _ _ _ _ _ _ _ _ _ _ _ _ _ _ (cp_InvN (cp_InvN (cp_InvN hI (by decide) (by decide) (by decide)) (by decide) (by decide) (by decide)) (by decide) (by decide) (by decide)) (cw_QL (cw_QL (cw_QL hQ (by decide) q.1) (by decide) q.2.1) (by decide) q.2.2)) (fun _ => H _ _ _ _ _ _ _ _ _ _ _ _ _ _ _ _ _ hI hQ)
theorem l_setBasic {post : Int32 → St2 → Prop} {n i : Nat} (hn : n ≤ 8) (hi : i < n) {a b : Int32} (hI : cp_Inv pa mp su) (hQ : cw_Q pa mp) (H : cw_al n post) : wpX_setBasic post ((nI 8), (nI n), anc, up, fl, ls, lf, la, lr, el, ml, al, ll, pa, mp, su, ex, no) (nI i) a b :=
  x_setBasic hn hi (fun q => H _ _ _ _ _ _ _ _ _ _ _ _ _ _ _ _ _ (cp_InvN (cp_InvN hI (by decide) (by decide) (by decide)) (by decide) (by decide) (by decide)) (cw_QL (cw_QN hQ (by decide) (by decide)) (by decide) q.2)) (fun _ => H _ _ _ _ _ _ _ _ _ _ _ _ _ _ _ _ _ hI hQ)
theorem l_addPolicy {post : Int32 → St2 → Prop} {n i k : Nat} (hn : n ≤ 8) (hi : i < n) (hk : k < 4) (hI : cp_Inv pa mp su) (hQ : cw_Q pa mp) (H : cw_al n post) : wpX_addPolicy post ((nI 8), (nI n), anc, up, fl, ls, lf, la, lr, el, ml, al, ll, pa, mp, su, ex, no) (nI i) (nI k) :=
  x_addPolicy hn hi (fun q => H _ _ _ _ _ _ _ _ _ _ _ _ _ _ _ _ _ (cp_InvN hI (by decide) (by decide) (by decide)) (cw_Q6 hQ hk)) (fun _ => H _ _ _ _ _ _ _ _ _ _ _ _ _ _ _ _ _ hI hQ)
theorem l_addMapping {post : Int32 → St2 → Prop} {n i s t : Nat} (hn : n ≤ 8) (hi : i < n) (hs : s < 4) (t1 : 1 ≤ t) (t2 : t < 4) (hI : cp_Inv pa mp su) (hQ : cw_Q pa mp) (H : cw_al n post) : wpX_addMapping post ((nI 8), (nI n), anc, up, fl, ls, lf, la, lr, el, ml, al, ll, pa, mp, su, ex, no) (nI i) (nI s) (nI t) := by
  refine x_addMapping hn hi (fun s' t' es et s2 t3 => ?_) (fun _ => H _ _ _ _ _ _ _ _ _ _ _ _ _ _ _ _ _ hI hQ)
  have a : s' = s := ((nI_eq (by omega) (by omega)).mp es).symm
  have b : t' = t := ((nI_eq (by omega) (by omega)).mp et).symm
  subst a b
  exact H _ _ _ _ _ _ _ _ _ _ _ _ _ _ _ _ _ (cp_InvT hI t3.1 t3.2) (cw_QT hQ hs t1 t2)
theorem l_addCert {post : Int32 → St2 → Prop} {n : Nat} (hn : n < 8) {a b c d : Int32} (ha : cp_nm a) (hb : cp_nm b) (hI : cp_Inv pa mp su) (hQ : cw_Q pa mp) (H : cw_al (n + 1) post) : wpX_addCert post ((nI 8), (nI n), anc, up, fl, ls, lf, la, lr, el, ml, al, ll, pa, mp, su, ex, no) a b c d := by
  refine x_addCert (by omega) (by omega) (fun _ q mp' hq hm => H _ _ _ _ _ _ _ _ _ _ _ _ _ _ _ _ _ ?_ ?_) (fun q => absurd ⟨hn, ha, hb⟩ q)
  · exact cp_InvN (cp_InvN (cp_Inv1 (cp_InvN (cp_InvN (cp_InvN (cp_InvN (cp_InvN (cp_InvC hI hq hm) (by decide) (by decide) (by decide)) (by decide) (by decide) (by decide)) (by decide) (by decide) (by decide)) (by decide) (by decide) (by decide)) (by decide) (by decide) (by decide)) hb) (by decide) (by decide) (by decide)) (by decide) (by decide) (by decide)
  · exact cw_QN (cw_QN (cw_QN (cw_QN (cw_QL (cw_QL (cw_QL (cw_QL (cw_QC hQ hq hm) (by decide) (by decide)) (by decide) (by decide)) (by decide) (by decide)) (by decide) (by decide)) (by decide) (by decide)) (by decide) (by decide)) (by decide) (by decide)) (by decide) (by decide)
/-! the law's building, from its last step back -/
theorem l_548 {post : Int32 → Prop} {L : Nat} {xs : Nat → Int32} {J : (Int32 → Int32 → Int32 → Int32 → Int32 → Int32 → Int32 → Int32 → Int32 → Int32 → Int32 → Int32 → Int32 → Int32 → Int32 → (Nat → Int32) → (Nat → Int32) → (Nat → Int32) → (Nat → Int32) → (Nat → Int32) → Prop)} {x2 x5 x20 : Int32} {kc ks n i : Nat} (hn : n ≤ 8) (hi : i < n) (H : cw_as n (J x5 (nI (i + 1)))) (hI : cp_Inv pa mp su) (hQ : cw_Q pa mp) :
    wL_law_548 post L xs J x2 x5 (nI i) x20 kc ks (nI 8) (nI n) anc up fl ls lf la lr el ml al ll pa mp su ex no := by
  unfold wL_law_548
  refine br_c (fun _ => l_nm (fun r hr => l_addSub (kd := 0) hn hi (by decide) hr hI hQ ?_)) (fun _ => nm_r (nI_1 i) (H _ _ _ _ _ _ _ _ _ _ _ _ _ _ _ _ hI hQ))
  intro r anc up fl ls lf la lr el ml al ll pa mp su ex no hI hQ
  exact nm_r (nI_1 i) (H _ _ _ _ _ _ _ _ _ _ _ _ _ _ _ _ hI hQ)
theorem l_522 {post : Int32 → Prop} {L : Nat} {xs : Nat → Int32} {J : (Int32 → Int32 → Int32 → Int32 → Int32 → Int32 → Int32 → Int32 → Int32 → Int32 → Int32 → Int32 → Int32 → Int32 → Int32 → (Nat → Int32) → (Nat → Int32) → (Nat → Int32) → (Nat → Int32) → (Nat → Int32) → Prop)} {x2 x5 x20 : Int32} {kc ks n i : Nat} (hn : n ≤ 8) (hi : i < n) (H : cw_as n (J x5 (nI (i + 1)))) (hI : cp_Inv pa mp su) (hQ : cw_Q pa mp) :
    wL_law_522 post L xs J x2 x5 (nI i) x20 kc ks (nI 8) (nI n) anc up fl ls lf la lr el ml al ll pa mp su ex no := by
  unfold wL_law_522
  refine br_c (fun _ => l_nm (fun r hr => l_addSub (kd := 1) hn hi (by decide) hr hI hQ ?_)) (fun _ => l_548 hn hi H hI hQ)
  intro r anc up fl ls lf la lr el ml al ll pa mp su ex no hI hQ
  exact l_548 hn hi H hI hQ
theorem l_450 {post : Int32 → Prop} {L : Nat} {xs : Nat → Int32} {J : (Int32 → Int32 → Int32 → Int32 → Int32 → Int32 → Int32 → Int32 → Int32 → Int32 → Int32 → Int32 → Int32 → Int32 → Int32 → (Nat → Int32) → (Nat → Int32) → (Nat → Int32) → (Nat → Int32) → (Nat → Int32) → Prop)} {x2 x5 : Int32} {kc ks n i : Nat} (hL : L ≤ 260) (hn : n ≤ 8) (hi : i < n) (H : cw_as n (J x5 (nI (i + 1)))) (hI : cp_Inv pa mp su) (hQ : cw_Q pa mp) :
    wL_law_450 post L xs J x2 x5 (nI i) (nI (4 + 8 * i)) kc ks (nI 8) (nI n) anc up fl ls lf la lr el ml al ll pa mp su ex no := by
  unfold wL_law_450
  have e6 : nI (4 + 8 * i) + 6 = nI (4 + 8 * i + 6) := nI_add _ 6
  have e7 : nI (4 + 8 * i) + 7 = nI (4 + 8 * i + 7) := nI_add _ 7
  rw [e6, e7]
  refine l_cell (by omega) hL (fun r => l_opt (fun a => l_opt (fun b => l_opt (fun c => l_setPC hn hi hI hQ ?_))))
  intro r anc up fl ls lf la lr el ml al ll pa mp su ex no hI hQ
  refine l_cell (by omega) hL (fun r => br_c (fun _ => l_nm (fun r hr => l_addSub (kd := 0) hn hi (by decide) hr hI hQ ?_)) (fun _ => l_522 hn hi H hI hQ))
  intro r anc up fl ls lf la lr el ml al ll pa mp su ex no hI hQ
  exact l_522 hn hi H hI hQ
theorem l_t {x : Int32} {sh : Int32} : ∃ j, j < 3 ∧ 1 + (((x >>> sh) &&& 3) - ((x >>> sh) &&& 3) / 3 * 3) = nI (1 + j) := by
  obtain ⟨j, hj, e⟩ := pk_andE (x >>> sh) (m := 3) 2 (by decide)
  rw [e]
  have e3 : nI j - nI j / 3 * 3 = nI (j % 3) := pk_rem (d := 3) (by omega) (by decide) (by decide)
  rw [e3]
  exact ⟨j % 3, Nat.mod_lt _ (by omega), nI_add 1 _⟩
theorem l_417 {post : Int32 → Prop} {L : Nat} {xs : Nat → Int32} {J : (Int32 → Int32 → Int32 → Int32 → Int32 → Int32 → Int32 → Int32 → Int32 → Int32 → Int32 → Int32 → Int32 → Int32 → Int32 → (Nat → Int32) → (Nat → Int32) → (Nat → Int32) → (Nat → Int32) → (Nat → Int32) → Prop)} {x2 x5 x18 : Int32} {kc ks n i : Nat} (hL : L ≤ 260) (hn : n ≤ 8) (hi : i < n) (H : cw_as n (J x5 (nI (i + 1)))) (hI : cp_Inv pa mp su) (hQ : cw_Q pa mp) :
    wL_law_417 post L xs J x2 x5 (nI i) (nI (4 + 8 * i)) x18 kc ks (nI 8) (nI n) anc up fl ls lf la lr el ml al ll pa mp su ex no := by
  unfold wL_law_417
  refine br_c (fun _ => l_450 hL hn hi H hI hQ) (fun _ => ⟨by decide, ?_⟩)
  obtain ⟨j, hj, e⟩ := pk_andE (x18 >>> ((4 : Int32) &&& 31)) (m := 3) 2 (by decide)
  obtain ⟨t, ht, e2⟩ := l_t (x := x18) (sh := (6 : Int32) &&& 31)
  rw [e, e2]
  refine l_addMapping hn hi (by omega) (by omega) (by omega) hI hQ ?_
  intro r anc up fl ls lf la lr el ml al ll pa mp su ex no hI hQ
  exact l_450 hL hn hi H hI hQ
theorem l_348 {post : Int32 → Prop} {L : Nat} {xs : Nat → Int32} {J : (Int32 → Int32 → Int32 → Int32 → Int32 → Int32 → Int32 → Int32 → Int32 → Int32 → Int32 → Int32 → Int32 → Int32 → Int32 → (Nat → Int32) → (Nat → Int32) → (Nat → Int32) → (Nat → Int32) → (Nat → Int32) → Prop)} {x2 x5 x17 : Int32} {kc ks n i : Nat} (hL : L ≤ 260) (hn : n ≤ 8) (hi : i < n) (H : cw_as n (J x5 (nI (i + 1)))) :
    ∀ d k, k + d = 4 → cw_as n (wL_law_348 post L xs J x2 x5 (nI i) (nI (4 + 8 * i)) x17 kc ks (d + 1) (nI k)) := by
  intro d
  induction d with
  | zero =>
    intro k hk anc up fl ls lf la lr el ml al ll pa mp su ex no hI hQ
    obtain rfl : k = 4 := by omega
    have e5 : nI (4 + 8 * i) + 5 = nI (4 + 8 * i + 5) := nI_add _ 5
    refine br_t (by decide) ?_
    rw [e5]
    refine l_cell (by omega) hL (fun r => br_c (fun _ => l_417 hL hn hi H hI hQ) (fun _ => ⟨by decide, ?_⟩))
    obtain ⟨j, hj, e⟩ := pk_andE r (m := 3) 2 (by decide)
    obtain ⟨t, ht, e2⟩ := l_t (x := r) (sh := (2 : Int32) &&& 31)
    rw [e, e2]
    refine l_addMapping hn hi (by omega) (by omega) (by omega) hI hQ ?_
    intro _ anc up fl ls lf la lr el ml al ll pa mp su ex no hI hQ
    exact l_417 hL hn hi H hI hQ
  | succ d ih =>
    intro k hk anc up fl ls lf la lr el ml al ll pa mp su ex no hI hQ
    refine br_f (nI_ge (b := 4) (by omega) (by decide)) (br_c (fun _ => nm_r (nI_1 k) (ih (k + 1) (by omega) _ _ _ _ _ _ _ _ _ _ _ _ _ _ _ _ hI hQ)) (fun _ => l_addPolicy hn hi (by omega) hI hQ ?_))
    intro r anc up fl ls lf la lr el ml al ll pa mp su ex no hI hQ
    exact nm_r (nI_1 k) (ih (k + 1) (by omega) _ _ _ _ _ _ _ _ _ _ _ _ _ _ _ _ hI hQ)
theorem l_331 {post : Int32 → Prop} {L : Nat} {xs : Nat → Int32} {J : (Int32 → Int32 → Int32 → Int32 → Int32 → Int32 → Int32 → Int32 → Int32 → Int32 → Int32 → Int32 → Int32 → Int32 → Int32 → (Nat → Int32) → (Nat → Int32) → (Nat → Int32) → (Nat → Int32) → (Nat → Int32) → Prop)} {x2 x5 z0 z1 : Int32} {kc ks n i : Nat} (hL : L ≤ 260) (hn : n ≤ 8) (hi : i < n) (H : cw_as n (J x5 (nI (i + 1)))) (hI : cp_Inv pa mp su) (hQ : cw_Q pa mp) :
    wL_law_331 post L xs J x2 x5 (nI i) (nI (4 + 8 * i)) z0 z1 (nI i) kc ks (nI 8) (nI n) anc up fl ls lf la lr el ml al ll pa mp su ex no := by
  unfold wL_law_331
  have e4 : nI (4 + 8 * i) + 4 = nI (4 + 8 * i + 4) := nI_add _ 4
  rw [e4]
  refine l_setBasic hn hi hI hQ ?_
  intro r anc up fl ls lf la lr el ml al ll pa mp su ex no hI hQ
  exact l_cell (by omega) hL (fun r => ⟨5, l_348 hL hn hi H 4 0 rfl _ _ _ _ _ _ _ _ _ _ _ _ _ _ _ _ hI hQ⟩)
theorem l_284 {post : Int32 → Prop} {L : Nat} {xs : Nat → Int32} {J : (Int32 → Int32 → Int32 → Int32 → Int32 → Int32 → Int32 → Int32 → Int32 → Int32 → Int32 → Int32 → Int32 → Int32 → Int32 → (Nat → Int32) → (Nat → Int32) → (Nat → Int32) → (Nat → Int32) → (Nat → Int32) → Prop)} {x2 x5 x15 x16 : Int32} {kc ks n i : Nat} (hL : L ≤ 260) (hn : n ≤ 8) (hi : i < n) (H : cw_as n (J x5 (nI (i + 1)))) (hI : cp_Inv pa mp su) (hQ : cw_Q pa mp) :
    wL_law_284 post L xs J x2 x5 (nI i) (nI (4 + 8 * i)) x15 x16 kc ks (nI 8) (nI n) anc up fl ls lf la lr el ml al ll pa mp su ex no := by
  unfold wL_law_284
  have k : ∀ y, wL_law_305 post L xs J x2 x5 (nI i) (nI (4 + 8 * i)) x15 y kc ks (nI 8) (nI n) anc up fl ls lf la lr el ml al ll pa mp su ex no := by
    intro y
    unfold wL_law_305
    exact br_c (fun _ => l_331 hL hn hi H hI hQ) (fun _ => l_331 hL hn hi H hI hQ)
  exact br_c (fun _ => k _) (fun _ => br_c (fun _ => k _) (fun _ => nm_e (k _)))
theorem l_159 {post : Int32 → Prop} {L : Nat} {xs : Nat → Int32} {J : (Int32 → Int32 → Int32 → Int32 → Int32 → Int32 → Int32 → Int32 → Int32 → Int32 → Int32 → Int32 → Int32 → Int32 → Int32 → (Nat → Int32) → (Nat → Int32) → (Nat → Int32) → (Nat → Int32) → (Nat → Int32) → Prop)} {x2 x8 x9 x10 z0 : Int32} {kc ks i : Nat} (hL : L ≤ 260) (hi : i < 8) (hz : cp_nm z0) (H : ∀ x5, cp_nm x5 → cw_as (i + 1) (J x5 (nI (i + 1)))) (hI : cp_Inv pa mp su) (hQ : cw_Q pa mp) :
    wL_law_159 post L xs J x2 (nI i) (nI (4 + 8 * i)) x8 x9 x10 z0 kc ks (nI 8) (nI i) anc up fl ls lf la lr el ml al ll pa mp su ex no := by
  unfold wL_law_159
  have e3 : nI (4 + 8 * i) + 3 = nI (4 + 8 * i + 3) := nI_add _ 3
  have k234 : ∀ y a b, cp_nm y → wL_law_234 post L xs J x2 (nI i) (nI (4 + 8 * i)) z0 y a b kc ks (nI 8) (nI i) anc up fl ls lf la lr el ml al ll pa mp su ex no := by
    intro y a b hy
    unfold wL_law_234
    rw [e3]
    refine l_addCert hi hz hy hI hQ ?_
    intro r anc up fl ls lf la lr el ml al ll pa mp su ex no hI hQ
    exact l_cell (by omega) hL (fun r => nm_e (br_c (fun _ => l_284 hL (by omega) (by omega) (H y hy) hI hQ) (fun _ => nm_e (l_284 hL (by omega) (by omega) (H y hy) hI hQ))))
  have k206 : ∀ y a, cp_nm y → wL_law_206 post L xs J x2 (nI i) (nI (4 + 8 * i)) x10 z0 y a kc ks (nI 8) (nI i) anc up fl ls lf la lr el ml al ll pa mp su ex no := by
    intro y a hy
    unfold wL_law_206
    exact br_c (fun _ => k234 _ _ _ hy) (fun _ => k234 _ _ _ hy)
  have k182 : ∀ y, cp_nm y → wL_law_182 post L xs J x2 (nI i) (nI (4 + 8 * i)) x10 z0 y kc ks (nI 8) (nI i) anc up fl ls lf la lr el ml al ll pa mp su ex no := by
    intro y hy
    unfold wL_law_182
    exact br_c (fun _ => k206 _ _ hy) (fun _ => k206 _ _ hy)
  exact br_c (fun _ => k182 _ hz) (fun _ => l_nm (fun r hr => k182 _ hr))
theorem l_getG {post : Int32 → Prop} : (post cnt → wpX_getField post (cap, cnt, anc, up, fl, ls, lf, la, lr, el, ml, al, ll, pa, mp, su, ex, no) (-1) 0) ∧ (post anc → wpX_getField post (cap, cnt, anc, up, fl, ls, lf, la, lr, el, ml, al, ll, pa, mp, su, ex, no) (-1) 2) ∧ (post up → wpX_getField post (cap, cnt, anc, up, fl, ls, lf, la, lr, el, ml, al, ll, pa, mp, su, ex, no) (-1) 3) ∧ (post fl → wpX_getField post (cap, cnt, anc, up, fl, ls, lf, la, lr, el, ml, al, ll, pa, mp, su, ex, no) (-1) 4) := by
  refine ⟨fun h => ?_, fun h => ?_, fun h => ?_, fun h => ?_⟩
  · exact br_t rfl (br_f (by decide) (br_f (by decide) (br_t rfl h)))
  · exact br_t rfl (br_f (by decide) (br_f (by decide) (br_f (by decide) (br_f (by decide) (br_t rfl h)))))
  · exact br_t rfl (br_f (by decide) (br_f (by decide) (br_f (by decide) (br_f (by decide) (br_f (by decide) (br_t rfl h))))))
  · exact br_t rfl (br_f (by decide) (br_f (by decide) (br_f (by decide) (br_f (by decide) (br_f (by decide) (br_f (by decide) (br_t rfl h)))))))
theorem l_98 {post : Int32 → Prop} {L : Nat} {xs : Nat → Int32} {kc ks n : Nat} (hL : L ≤ 260) (h1 : 1 ≤ n) (hn : n ≤ 8)
    (H : ∀ (anc up fl ls lf la lr el ml al ll : Int32) (pa mp su ex no : Nat → Int32), cp_Inv pa mp su → cw_Q pa mp → wL_law_622 post L xs (nI n) anc up fl 1 kc ks (nI 8) (nI n) anc up fl ls lf la lr el ml al ll pa mp su ex no) :
    ∀ d i x5, i + d = n → cp_nm x5 → cw_as i (wL_law_98 post L xs (nI n) kc ks (d + 1) x5 (nI i)) := by
  intro d
  induction d with
  | zero =>
    intro i x5 hi h5 anc up fl ls lf la lr el ml al ll pa mp su ex no hI hQ
    obtain rfl : i = n := by omega
    refine br_t (nI_le (by omega) (by omega)) (l_getG.1 (l_getG.2.1 (l_getG.2.2.1 (l_getG.2.2.2 ?_))))
    exact pk_lt i 1 (fun q => by omega) (fun _ => H _ _ _ _ _ _ _ _ _ _ _ _ _ _ _ _ hI hQ)
  | succ d ih =>
    intro i x5 hi h5 anc up fl ls lf la lr el ml al ll pa mp su ex no hI hQ
    have e8 : 4 + 8 * nI i = nI (4 + 8 * i) := by
      have a : 8 * nI i = nI (8 * i) := pk_mul 8 i
      rw [a]
      exact nI_add 4 _
    have e1 : nI (4 + 8 * i) + 1 = nI (4 + 8 * i + 1) := nI_add _ 1
    have e2 : nI (4 + 8 * i) + 2 = nI (4 + 8 * i + 2) := nI_add _ 2
    refine br_f (nI_ge (by omega) (by omega)) (nm_r e8 (l_cell (by omega) hL (fun a => ?_)))
    rw [e1, e2]
    refine l_cell (by omega) hL (fun b => l_cell (by omega) hL (fun c => br_c (fun _ => l_nm (fun r hr => ?_)) (fun _ => ?_)))
    · exact l_159 hL (by omega) hr (fun y hy => ih (i + 1) y (by omega) hy) hI hQ
    · exact l_159 hL (by omega) h5 (fun y hy => ih (i + 1) y (by omega) hy) hI hQ
/-- the law, given what follows the building -/
theorem l_law {post : Int32 → Prop} {L : Nat} {xs : Nat → Int32} (hL : L ≤ 260)
    (H : ∀ (n : Nat), 1 ≤ n → n ≤ 8 → ∀ (anc up fl ls lf la lr el ml al ll : Int32) (pa mp su ex no : Nat → Int32), cp_Inv pa mp su → cw_Q pa mp → wL_law_622 post L xs (nI n) anc up fl 1 6 338 (nI 8) (nI n) anc up fl ls lf la lr el ml al ll pa mp su ex no) : wpL_law post L xs := by
  refine ⟨5, 320, by decide, by decide, ?_⟩
  unfold wpX_init
  refine ⟨by decide, by decide, by decide, by decide, by decide, by decide, by decide, by decide, by decide, by decide, br_t (by decide) (br_t (by decide) ?_)⟩
  refine x_reset (l_cell (k := 0) (by omega) hL (fun r => ?_))
  obtain ⟨j, hj, e⟩ := pk_andE r (m := 7) 3 (by decide)
  have e1 : 1 + nI j = nI (1 + j) := nI_add 1 j
  rw [e, e1]
  refine nm_e (l_cell (k := 1) (by omega) hL (fun r => l_nm (fun a ha => ?_)))
  have k81 : ∀ (x4 z : Int32), cw_as 0 (wL_law_81 post L xs (nI (1 + j)) z x4 6 338) := by
    intro x4 z anc up fl ls lf la lr el ml al ll pa mp su ex no hI hQ
    unfold wL_law_81
    refine x_setInitial (fun _ => ?_) (fun _ => ?_)
    · exact l_cell (k := 1) (by omega) hL (fun r => l_nm (fun y hy => ⟨1 + j + 1, l_98 hL (by omega) (by omega) (H (1 + j) (by omega) (by omega)) (1 + j) 0 y (by omega) hy _ _ _ _ _ _ _ _ _ _ _ _ _ _ _ _ hI hQ⟩))
    · exact l_cell (k := 1) (by omega) hL (fun r => l_nm (fun y hy => ⟨1 + j + 1, l_98 hL (by omega) (by omega) (H (1 + j) (by omega) (by omega)) (1 + j) 0 y (by omega) hy _ _ _ _ _ _ _ _ _ _ _ _ _ _ _ _ hI hQ⟩))
  have k59 : ∀ (x3 x4 : Int32), cw_as 0 (wL_law_59 post L xs (nI (1 + j)) x3 x4 6 338) := by
    intro x3 x4 anc up fl ls lf la lr el ml al ll pa mp su ex no hI hQ
    unfold wL_law_59
    exact br_c (fun _ => k81 _ _ _ _ _ _ _ _ _ _ _ _ _ _ _ _ _ _ hI hQ) (fun _ => k81 _ _ _ _ _ _ _ _ _ _ _ _ _ _ _ _ _ _ hI hQ)
  refine x_setAnchor (fun _ => ?_) (fun q => absurd ha q)
  exact l_cell (k := 2) (by omega) hL (fun r => nm_e (br_c (fun _ => nm_e (k59 _ _ _ _ _ _ _ _ _ _ _ _ _ _ _ _ _ _ cp_Inv0 cw_Q0)) (fun _ => k59 _ _ _ _ _ _ _ _ _ _ _ _ _ _ _ _ _ _ cp_Inv0 cw_Q0)))
end LB
