section XP
variable {cap cnt anc up fl ls lf la lr el ml al ll : Int32} {pa mp su ex no : Nat → Int32}
/-! X: the policy sets and the counters -/
def cp_c0 (fl b : Int32) (n : Nat) : Int32 := if fl &&& b = 0 then nI n + 1 else 0
theorem x_firstC {post : Int32 → Prop} {n : Nat} {b : Int32} (h : post (cp_c0 fl b n)) : wpX_firstCounter post (cap, (nI n), anc, up, fl, ls, lf, la, lr, el, ml, al, ll, pa, mp, su, ex, no) b := by
  unfold wpX_firstCounter
  unfold cp_c0 at h
  by_cases hb : fl &&& b = 0
  · rw [if_pos hb] at h; exact br_t hb h
  · rw [if_neg hb] at h; exact br_f hb h
theorem x_startL {post : St2 → Prop} (h : ∀ ex', cx_R ex' cp_S0 → post (cap, cnt, anc, up, fl, ls, lf, la, lr, el, ml, al, ll, pa, mp, su, ex', no)) : ∀ (d k : Nat) (ex : Nat → Int32), k + d = 16 → (∀ j, j < k → ex j = 0) → wX_startWalk_37 post cap cnt anc up fl ls lf la lr el ml al ll (d + 1) (nI k) pa mp su ex no := by
  intro d
  induction d with
  | zero =>
    intro k ex hk H
    obtain rfl : k = 16 := by omega
    refine br_t (by decide) (nm_e (h _ (cx_R0 pk_us fun d hd h0 => ?_)))
    rw [pk_un h0]
    exact H d hd
  | succ d ih =>
    intro k ex hk H
    refine br_f (nI_ge (b := 16) (by omega) (by decide)) ⟨vp_in_nI (by omega) (by omega), nm_r (by rw [nI_clamp (by omega)]) (nm_r (nI_1 k) (ih (k + 1) (upd ex k 0) (by omega) fun j hj => ?_))⟩
    by_cases e : j = k
    · subst e; exact pk_us
    · rw [pk_un e]; exact H j (by omega)
theorem x_start {post : St2 → Prop} {n : Nat} (h : ∀ ex', cx_R ex' cp_S0 → post (cap, (nI n), anc, up, fl, ls, lf, la, lr, (cp_c0 fl 1 n), (cp_c0 fl 2 n), (cp_c0 fl 4 n), (nI n), pa, mp, su, ex', no)) : wpX_startWalk post (cap, (nI n), anc, up, fl, ls, lf, la, lr, el, ml, al, ll, pa, mp, su, ex, no) := by
  unfold wpX_startWalk
  refine x_firstC (x_firstC (x_firstC ⟨17, ?_⟩))
  exact x_startL h 16 0 ex rfl (fun j hj => absurd hj (by omega))
theorem x_authL {post : Int32 → Prop} (h : ∀ m, cx_m no 16 m → post m) : ∀ (d k : Nat) (m : Int32), k + d = 16 → cx_m no k m → wX_authorityMask_4 post cap cnt anc up fl ls lf la lr el ml al ll pa mp su ex no (d + 1) m (nI k) := by
  intro d
  induction d with
  | zero =>
    intro k m hk H
    obtain rfl : k = 16 := by omega
    exact br_t (by decide) (h m H)
  | succ d ih =>
    intro k m hk H
    refine br_f (nI_ge (b := 16) (by omega) (by decide)) ⟨vp_in_nI (by omega) (by omega), ?_⟩
    rw [nI_clamp (by omega)]
    exact br_c (fun hz => nm_r (nI_1 k) (ih (k + 1) m (by omega) (cx_mz H hz))) (fun hz => nm_e (nm_r (nI_1 k) (ih (k + 1) _ (by omega) (cx_ms (by omega) H hz))))
theorem x_auth {post : Int32 → Prop} {N : Nat → Nat → Prop} (hN : cx_R no N) (h : ∀ R, cp_R N R → post R) : wpX_authorityMask post (cap, cnt, anc, up, fl, ls, lf, la, lr, el, ml, al, ll, pa, mp, su, ex, no) :=
  ⟨17, x_authL (fun m hm => h m (cx_mR hm hN)) 16 0 0 rfl cx_m0⟩
/-- the pair (0, 0): the loop over the policies -/
theorem x_openL {post : St2 → Prop} {i : Nat} (hi : i < 8) {z C om : Int32} {no0 : Nat → Int32} {Q : Nat → Prop} (hQ : ∀ k, Q k ↔ (bt C k = true ∨ (¬ om = 0 ∧ ¬ mp (16 * i + k) = 0)))
    (h : ∀ no', cx_u no0 no' (fun d => (d ≠ 0 ∧ Q d) ∨ (d = 0 ∧ ¬ z = 0)) → post (cap, cnt, anc, up, fl, ls, lf, la, lr, el, ml, al, ll, pa, mp, su, ex, no')) : ∀ (d k : Nat) (no : Nat → Int32), k + d = 16 → 1 ≤ k →
    (∀ d, d < 16 → ∀ v, v < 32 → (bt (no d) v = true ↔ bt (no0 d) v = true ∨ (v = d ∧ d < k ∧ d ≠ 0 ∧ Q d))) → wX_openAnyPolicy_37 post (nI i) z C om cap cnt anc up fl ls lf la lr el ml al ll (d + 1) (nI k) pa mp su ex no := by
  intro d
  induction d with
  | zero =>
    intro k no hk k1 H
    obtain rfl : k = 16 := by omega
    refine br_t (by decide) (br_c (fun hz => h no ?_) (fun hz => nm_e (h _ ?_)))
    · intro d hd v hv
      rw [H d hd v hv]
      constructor
      · rintro (a | ⟨a, b, c, e⟩)
        · exact Or.inl a
        · exact Or.inr ⟨a, Or.inl ⟨c, e⟩⟩
      · rintro (a | ⟨a, ⟨c, e⟩ | ⟨c, e⟩⟩)
        · exact Or.inl a
        · exact Or.inr ⟨a, hd, c, e⟩
        · exact absurd hz e
    · intro d hd v hv
      by_cases e0 : d = 0
      · subst e0
        rw [pk_us, cx_or0 hv, H 0 hd v hv]
        constructor
        · rintro ((a | ⟨_, _, c, _⟩) | a)
          · exact Or.inl a
          · exact absurd rfl c
          · exact Or.inr ⟨a, Or.inr ⟨rfl, hz⟩⟩
        · rintro (a | ⟨a, _⟩)
          · exact Or.inl (Or.inl a)
          · exact Or.inr a
      · rw [pk_un e0, H d hd v hv]
        constructor
        · rintro (a | ⟨a, b, c, e⟩)
          · exact Or.inl a
          · exact Or.inr ⟨a, Or.inl ⟨c, e⟩⟩
        · rintro (a | ⟨a, ⟨c, e⟩ | ⟨c, e⟩⟩)
          · exact Or.inl a
          · exact Or.inr ⟨a, hd, c, e⟩
          · exact absurd c e0
  | succ d ih =>
    intro k no hk k1 H
    have nxt : ¬ Q k → wX_openAnyPolicy_37 post (nI i) z C om cap cnt anc up fl ls lf la lr el ml al ll (d + 1) (nI (k + 1)) pa mp su ex no := by
      intro hq
      refine ih (k + 1) no (by omega) (by omega) fun d hd v hv => ?_
      rw [H d hd v hv]
      constructor
      · rintro (a | ⟨a, b, c, e⟩)
        · exact Or.inl a
        · exact Or.inr ⟨a, by omega, c, e⟩
      · rintro (a | ⟨a, b, c, e⟩)
        · exact Or.inl a
        · by_cases ek : d = k
          · subst ek; exact absurd e hq
          · exact Or.inr ⟨a, by omega, c, e⟩
    have hit : Q k → wX_openAnyPolicy_80 post (wX_openAnyPolicy_37 post (nI i) z C om cap cnt anc up fl ls lf la lr el ml al ll (d + 1)) (nI i) z C om (nI k) cap cnt anc up fl ls lf la lr el ml al ll pa mp su ex no := by
      intro hq
      refine ⟨vp_in_nI (by omega) (by omega), vp_in_nI (by omega) (by omega), nm_r (by rw [nI_clamp (by omega)]) (nm_r (nI_1 k) (ih (k + 1) (upd no k (no k ||| ((1 : Int32) <<< (nI k &&& 31)))) (by omega) (by omega) fun d hd v hv => ?_))⟩
      by_cases ek : d = k
      · subst ek
        rw [pk_us, cx_or1 (by omega) hv, H d hd v hv]
        constructor
        · rintro ((a | ⟨a, b, c, e⟩) | a)
          · exact Or.inl a
          · omega
          · exact Or.inr ⟨a, by omega, by omega, hq⟩
        · rintro (a | ⟨a, b, c, e⟩)
          · exact Or.inl (Or.inl a)
          · exact Or.inr a
      · rw [pk_un ek, H d hd v hv]
        constructor
        · rintro (a | ⟨a, b, c, e⟩)
          · exact Or.inl a
          · exact Or.inr ⟨a, by omega, c, e⟩
        · rintro (a | ⟨a, b, c, e⟩)
          · exact Or.inl a
          · exact Or.inr ⟨a, by omega, c, e⟩
    refine br_f (nI_ge (b := 16) (by omega) (by decide)) (br_c (fun hb => ?_) (fun hb => ?_))
    · have hb' := (cq_bx C (by omega)).mp hb
      unfold wX_openAnyPolicy_58
      refine br_t rfl (br_c (fun ho => nm_r (nI_1 k) (nxt ?_)) (fun ho => x_targets hi (by omega) (br_c (fun ht => nm_r (nI_1 k) (nxt ?_)) (fun ht => hit ((hQ k).mpr (Or.inr ⟨ho, ht⟩))))))
      · rw [hQ, hb']
        rintro (a | a)
        · exact absurd a (by decide)
        · exact a.1 ho
      · rw [hQ, hb']
        rintro (a | a)
        · exact absurd a (by decide)
        · exact a.2 ht
    · have hb' := cq_nf.mp (mt (cq_bx C (by omega)).mpr hb)
      unfold wX_openAnyPolicy_58
      exact br_f (by decide) (hit ((hQ k).mpr (Or.inl hb')))
theorem x_open {post : St2 → Prop} {i n : Nat} (hi : i < n) (hn : n ≤ 8) {z : Int32} {an : Prop} (hz : z = 0 ↔ ¬ an)
    (h : ∀ no', cx_u no no' (fun d => (d ≠ 0 ∧ (bt (pa (12 * i + 6)) d = true ∨ (an ∧ cp_op n ml i ∧ ¬ mp (16 * i + d) = 0))) ∨ (d = 0 ∧ an)) → post (cap, (nI n), anc, up, fl, ls, lf, la, lr, el, ml, al, ll, pa, mp, su, ex, no')) : wpX_openAnyPolicy post (cap, (nI n), anc, up, fl, ls, lf, la, lr, el, ml, al, ll, pa, mp, su, ex, no) (nI i) z := by
  unfold wpX_openAnyPolicy
  have key : ∀ om : Int32, (om = 0 ↔ ¬ (an ∧ cp_op n ml i)) → ∃ n37 : Nat, wX_openAnyPolicy_37 post (nI i) z (pa (12 * i + 6)) om cap (nI n) anc up fl ls lf la lr el ml al ll n37 1 pa mp su ex no := by
    intro om hom
    refine ⟨16, x_openL (by omega) (Q := fun k => bt (pa (12 * i + 6)) k = true ∨ (¬ om = 0 ∧ ¬ mp (16 * i + k) = 0)) (no0 := no) (fun k => Iff.rfl) (fun no' hu => h no' ?_) 15 1 no rfl (by omega) ?_⟩
    · intro d hd v hv
      rw [hu d hd v hv, hz, hom]
      dsimp only
      rw [Classical.not_not, Classical.not_not, and_assoc]
    · intro d hd v hv
      constructor
      · exact Or.inl
      · rintro (a | ⟨a, b, c, e⟩)
        · exact a
        · omega
  refine x_part (f := 6) (by omega) (by decide) (br_c (fun h0 => key 0 ⟨fun _ a => hz.mp h0 a.1, fun _ => rfl⟩) (fun h0 => x_leaf hi hn (fun hl => br_f (by decide) (key 0 ⟨fun _ a => a.2.1 hl, fun _ => rfl⟩)) (fun hl => br_t rfl (br_c (fun hm => key 0 ⟨fun _ a => absurd a.2.2 (Int32.not_lt.mpr hm), fun _ => rfl⟩) (fun hm => key 1 ⟨fun a => absurd a (by decide), fun a => absurd ⟨Classical.byContradiction fun b => h0 (hz.mpr b), hl, Int32.not_le.mp hm⟩ a⟩)))))
theorem x_fillL {post : St2 → Prop} {i n : Nat} (hi : i < n) (hn : n ≤ 8) {z kept : Int32} {an : Prop} (hz : z = 0 ↔ ¬ an) (hk : cx_k an (pa (12 * i + 6)) kept) {S : Nat → Nat → Prop} (hS : cx_R ex S)
    (h : ∀ no', cx_R no' (cp_N S (pa (12 * i + 6)) an (cp_op n ml i) (fun v => mp (16 * i + v))) → post (cap, (nI n), anc, up, fl, ls, lf, la, lr, el, ml, al, ll, pa, mp, su, ex, no')) : ∀ (d k : Nat) (no : Nat → Int32), k + d = 16 →
    (∀ j, j < k → no j = (ex j &&& kept) &&& (-2)) → wX_fillNodes_23 post (nI i) z kept cap (nI n) anc up fl ls lf la lr el ml al ll (d + 1) (nI k) pa mp su ex no := by
  intro d
  induction d with
  | zero =>
    intro k no hk' H
    obtain rfl : k = 16 := by omega
    refine br_t (by decide) (br_c (fun h0 => h no (cx_N hS hk H ?_)) (fun h0 => x_open hi hn hz (fun no' hu => h no' (cx_N hS hk H ?_))))
    · have s0 : ¬ S 0 0 := by
        intro hs
        have := (hS 0 (by omega) 0 (by omega)).mpr ⟨by omega, hs⟩
        rw [(cq_b0 _).mp h0] at this
        exact absurd this (by decide)
      intro d hd v hv
      constructor
      · exact Or.inl
      · rintro (a | ⟨_, a, _⟩)
        · exact a
        · exact absurd a s0
    · have s0 : S 0 0 := ((hS 0 (by omega) 0 (by omega)).mp (cq_nf.mp (mt (cq_b0 _).mpr h0))).2
      intro d hd v hv
      rw [hu d hd v hv]
      constructor
      · rintro (a | ⟨a, b⟩)
        · exact Or.inl a
        · exact Or.inr ⟨a, s0, b⟩
      · rintro (a | ⟨a, _, b⟩)
        · exact Or.inl a
        · exact Or.inr ⟨a, b⟩
  | succ d ih =>
    intro k no hk' H
    refine br_f (nI_ge (b := 16) (by omega) (by decide)) ⟨vp_in_nI (by omega) (by omega), vp_in_nI (by omega) (by omega), nm_r (by rw [nI_clamp (by omega)]) (nm_r (nI_1 k) (ih (k + 1) (upd no k ((ex k &&& kept) &&& (-2))) (by omega) fun j hj => ?_))⟩
    by_cases e : j = k
    · subst e; exact pk_us
    · rw [pk_un e]; exact H j (by omega)
theorem x_fill {post : St2 → Prop} {i n : Nat} (hi : i < n) (hn : n ≤ 8) {z : Int32} {an : Prop} (hz : z = 0 ↔ ¬ an) {S : Nat → Nat → Prop} (hS : cx_R ex S)
    (h : ∀ no', cx_R no' (cp_N S (pa (12 * i + 6)) an (cp_op n ml i) (fun v => mp (16 * i + v))) → post (cap, (nI n), anc, up, fl, ls, lf, la, lr, el, ml, al, ll, pa, mp, su, ex, no')) : wpX_fillNodes post (cap, (nI n), anc, up, fl, ls, lf, la, lr, el, ml, al, ll, pa, mp, su, ex, no) (nI i) z := by
  unfold wpX_fillNodes
  exact x_part (f := 6) (by omega) (by decide) (br_c (fun h0 => ⟨17, x_fillL hi hn hz (Or.inr ⟨hz.mp h0, rfl⟩) hS h 16 0 no rfl (fun j hj => absurd hj (by omega))⟩)
    (fun h0 => ⟨17, x_fillL hi hn hz (Or.inl ⟨Classical.byContradiction fun b => h0 (hz.mpr b), rfl⟩) hS h 16 0 no rfl (fun j hj => absurd hj (by omega))⟩))
theorem x_mappedL {post : Int32 → Prop} {i : Nat} (hi : i < 8) {held : Int32} (h : ∀ r, cx_t ml (fun v => mp (16 * i + v)) held 16 r → post r) : ∀ (d k : Nat) (r : Int32), k + d = 16 → 1 ≤ k →
    cx_t ml (fun v => mp (16 * i + v)) held k r → wX_mapped_7 post (nI i) held cap cnt anc up fl ls lf la lr el ml al ll pa mp su ex no (d + 1) r (nI k) := by
  intro d
  induction d with
  | zero =>
    intro k r hk k1 H
    obtain rfl : k = 16 := by omega
    exact br_t (by decide) (h r H)
  | succ d ih =>
    intro k r hk k1 H
    refine br_f (nI_ge (b := 16) (by omega) (by decide)) (br_c (fun hb => nm_r (nI_1 k) (ih (k + 1) r (by omega) (by omega) (cx_tn H fun a => ?_))) (fun hb => ?_))
    · rw [(cq_bx held (by omega)).mp hb] at a
      exact absurd a (by decide)
    · have hb' := cq_nf.mp (mt (cq_bx held (by omega)).mpr hb)
      refine x_targets hi (by omega) (br_c (fun ht => nm_e (nm_r (nI_1 k) (ih (k + 1) _ (by omega) (by omega) (cx_tv (by omega) (by omega) H hb' ht)))) (fun ht => br_c (fun hm => nm_r (nI_1 k) (ih (k + 1) r (by omega) (by omega) (cx_tn H fun _ => ⟨ht, Int32.not_lt.mpr hm⟩))) (fun hm => nm_e (nm_r (nI_1 k) (ih (k + 1) _ (by omega) (by omega) ?_)))))
      exact cx_tt (T := fun v => mp (16 * i + v)) (by omega) H hb' ht (Int32.not_le.mp hm)
theorem x_mapped {post : Int32 → Prop} {i : Nat} (hi : i < 8) {held : Int32} (h : ∀ r, cx_t ml (fun v => mp (16 * i + v)) held 16 r → post r) : wpX_mapped post (cap, cnt, anc, up, fl, ls, lf, la, lr, el, ml, al, ll, pa, mp, su, ex, no) (nI i) held := by
  unfold wpX_mapped
  exact nm_e ⟨16, x_mappedL hi h 15 1 _ rfl (by omega) cx_t1⟩
theorem x_next22 {post : Int32 → Prop} {i f : Nat} (hi : i < 8) (hf : f < 12) {y : Int32} (h : post (if 0 ≤ pa (12 * i + f) ∧ pa (12 * i + f) < y then pa (12 * i + f) else y)) : wX_nextCounter_22 post (nI i) (nI f) y cap cnt anc up fl ls lf la lr el ml al ll pa mp su ex no := by
  unfold wX_nextCounter_22
  refine x_part hi hf (br_c (fun a => ?_) (fun a => br_c (fun b => ?_) (fun b => ?_)))
  · rw [if_neg (fun c => absurd c.1 (Int32.not_le.mpr a))] at h; exact h
  · rw [if_neg (fun c => absurd c.2 (Int32.not_lt.mpr b))] at h; exact h
  · rw [if_pos ⟨Int32.not_lt.mp a, Int32.not_le.mp b⟩] at h; exact h
theorem x_next {post : Int32 → Prop} {i f : Nat} (hi : i < 8) (hf : f < 12) {c : Int32} (h : post (cp_nx (pa (12 * i)) (pa (12 * i + 1)) c (pa (12 * i + f)))) : wpX_nextCounter post (cap, cnt, anc, up, fl, ls, lf, la, lr, el, ml, al, ll, pa, mp, su, ex, no) c (nI i) (nI f) := by
  unfold wpX_nextCounter
  unfold cp_nx at h
  refine br_c (fun a => ?_) (fun a => x_self hi (fun b => br_f (by decide) ?_) (fun b => br_t rfl (nm_e ?_)))
  · have e : (if 0 < c ∧ ¬ pa (12 * i) = pa (12 * i + 1) then c - 1 else c) = c := if_neg (fun q => absurd q.1 (Int32.not_lt.mpr a))
    rw [e] at h
    exact x_next22 hi hf h
  · have e : (if 0 < c ∧ ¬ pa (12 * i) = pa (12 * i + 1) then c - 1 else c) = c := if_neg (fun q => q.2 b)
    rw [e] at h
    exact x_next22 hi hf h
  · have e : (if 0 < c ∧ ¬ pa (12 * i) = pa (12 * i + 1) then c - 1 else c) = c - 1 := if_pos ⟨Int32.not_le.mp a, b⟩
    rw [e] at h
    exact x_next22 hi hf h
theorem x_prepL {post : St2 → Prop} {i : Nat} (hi : i < 8) {N : Nat → Nat → Prop} (hN : cx_R no N) (hT : ∀ j, cp_T (mp j))
    (h : ∀ ex', cx_R ex' (cp_S N ml (fun v => mp (16 * i + v))) → post (cap, cnt, anc, up, fl, ls, lf, la, lr, (cp_nx (pa (12 * i)) (pa (12 * i + 1)) el (pa (12 * i + 7))), (cp_nx (pa (12 * i)) (pa (12 * i + 1)) ml (pa (12 * i + 8))), (cp_nx (pa (12 * i)) (pa (12 * i + 1)) al (pa (12 * i + 9))), (cp_nx (pa (12 * i)) (pa (12 * i + 1)) ll (pa (12 * i + 5))), pa, mp, su, ex', no)) :
    ∀ (d k : Nat) (ex : Nat → Int32), k + d = 16 → (∀ j, j < k → cx_t ml (fun v => mp (16 * i + v)) (no j) 16 (ex j)) → wX_prepareNext_2 post (nI i) cap cnt anc up fl ls lf la lr el ml al ll (d + 1) (nI k) pa mp su ex no := by
  intro d
  induction d with
  | zero =>
    intro k ex hk H
    obtain rfl : k = 16 := by omega
    exact br_t (by decide) (x_next (f := 5) hi (by decide) (x_next (f := 7) hi (by decide) (x_next (f := 8) hi (by decide) (x_next (f := 9) hi (by decide) (h ex (cx_S (fun v => hT _) hN H))))))
  | succ d ih =>
    intro k ex hk H
    refine br_f (nI_ge (b := 16) (by omega) (by decide)) ⟨vp_in_nI (by omega) (by omega), x_mapped hi (fun r hr => ⟨vp_in_nI (by omega) (by omega), nm_r (by rw [nI_clamp (by omega)]) (nm_r (nI_1 k) (ih (k + 1) (upd ex k r) (by omega) fun j hj => ?_))⟩)⟩
    rw [nI_clamp (by omega)] at hr
    by_cases e : j = k
    · subst e; rw [pk_us]; exact hr
    · rw [pk_un e]; exact H j (by omega)
theorem x_prep {post : St2 → Prop} {i : Nat} (hi : i < 8) {N : Nat → Nat → Prop} (hN : cx_R no N) (hT : ∀ j, cp_T (mp j))
    (h : ∀ ex', cx_R ex' (cp_S N ml (fun v => mp (16 * i + v))) → post (cap, cnt, anc, up, fl, ls, lf, la, lr, (cp_nx (pa (12 * i)) (pa (12 * i + 1)) el (pa (12 * i + 7))), (cp_nx (pa (12 * i)) (pa (12 * i + 1)) ml (pa (12 * i + 8))), (cp_nx (pa (12 * i)) (pa (12 * i + 1)) al (pa (12 * i + 9))), (cp_nx (pa (12 * i)) (pa (12 * i + 1)) ll (pa (12 * i + 5))), pa, mp, su, ex', no)) : wpX_prepareNext post (cap, cnt, anc, up, fl, ls, lf, la, lr, el, ml, al, ll, pa, mp, su, ex, no) (nI i) :=
  ⟨17, x_prepL hi hN hT h 16 0 ex rfl (fun j hj => absurd hj (by omega))⟩
theorem x_accept {post : Int32 → Prop} {R : Int32} (h : post (cp_F up R)) : wpX_acceptedOf post (cap, cnt, anc, up, fl, ls, lf, la, lr, el, ml, al, ll, pa, mp, su, ex, no) R := by
  unfold wpX_acceptedOf
  unfold cp_F at h
  refine br_c (fun a => br_c (fun b => ?_) (fun b => ?_)) (fun a => ?_)
  · rw [if_pos a, if_pos b] at h; exact h
  · rw [if_pos a, if_neg b] at h; exact h
  · rw [if_neg a] at h; exact h
theorem x_wrap30 {post : Int32 → St2 → Prop} {n : Nat} {z : Int32} {Q : Prop} (hz : z = 0 ↔ ¬ Q) {N : Nat → Nat → Prop} (hN : cx_R no N)
    (h : ∀ R, cp_R N R → ((Q ∧ cp_F up R = 0 → post 5 (cap, cnt, anc, up, fl, 5, (nI (n - 1)), 0, 0, el, ml, al, ll, pa, mp, su, ex, no)) ∧ (¬ (Q ∧ cp_F up R = 0) → post 0 (cap, cnt, anc, up, fl, 0, (-1), (cp_F up R), R, el, ml, al, ll, pa, mp, su, ex, no)))) : wX_wrapUp_30 post (nI (n - 1)) z cap cnt anc up fl ls lf la lr el ml al ll pa mp su ex no := by
  unfold wX_wrapUp_30
  refine x_auth hN (fun R hR => x_accept (br_c (fun a => (h R hR).2 (fun c => hz.mp a c.1)) (fun a => br_c (fun b => (h R hR).1 ⟨Classical.byContradiction fun c => a (hz.mpr c), b⟩) (fun b => (h R hR).2 (fun c => b c.2)))))
theorem x_wrap {post : Int32 → St2 → Prop} {n : Nat} (h1 : 1 ≤ n) (hn : n ≤ 8) {N : Nat → Nat → Prop} (hN : cx_R no N)
    (h : cp_W pa up n (fun s x F R => post s (cap, (nI n), anc, up, fl, s, x, F, R, el, ml, al, ll, pa, mp, su, ex, no)) el N) : wpX_wrapUp post (cap, (nI n), anc, up, fl, ls, lf, la, lr, el, ml, al, ll, pa, mp, su, ex, no) := by
  unfold wpX_wrapUp
  have e : nI n - 1 = nI (n - 1) := by
    obtain ⟨m, rfl⟩ : ∃ m, n = m + 1 := ⟨n - 1, by omega⟩
    exact nI_pred m
  refine nm_r e (br_c (fun a => ?_) (fun a => x_part (f := 7) (by omega) (by decide) (br_c (fun b => ?_) (fun b => ?_))))
  · exact x_wrap30 (Q := el ≤ 1 ∨ pa (12 * (n - 1) + 7) = 0) ⟨fun z => absurd z (by decide), fun z => absurd (Or.inl a) z⟩ hN h
  · exact x_wrap30 (Q := el ≤ 1 ∨ pa (12 * (n - 1) + 7) = 0) ⟨fun z => absurd z (by decide), fun z => absurd (Or.inr b) z⟩ hN h
  · exact x_wrap30 (Q := el ≤ 1 ∨ pa (12 * (n - 1) + 7) = 0) ⟨fun _ z => z.elim a b, fun _ => rfl⟩ hN h
end XP
