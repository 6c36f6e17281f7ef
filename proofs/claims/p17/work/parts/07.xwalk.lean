section XW
variable {cap cnt anc up fl ls lf la lr el ml al ll : Int32} {pa mp su ex no : Nat → Int32}
/-! X: validate -/
theorem x_c121 {post : Int32 → St2 → Prop} {i n : Nat} (hi : i < n) (hn : n ≤ 8) {z : Int32} (hz : z = 0 ↔ ¬ cp_an pa n al i) {S : Nat → Nat → Prop} (hS : cx_R ex S)
    (h : ∀ no', cx_R no' (cp_NN pa mp n i ml al S) → ((el = 0 ∧ cp_em (cp_NN pa mp n i ml al S) → post 5 (cap, (nI n), anc, up, fl, ls, lf, la, lr, el, ml, al, ll, pa, mp, su, ex, no')) ∧ (¬ (el = 0 ∧ cp_em (cp_NN pa mp n i ml al S)) → post 0 (cap, (nI n), anc, up, fl, ls, lf, la, lr, el, ml, al, ll, pa, mp, su, ex, no')))) :
    wX_checkCert_121 post (nI i) z cap (nI n) anc up fl ls lf la lr el ml al ll pa mp su ex no := by
  unfold wX_checkCert_121
  refine x_fill hi hn hz hS (fun no' hN => br_c (fun e0 => x_auth hN (fun R hR => br_c (fun r0 => (h no' hN).1 ⟨e0, (cp_R0 hR).mp r0⟩) (fun r0 => (h no' hN).2 (fun q => r0 ((cp_R0 hR).mpr q.2))))) (fun e0 => (h no' hN).2 (fun q => e0 q.1)))
theorem x_c92 {post : Int32 → St2 → Prop} {i n : Nat} (hi : i < n) (hn : n ≤ 8) {z : Int32} (hz : z = 0 ↔ ¬ cp_ex pa n i) {S : Nat → Nat → Prop} (hS : cx_R ex S)
    (h : ∀ no', cx_R no' (cp_NN pa mp n i ml al S) → ((el = 0 ∧ cp_em (cp_NN pa mp n i ml al S) → post 5 (cap, (nI n), anc, up, fl, ls, lf, la, lr, el, ml, al, ll, pa, mp, su, ex, no')) ∧ (¬ (el = 0 ∧ cp_em (cp_NN pa mp n i ml al S)) → post 0 (cap, (nI n), anc, up, fl, ls, lf, la, lr, el, ml, al, ll, pa, mp, su, ex, no')))) :
    wX_checkCert_92 post (nI i) z cap (nI n) anc up fl ls lf la lr el ml al ll pa mp su ex no := by
  unfold wX_checkCert_92
  refine x_part (f := 6) (by omega) (by decide) (br_c (fun b0 => x_c121 hi hn ⟨fun _ q => ?_, fun _ => rfl⟩ hS h) (fun b0 => br_c (fun a0 => x_c121 hi hn ⟨fun q => absurd q (by decide), fun q => ?_⟩ hS h) (fun a0 => br_c (fun x0 => x_c121 hi hn ⟨fun _ q => ?_, fun _ => rfl⟩ hS h) (fun x0 => x_c121 hi hn ⟨fun q => absurd q (by decide), fun q => ?_⟩ hS h))))
  · have q1 := q.1
    rw [(cq_b0 _).mp b0] at q1
    exact absurd q1 (by decide)
  · exact absurd ⟨cq_nf.mp (mt (cq_b0 _).mpr b0), Or.inl a0⟩ q
  · exact q.2.elim a0 (hz.mp x0)
  · exact absurd ⟨cq_nf.mp (mt (cq_b0 _).mpr b0), Or.inr (Classical.byContradiction fun c => x0 (hz.mpr c))⟩ q
theorem x_c75 {post : Int32 → St2 → Prop} {i n : Nat} (hi : i < n) (hn : n ≤ 8) (hK : cp_K pa) {z : Int32} (hz : z = 0 ↔ ¬ cp_ex pa n i) {S : Nat → Nat → Prop} (hS : cx_R ex S)
    (h : ((¬ cp_ex pa n i ∧ cp_bad pa su i) → post 4 (cap, (nI n), anc, up, fl, ls, lf, la, lr, el, ml, al, ll, pa, mp, su, ex, no)) ∧ (¬ (¬ cp_ex pa n i ∧ cp_bad pa su i) →
      ∀ no', cx_R no' (cp_NN pa mp n i ml al S) → ((el = 0 ∧ cp_em (cp_NN pa mp n i ml al S) → post 5 (cap, (nI n), anc, up, fl, ls, lf, la, lr, el, ml, al, ll, pa, mp, su, ex, no')) ∧ (¬ (el = 0 ∧ cp_em (cp_NN pa mp n i ml al S)) → post 0 (cap, (nI n), anc, up, fl, ls, lf, la, lr, el, ml, al, ll, pa, mp, su, ex, no'))))) :
    wX_checkCert_75 post (nI i) z cap (nI n) anc up fl ls lf la lr el ml al ll pa mp su ex no := by
  unfold wX_checkCert_75
  exact br_c (fun z0 => x_bad (by omega) hK (fun hb => br_f (by decide) (h.1 ⟨hz.mp z0, hb⟩)) (fun hb => br_t rfl (x_c92 hi hn hz hS (h.2 (fun q => hb q.2))))) (fun z0 => x_c92 hi hn hz hS (h.2 (fun q => z0 (hz.mpr q.1))))
theorem x_c41 {post : Int32 → St2 → Prop} {i n : Nat} (hi : i < n) (hn : n ≤ 8) (hK : cp_K pa) {w : Int32} (hw : w = cp_want pa anc i) {S : Nat → Nat → Prop} (hS : cx_R ex S)
    (h : ((¬ pa (12 * i) = cp_want pa anc i) → post 3 (cap, (nI n), anc, up, fl, ls, lf, la, lr, el, ml, al, ll, pa, mp, su, ex, no)) ∧ (¬ (¬ pa (12 * i) = cp_want pa anc i) →
      ((¬ cp_ex pa n i ∧ cp_bad pa su i) → post 4 (cap, (nI n), anc, up, fl, ls, lf, la, lr, el, ml, al, ll, pa, mp, su, ex, no)) ∧ (¬ (¬ cp_ex pa n i ∧ cp_bad pa su i) →
      ∀ no', cx_R no' (cp_NN pa mp n i ml al S) → ((el = 0 ∧ cp_em (cp_NN pa mp n i ml al S) → post 5 (cap, (nI n), anc, up, fl, ls, lf, la, lr, el, ml, al, ll, pa, mp, su, ex, no')) ∧ (¬ (el = 0 ∧ cp_em (cp_NN pa mp n i ml al S)) → post 0 (cap, (nI n), anc, up, fl, ls, lf, la, lr, el, ml, al, ll, pa, mp, su, ex, no')))))) :
    wX_checkCert_41 post (nI i) w cap (nI n) anc up fl ls lf la lr el ml al ll pa mp su ex no := by
  unfold wX_checkCert_41
  subst hw
  refine x_part (f := 0) (by omega) (by decide) (br_c (fun e => ?_) (fun e => h.1 e))
  have h' := h.2 (fun q => q e)
  refine x_self (by omega) (fun s => br_f (by decide) (x_leaf hi hn (fun l => br_f (by decide) ?_) (fun l => br_t rfl ?_))) (fun s => br_t rfl ?_)
  · exact x_c75 hi hn hK ⟨fun _ q => q.2 l, fun _ => rfl⟩ hS h'
  · exact x_c75 hi hn hK ⟨fun q => absurd q (by decide), fun q => absurd ⟨s, l⟩ q⟩ hS h'
  · exact x_c75 hi hn hK ⟨fun _ q => s q.1, fun _ => rfl⟩ hS h'
theorem x_check {post : Int32 → St2 → Prop} {i n : Nat} (hi : i < n) (hn : n ≤ 8) (hK : cp_K pa) {tm : Int32} {S : Nat → Nat → Prop} (hS : cx_R ex S)
    (h : ((tm < pa (12 * i + 2) ∨ pa (12 * i + 3) < tm) → post 2 (cap, (nI n), anc, up, fl, ls, lf, la, lr, el, ml, al, ll, pa, mp, su, ex, no)) ∧ (¬ (tm < pa (12 * i + 2) ∨ pa (12 * i + 3) < tm) →
      ((¬ pa (12 * i) = cp_want pa anc i) → post 3 (cap, (nI n), anc, up, fl, ls, lf, la, lr, el, ml, al, ll, pa, mp, su, ex, no)) ∧ (¬ (¬ pa (12 * i) = cp_want pa anc i) →
      ((¬ cp_ex pa n i ∧ cp_bad pa su i) → post 4 (cap, (nI n), anc, up, fl, ls, lf, la, lr, el, ml, al, ll, pa, mp, su, ex, no)) ∧ (¬ (¬ cp_ex pa n i ∧ cp_bad pa su i) →
      ∀ no', cx_R no' (cp_NN pa mp n i ml al S) → ((el = 0 ∧ cp_em (cp_NN pa mp n i ml al S) → post 5 (cap, (nI n), anc, up, fl, ls, lf, la, lr, el, ml, al, ll, pa, mp, su, ex, no')) ∧ (¬ (el = 0 ∧ cp_em (cp_NN pa mp n i ml al S)) → post 0 (cap, (nI n), anc, up, fl, ls, lf, la, lr, el, ml, al, ll, pa, mp, su, ex, no'))))))) :
    wpX_checkCert post (cap, (nI n), anc, up, fl, ls, lf, la, lr, el, ml, al, ll, pa, mp, su, ex, no) (nI i) tm := by
  unfold wpX_checkCert
  refine x_part (f := 2) (by omega) (by decide) (br_c (fun a => h.1 (Or.inl a)) (fun a => x_part (f := 3) (by omega) (by decide) (br_c (fun b => ?_) (fun b => h.1 (Or.inr (Int32.not_le.mp b))))))
  have h' := h.2 (fun q => q.elim a (Int32.not_lt.mpr b))
  refine pk_eq i 0 (fun e => ?_) (fun e => ?_)
  · exact x_c41 hi hn hK (by rw [e]; rfl) hS h'
  · obtain ⟨m, rfl⟩ : ∃ m, i = m + 1 := ⟨i - 1, by omega⟩
    rw [nI_pred]
    exact x_part (f := 1) (by omega) (by decide) (x_c41 hi hn hK rfl hS h')
theorem x_issuing {post : Int32 → Prop} {i : Nat} (hi : i < 8)
    (h : (pa (12 * i + 4) &&& 1 = 0 → post 6) ∧ (¬ pa (12 * i + 4) &&& 1 = 0 →
      ((¬ cp_self pa i ∧ ll = 0) → post 7) ∧ (¬ (¬ cp_self pa i ∧ ll = 0) →
      ((¬ pa (12 * i + 4) &&& 2 = 0 ∧ pa (12 * i + 4) &&& 4 = 0) → post 8) ∧ (¬ (¬ pa (12 * i + 4) &&& 2 = 0 ∧ pa (12 * i + 4) &&& 4 = 0) → post 0)))) : wpX_checkIssuing post (cap, cnt, anc, up, fl, ls, lf, la, lr, el, ml, al, ll, pa, mp, su, ex, no) (nI i) := by
  unfold wpX_checkIssuing
  have k : ¬ pa (12 * i + 4) &&& 1 = 0 → ¬ (¬ cp_self pa i ∧ ll = 0) → wX_checkIssuing_34 post (pa (12 * i + 4)) cap cnt anc up fl ls lf la lr el ml al ll pa mp su ex no := by
    intro a b
    have h' := (h.2 a).2 b
    exact br_c (fun c => h'.2 (fun q => q.1 c)) (fun c => br_c (fun d => h'.1 ⟨c, d⟩) (fun d => h'.2 (fun q => d q.2)))
  exact x_part (f := 4) hi (by decide) (br_c (fun a => h.1 a) (fun a => x_self hi (fun s => br_f (by decide) (k a (fun q => q.1 s))) (fun s => br_t rfl (br_c (fun m => (h.2 a).1 ⟨s, m⟩) (fun m => k a (fun q => m q.2))))))
/-- a fault found: kept -/
theorem x_v58f {post : Int32 → St2 → Prop} {J : Int32 → Int32 → Int32 → Int32 → Int32 → Int32 → Int32 → Int32 → Int32 → Int32 → Int32 → Int32 → Int32 → Int32 → (Nat → Int32) → (Nat → Int32) → (Nat → Int32) → (Nat → Int32) → (Nat → Int32) → Prop} {x1 x2 x3 s : Int32} (hs : ¬ s = 0)
    (h : post s (cap, cnt, anc, up, fl, s, x3, 0, 0, el, ml, al, ll, pa, mp, su, ex, no)) : wX_validate_58 post J x1 x2 x3 s cap cnt anc up fl ls lf la lr el ml al ll pa mp su ex no := by
  unfold wX_validate_58
  exact br_f hs (x_keep h)
theorem x_valL {post : Int32 → St2 → Prop} {n : Nat} (hn : n ≤ 8) (hK : cp_K pa) (hT : ∀ j, cp_T (mp j)) {tm : Int32} :
    ∀ (d i : Nat) (el ml al ll : Int32) (ex no : Nat → Int32) (S : Nat → Nat → Prop), i + d = n → 1 ≤ d → cx_R ex S →
    cp_V pa mp su anc up tm n (fun s x F R => ∀ el ml al ll ex no, post s (cap, (nI n), anc, up, fl, s, x, F, R, el, ml, al, ll, pa, mp, su, ex, no)) d i el ml al ll S →
    wX_validate_25 post tm (nI n) (d + 1) (nI i) cap (nI n) anc up fl ls lf la lr el ml al ll pa mp su ex no := by
  intro d
  induction d with
  | zero => intro i el ml al ll ex no S h1 h2; omega
  | succ d ih =>
    intro i el ml al ll ex no S h1 h2 hS hV
    refine br_f (nI_ge (by omega) (by omega)) ?_
    unfold cp_V at hV
    refine x_check (by omega) hn hK hS ⟨fun c1 => ?_, fun c1 => ⟨fun c2 => ?_, fun c2 => ⟨fun c3 => ?_, fun c3 no' hN => ⟨fun c4 => ?_, fun c4 => ?_⟩⟩⟩⟩
    · exact br_f (by decide) (x_v58f (by decide) (hV.1 c1 _ _ _ _ _ _))
    · exact br_f (by decide) (x_v58f (by decide) ((hV.2 c1).1 c2 _ _ _ _ _ _))
    · exact br_f (by decide) (x_v58f (by decide) (((hV.2 c1).2 c2).1 c3 _ _ _ _ _ _))
    · exact br_f (by decide) (x_v58f (by decide) ((((hV.2 c1).2 c2).2 c3).1 c4 _ _ _ _ _ _))
    · have hV' := (((hV.2 c1).2 c2).2 c3).2 c4
      refine br_t rfl (x_leaf (by omega) hn (fun l => br_f (by decide) ?_) (fun l => br_t rfl (x_issuing (by omega) ⟨fun c6 => ?_, fun c6 => ⟨fun c7 => ?_, fun c7 => ⟨fun c8 => ?_, fun c8 => ?_⟩⟩⟩)))
      · unfold wX_validate_58
        refine br_t rfl (x_leaf (by omega) hn (fun _ => br_f (by decide) (nm_r (nI_1 i) ?_)) (fun l' => absurd l l'))
        obtain rfl : d = 0 := by omega
        refine br_t (nI_le (by omega) (by omega)) (x_wrap (by omega) hn hN ?_)
        intro R hR
        exact ⟨fun q => (hV'.1 l R hR).1 q _ _ _ _ _ _, fun q => (hV'.1 l R hR).2 q _ _ _ _ _ _⟩
      · exact x_v58f (by decide) ((hV'.2 l).1 c6 _ _ _ _ _ _)
      · exact x_v58f (by decide) (((hV'.2 l).2 c6).1 c7 _ _ _ _ _ _)
      · exact x_v58f (by decide) ((((hV'.2 l).2 c6).2 c7).1 c8 _ _ _ _ _ _)
      · unfold wX_validate_58
        refine br_t rfl (x_leaf (by omega) hn (fun l' => absurd l' l) (fun _ => br_t rfl (x_prep (by omega) hN hT (fun ex' hE => nm_r (nI_1 i) ?_))))
        exact ih (i + 1) _ _ _ _ ex' no' _ (by omega) (by omega) hE ((((hV'.2 l).2 c6).2 c7).2 c8)
theorem x_val {post : Int32 → St2 → Prop} {n : Nat} (h1 : 1 ≤ n) (hn : n ≤ 8) (hK : cp_K pa) (hT : ∀ j, cp_T (mp j)) {tm : Int32}
    (h : cp_V pa mp su anc up tm n (fun s x F R => ∀ el ml al ll ex no, post s (cap, (nI n), anc, up, fl, s, x, F, R, el, ml, al, ll, pa, mp, su, ex, no)) n 0 (cp_c0 fl 1 n) (cp_c0 fl 2 n) (cp_c0 fl 4 n) (nI n) cp_S0) : wpX_validate post (cap, (nI n), anc, up, fl, ls, lf, la, lr, el, ml, al, ll, pa, mp, su, ex, no) tm := by
  unfold wpX_validate
  refine br_f (nI_ne0 (by omega) (by omega)) (x_start (fun ex' hE => ⟨n + 1, ?_⟩))
  exact x_valL hn hK hT n 0 _ _ _ _ ex' no _ (by omega) h1 hE h
end XW
