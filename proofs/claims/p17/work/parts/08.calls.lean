/-! how the arrays of Y follow those of X -/
theorem cp_aS {pa : Nat → Int32} {n f : Nat} {y : Int32} : cp_a (upd pa (12 * n + f) y) f = upd (cp_a pa f) n y := by
  funext c
  unfold cp_a upd
  by_cases e : c = n
  · subst e; rw [if_pos rfl, if_pos rfl]
  · rw [if_neg (by omega), if_neg e]
theorem cp_aN {pa : Nat → Int32} {n f k : Nat} {y : Int32} (h : k ≠ f) (hk : k < 12) (hf : f < 12) : cp_a (upd pa (12 * n + f) y) k = cp_a pa k := by
  funext c
  unfold cp_a upd
  rw [if_neg (by omega)]
theorem cp_aC {pa q : Nat → Int32} {n k : Nat} (hk : k < 12) (h : ∀ j, q j = if 12 * n ≤ j ∧ j < 12 * n + 12 then 0 else pa j) : cp_a q k = upd (cp_a pa k) n 0 := by
  funext c
  unfold cp_a upd
  rw [h]
  by_cases e : c = n
  · subst e; rw [if_pos (by omega), if_pos rfl]
  · rw [if_neg (by omega), if_neg e]
theorem cp_uu {g : Nat → Int32} {n : Nat} {x y : Int32} : upd (upd g n x) n y = upd g n y := by
  funext c
  unfold upd
  by_cases e : c = n
  · rw [if_pos e, if_pos e]
  · rw [if_neg e, if_neg e, if_neg e]
theorem cp_spS {su : Nat → Int32} {c kd K : Nat} {y : Int32} (hK : K < 4) (hkd : kd < 2) : cp_sp (upd su (8 * c + 4 * kd + K) y) kd = upd (cp_sp su kd) (4 * c + K) y := by
  funext j
  unfold cp_sp upd
  by_cases e : j = 4 * c + K
  · rw [if_pos (by omega), if_pos e]
  · rw [if_neg (by omega), if_neg e]
theorem cp_spN {su : Nat → Int32} {c kd kd' K : Nat} {y : Int32} (hK : K < 4) (hkd : kd < 2) (hkd' : kd' < 2) (h : kd' ≠ kd) : cp_sp (upd su (8 * c + 4 * kd + K) y) kd' = cp_sp su kd' := by
  funext j
  unfold cp_sp upd
  rw [if_neg (by omega)]
/-! what the relation holds of the arrays -/
def cp_Inv (pa mp su : Nat → Int32) : Prop := (∀ c, cp_nm (pa (12 * c + 1))) ∧ cp_K pa ∧ (∀ j, cp_T (mp j)) ∧ (∀ j, cp_nm (su j))
theorem cp_Inv0 : cp_Inv (fun _ => 0) (fun _ => 0) (fun _ => 0) :=
  ⟨fun _ => cp_nm0, fun _ _ _ => ⟨0, by omega, rfl⟩, fun _ t _ h => by rw [b_0] at h; exact absurd h (by decide), fun _ => cp_nm0⟩
theorem cp_InvN {pa mp su : Nat → Int32} {c f : Nat} {y : Int32} (h : cp_Inv pa mp su) (hf : f < 12) (h1 : f ≠ 1) (h2 : f < 10) : cp_Inv (upd pa (12 * c + f) y) mp su := by
  refine ⟨fun d => ?_, fun d kd hkd => ?_, h.2.2.1, h.2.2.2⟩
  · rw [pk_un (by omega)]; exact h.1 d
  · rw [pk_un (by omega)]; exact h.2.1 d kd hkd
theorem cp_Inv1 {pa mp su : Nat → Int32} {c : Nat} {y : Int32} (h : cp_Inv pa mp su) (hy : cp_nm y) : cp_Inv (upd pa (12 * c + 1) y) mp su := by
  refine ⟨fun d => ?_, fun d kd hkd => ?_, h.2.2.1, h.2.2.2⟩
  · by_cases e : d = c
    · subst e; rw [pk_us]; exact hy
    · rw [pk_un (by omega)]; exact h.1 d
  · rw [pk_un (by omega)]; exact h.2.1 d kd hkd
theorem cp_InvK {pa mp su : Nat → Int32} {c kd K : Nat} (h : cp_Inv pa mp su) (hkd : kd < 2) (hK : K ≤ 4) : cp_Inv (upd pa (12 * c + (10 + kd)) (nI K)) mp su := by
  refine ⟨fun d => ?_, fun d kd' hkd' => ?_, h.2.2.1, h.2.2.2⟩
  · rw [pk_un (by omega)]; exact h.1 d
  · by_cases e : 12 * d + (10 + kd') = 12 * c + (10 + kd)
    · rw [e, pk_us]; exact ⟨K, hK, rfl⟩
    · rw [pk_un e]; exact h.2.1 d kd' hkd'
theorem cp_InvC {pa q mp mp' su : Nat → Int32} {n : Nat} (h : cp_Inv pa mp su) (hq : ∀ j, q j = if 12 * n ≤ j ∧ j < 12 * n + 12 then 0 else pa j) (hm : ∀ j, mp' j = if 16 * n ≤ j ∧ j < 16 * n + 16 then 0 else mp j) : cp_Inv q mp' su := by
  refine ⟨fun d => ?_, fun d kd hkd => ?_, fun j => ?_, h.2.2.2⟩
  · rw [hq]
    split
    · exact cp_nm0
    · exact h.1 d
  · rw [hq]
    split
    · exact ⟨0, by omega, rfl⟩
    · exact h.2.1 d kd hkd
  · rw [hm]
    split
    · exact cp_Inv0.2.2.1 0
    · exact h.2.2.1 j
theorem cp_InvT {pa mp su : Nat → Int32} {j t : Nat} (h : cp_Inv pa mp su) (h1 : 1 ≤ t) (h2 : t ≤ 15) : cp_Inv pa (upd mp j (mp j ||| ((1 : Int32) <<< (nI t &&& 31)))) su := by
  refine ⟨h.1, h.2.1, fun q => ?_, h.2.2.2⟩
  by_cases e : q = j
  · subst e
    rw [pk_us]
    intro v hv hb
    rcases (cx_or1 (by omega) hv).mp hb with a | a
    · exact h.2.2.1 q v hv a
    · omega
  · rw [pk_un e]; exact h.2.2.1 q
theorem cp_InvS {pa mp su : Nat → Int32} {j : Nat} {y : Int32} (h : cp_Inv pa mp su) (hy : cp_nm y) : cp_Inv pa mp (upd su j y) := by
  refine ⟨h.1, h.2.1, h.2.2.1, fun q => ?_⟩
  by_cases e : q = j
  · subst e; rw [pk_us]; exact hy
  · rw [pk_un e]; exact h.2.2.2 q
theorem cp_neL {a x : Int32} {P : Prop} (h : x < a) (q : a ≤ x) : P := absurd q (Int32.not_le.mpr h)
theorem cp_neR {a x : Int32} {P : Prop} (h : a ≤ x) (q : x < a) : P := absurd q (Int32.not_lt.mpr h)
section XC
variable {cap cnt anc up fl ls lf la lr el ml al ll : Int32} {pa mp su ex no : Nat → Int32}
/-! X: the calls -/
theorem x_setAnchor {post : Int32 → St2 → Prop} {x : Int32} (h1 : cp_nm x → post 1 (cap, cnt, x, up, fl, (-1), (-1), 0, 0, el, ml, al, ll, pa, mp, su, ex, no)) (h0 : ¬ cp_nm x → post 0 (cap, cnt, anc, up, fl, ls, lf, la, lr, el, ml, al, ll, pa, mp, su, ex, no)) : wpX_setAnchor post (cap, cnt, anc, up, fl, ls, lf, la, lr, el, ml, al, ll, pa, mp, su, ex, no) x := by
  unfold wpX_setAnchor
  exact x_isName (fun h => br_f (by decide) (x_reset (h1 h))) (fun h => br_t rfl (h0 h))
theorem x_setInitial {post : Int32 → St2 → Prop} {a b : Int32} (h1 : (0 ≤ a ∧ a ≤ 65535) ∧ (0 ≤ b ∧ b ≤ 7) → post 1 (cap, cnt, anc, a, b, (-1), (-1), 0, 0, el, ml, al, ll, pa, mp, su, ex, no)) (h0 : ¬ ((0 ≤ a ∧ a ≤ 65535) ∧ (0 ≤ b ∧ b ≤ 7)) → post 0 (cap, cnt, anc, up, fl, ls, lf, la, lr, el, ml, al, ll, pa, mp, su, ex, no)) : wpX_setInitial post (cap, cnt, anc, up, fl, ls, lf, la, lr, el, ml, al, ll, pa, mp, su, ex, no) a b := by
  unfold wpX_setInitial
  exact x_inRange (fun ha => br_f (by decide) (x_inRange (fun hb => br_f (by decide) (x_reset (h1 ⟨ha, hb⟩))) (fun hb => br_t rfl (h0 (fun q => hb q.2))))) (fun ha => br_t rfl (h0 (fun q => ha q.1)))
theorem x_clear54 {post : St2 → Prop} {c : Nat} (hc : c < 8) {m0 : Nat → Int32} (h : ∀ mp, (∀ j, mp j = if 16 * c ≤ j ∧ j < 16 * c + 16 then 0 else m0 j) → post (cap, cnt, anc, up, fl, ls, lf, la, lr, el, ml, al, ll, pa, mp, su, ex, no)) : ∀ (d k : Nat) (mp : Nat → Int32), k + d = 16 →
    (∀ j, mp j = if 16 * c ≤ j ∧ j < 16 * c + k then 0 else m0 j) → wX_clearCert_54 post (nI c) cap cnt anc up fl ls lf la lr el ml al ll (d + 1) (nI k) pa mp su ex no := by
  intro d
  induction d with
  | zero =>
    intro k mp hk H
    obtain rfl : k = 16 := by omega
    exact br_t (by decide) (h mp H)
  | succ d ih =>
    intro k mp hk H
    refine br_f (nI_ge (b := 16) (by omega) (by decide)) ?_
    have e : nI c * 16 + nI k = nI (16 * c + k) := x_ix
    rw [e, nI_clamp (by omega)]
    refine ⟨vp_in_nI (by omega) (by omega), nm_e (nm_r (nI_1 k) (ih (k + 1) _ (by omega) fun j => ?_))⟩
    by_cases ej : j = 16 * c + k
    · subst ej; rw [pk_us, if_pos (by omega)]
    · rw [pk_un ej, H j]
      by_cases e2 : 16 * c ≤ j ∧ j < 16 * c + k
      · rw [if_pos e2, if_pos (by omega)]
      · rw [if_neg e2, if_neg (by omega)]
theorem x_clear2 {post : St2 → Prop} {c : Nat} (hc : c < 8) {p0 : Nat → Int32}
    (h : ∀ pa mp', (∀ j, pa j = if 12 * c ≤ j ∧ j < 12 * c + 12 then 0 else p0 j) → (∀ j, mp' j = if 16 * c ≤ j ∧ j < 16 * c + 16 then 0 else mp j) → post (cap, cnt, anc, up, fl, ls, lf, la, lr, el, ml, al, ll, (upd (upd (upd (upd pa (12 * c + 5) (-1)) (12 * c + 7) (-1)) (12 * c + 8) (-1)) (12 * c + 9) (-1)), mp', su, ex, no)) :
    ∀ (d k : Nat) (pa : Nat → Int32), k + d = 12 → (∀ j, pa j = if 12 * c ≤ j ∧ j < 12 * c + k then 0 else p0 j) → wX_clearCert_2 post (nI c) (d + 1) (nI k) cap cnt anc up fl ls lf la lr el ml al ll pa mp su ex no := by
  intro d
  induction d with
  | zero =>
    intro k pa hk H
    obtain rfl : k = 12 := by omega
    refine br_t (by decide) (x_setPart (f := 5) hc (by decide) (x_setPart (f := 7) hc (by decide) (x_setPart (f := 8) hc (by decide) (x_setPart (f := 9) hc (by decide) ⟨17, ?_⟩))))
    refine x_clear54 hc (m0 := mp) (fun mp' h' => h pa mp' H h') 16 0 mp rfl (fun j => ?_)
    rw [if_neg (by omega)]
  | succ d ih =>
    intro k pa hk H
    refine br_f (nI_ge (b := 12) (by omega) (by decide)) (x_setPart (f := k) hc (by omega) (nm_r (nI_1 k) (ih (k + 1) _ (by omega) fun j => ?_)))
    by_cases ej : j = 12 * c + k
    · subst ej; rw [pk_us, if_pos (by omega)]
    · rw [pk_un ej, H j]
      by_cases e2 : 12 * c ≤ j ∧ j < 12 * c + k
      · rw [if_pos e2, if_pos (by omega)]
      · rw [if_neg e2, if_neg (by omega)]
theorem x_clear {post : St2 → Prop} {c : Nat} (hc : c < 8)
    (h : ∀ q mp', (∀ j, q j = if 12 * c ≤ j ∧ j < 12 * c + 12 then 0 else pa j) → (∀ j, mp' j = if 16 * c ≤ j ∧ j < 16 * c + 16 then 0 else mp j) → post (cap, cnt, anc, up, fl, ls, lf, la, lr, el, ml, al, ll, (upd (upd (upd (upd q (12 * c + 5) (-1)) (12 * c + 7) (-1)) (12 * c + 8) (-1)) (12 * c + 9) (-1)), mp', su, ex, no)) : wpX_clearCert post (cap, cnt, anc, up, fl, ls, lf, la, lr, el, ml, al, ll, pa, mp, su, ex, no) (nI c) := by
  unfold wpX_clearCert
  refine ⟨13, x_clear2 hc (p0 := pa) h 12 0 pa rfl (fun j => ?_)⟩
  rw [if_neg (by omega)]
theorem x_addCert {post : Int32 → St2 → Prop} {kp n : Nat} (h8 : kp ≤ 8) (hnk : n ≤ kp) {a b c d : Int32}
    (h1 : n < kp ∧ cp_nm a ∧ cp_nm b → ∀ q mp', (∀ j, q j = if 12 * n ≤ j ∧ j < 12 * n + 12 then 0 else pa j) → (∀ j, mp' j = if 16 * n ≤ j ∧ j < 16 * n + 16 then 0 else mp j) →
      post (nI n) ((nI kp), (nI (n + 1)), anc, up, fl, (-1), (-1), 0, 0, el, ml, al, ll, (upd (upd (upd (upd (upd (upd (upd (upd q (12 * n + 5) (-1)) (12 * n + 7) (-1)) (12 * n + 8) (-1)) (12 * n + 9) (-1)) (12 * n + 0) a) (12 * n + 1) b) (12 * n + 2) c) (12 * n + 3) d), mp', su, ex, no))
    (h0 : ¬ (n < kp ∧ cp_nm a ∧ cp_nm b) → post (-1) ((nI kp), (nI n), anc, up, fl, ls, lf, la, lr, el, ml, al, ll, pa, mp, su, ex, no)) : wpX_addCert post ((nI kp), (nI n), anc, up, fl, ls, lf, la, lr, el, ml, al, ll, pa, mp, su, ex, no) a b c d := by
  unfold wpX_addCert
  refine pk_le kp n (fun hk => h0 (fun q => by omega)) (fun hk => x_isName (fun ha => br_f (by decide) (x_isName (fun hb => br_f (by decide) ?_) (fun hb => br_t rfl (h0 (fun q => hb q.2.2))))) (fun ha => br_t rfl (h0 (fun q => ha q.2.1))))
  refine x_clear (by omega) (fun q mp' hq hm => x_setPart (f := 0) (by omega) (by decide) (x_setPart (f := 1) (by omega) (by decide) (x_setPart (f := 2) (by omega) (by decide) (x_setPart (f := 3) (by omega) (by decide) (nm_r (nI_1 n) (x_reset (h1 ⟨hk, ha, hb⟩ q mp' hq hm)))))))
theorem x_setBasicN {post : Int32 → St2 → Prop} {n : Nat} (hn : n ≤ 8) {x f p : Int32} (hx : ¬ (0 ≤ x ∧ x < nI n)) (h : post 0 (cap, (nI n), anc, up, fl, ls, lf, la, lr, el, ml, al, ll, pa, mp, su, ex, no)) : wpX_setBasic post (cap, (nI n), anc, up, fl, ls, lf, la, lr, el, ml, al, ll, pa, mp, su, ex, no) x f p := by
  unfold wpX_setBasic
  exact x_isCert hn (fun q => absurd q hx) (fun _ => br_t rfl h)
theorem x_setBasic {post : Int32 → St2 → Prop} {n c : Nat} (hn : n ≤ 8) (hc : c < n) {f p : Int32} (h1 : (0 ≤ f ∧ f ≤ 7) ∧ (-1 ≤ p ∧ p ≤ 15) → post 1 (cap, (nI n), anc, up, fl, (-1), (-1), 0, 0, el, ml, al, ll, (upd (upd pa (12 * c + 4) f) (12 * c + 5) p), mp, su, ex, no))
    (h0 : ¬ ((0 ≤ f ∧ f ≤ 7) ∧ (-1 ≤ p ∧ p ≤ 15)) → post 0 (cap, (nI n), anc, up, fl, ls, lf, la, lr, el, ml, al, ll, pa, mp, su, ex, no)) : wpX_setBasic post (cap, (nI n), anc, up, fl, ls, lf, la, lr, el, ml, al, ll, pa, mp, su, ex, no) (nI c) f p := by
  unfold wpX_setBasic
  refine x_isCert hn (fun _ => br_f (by decide) (x_inRange (fun hf => br_f (by decide) (x_isNum (fun hp => br_f (by decide) ?_) (fun hp => br_t rfl (h0 (fun q => hp q.2))))) (fun hf => br_t rfl (h0 (fun q => hf q.1))))) (fun q => absurd ⟨nI_pos' (by omega), nI_lt hc (by omega)⟩ q)
  exact x_setPart (f := 4) (by omega) (by decide) (x_setPart (f := 5) (by omega) (by decide) (x_reset (h1 ⟨hf, hp⟩)))
theorem x_addPolicyN {post : Int32 → St2 → Prop} {n : Nat} (hn : n ≤ 8) {x p : Int32} (hx : ¬ (0 ≤ x ∧ x < nI n)) (h : post 0 (cap, (nI n), anc, up, fl, ls, lf, la, lr, el, ml, al, ll, pa, mp, su, ex, no)) : wpX_addPolicy post (cap, (nI n), anc, up, fl, ls, lf, la, lr, el, ml, al, ll, pa, mp, su, ex, no) x p := by
  unfold wpX_addPolicy
  exact x_isCert hn (fun q => absurd q hx) (fun _ => br_t rfl h)
theorem x_addPolicy {post : Int32 → St2 → Prop} {n c : Nat} (hn : n ≤ 8) (hc : c < n) {p : Int32} (h1 : (0 ≤ p ∧ p ≤ 15) → post 1 (cap, (nI n), anc, up, fl, (-1), (-1), 0, 0, el, ml, al, ll, (upd pa (12 * c + 6) (pa (12 * c + 6) ||| ((1 : Int32) <<< (p &&& 31)))), mp, su, ex, no))
    (h0 : ¬ (0 ≤ p ∧ p ≤ 15) → post 0 (cap, (nI n), anc, up, fl, ls, lf, la, lr, el, ml, al, ll, pa, mp, su, ex, no)) : wpX_addPolicy post (cap, (nI n), anc, up, fl, ls, lf, la, lr, el, ml, al, ll, pa, mp, su, ex, no) (nI c) p := by
  unfold wpX_addPolicy
  refine x_isCert hn (fun _ => br_f (by decide) (x_inRange (fun hp => br_f (by decide) ?_) (fun hp => br_t rfl (h0 hp)))) (fun q => absurd ⟨nI_pos' (by omega), nI_lt hc (by omega)⟩ q)
  exact x_part (f := 6) (by omega) (by decide) (x_setPart (f := 6) (by omega) (by decide) (x_reset (h1 hp)))
theorem x_addMappingN {post : Int32 → St2 → Prop} {n : Nat} (hn : n ≤ 8) {x s t : Int32} (hx : ¬ (0 ≤ x ∧ x < nI n)) (h : post 0 (cap, (nI n), anc, up, fl, ls, lf, la, lr, el, ml, al, ll, pa, mp, su, ex, no)) : wpX_addMapping post (cap, (nI n), anc, up, fl, ls, lf, la, lr, el, ml, al, ll, pa, mp, su, ex, no) x s t := by
  unfold wpX_addMapping
  exact x_isCert hn (fun q => absurd q hx) (fun _ => br_t rfl h)
theorem x_addMapping {post : Int32 → St2 → Prop} {n c : Nat} (hn : n ≤ 8) (hc : c < n) {s t : Int32} (h1 : ∀ s' t' : Nat, s = nI s' → t = nI t' → 1 ≤ s' ∧ s' ≤ 15 → 1 ≤ t' ∧ t' ≤ 15 → post 1 (cap, (nI n), anc, up, fl, (-1), (-1), 0, 0, el, ml, al, ll, pa, (upd mp (16 * c + s') (mp (16 * c + s') ||| ((1 : Int32) <<< (nI t' &&& 31)))), su, ex, no))
    (h0 : ¬ ((1 ≤ s ∧ s ≤ 15) ∧ (1 ≤ t ∧ t ≤ 15)) → post 0 (cap, (nI n), anc, up, fl, ls, lf, la, lr, el, ml, al, ll, pa, mp, su, ex, no)) : wpX_addMapping post (cap, (nI n), anc, up, fl, ls, lf, la, lr, el, ml, al, ll, pa, mp, su, ex, no) (nI c) s t := by
  unfold wpX_addMapping
  refine x_isCert hn (fun _ => br_f (by decide) (x_isSpec (fun hs => br_f (by decide) (x_isSpec (fun ht => br_f (by decide) ?_) (fun ht => br_t rfl (h0 (fun q => ht q.2))))) (fun hs => br_t rfl (h0 (fun q => hs q.1))))) (fun q => absurd ⟨nI_pos' (by omega), nI_lt hc (by omega)⟩ q)
  obtain ⟨s', s1, s2, rfl⟩ := x_rng (a := 1) (b := 15) (by omega) hs (by omega)
  obtain ⟨t', t1, t2, rfl⟩ := x_rng (a := 1) (b := 15) (by omega) ht (by omega)
  have e : nI c * 16 + nI s' = nI (16 * c + s') := x_ix
  rw [e, nI_clamp (by omega)]
  have v : vp_in (nI (16 * c + s')) 128 := vp_in_nI (by omega) (by omega)
  exact ⟨v, v, nm_e (x_reset (h1 s' t' rfl rfl ⟨s1, s2⟩ ⟨t1, t2⟩))⟩
theorem x_setPCN {post : Int32 → St2 → Prop} {n : Nat} (hn : n ≤ 8) {x a b d : Int32} (hx : ¬ (0 ≤ x ∧ x < nI n)) (h : post 0 (cap, (nI n), anc, up, fl, ls, lf, la, lr, el, ml, al, ll, pa, mp, su, ex, no)) : wpX_setPolicyConstraints post (cap, (nI n), anc, up, fl, ls, lf, la, lr, el, ml, al, ll, pa, mp, su, ex, no) x a b d := by
  unfold wpX_setPolicyConstraints
  exact x_isCert hn (fun q => absurd q hx) (fun _ => br_t rfl h)
theorem x_setPC {post : Int32 → St2 → Prop} {n c : Nat} (hn : n ≤ 8) (hc : c < n) {a b d : Int32} (h1 : (-1 ≤ a ∧ a ≤ 15) ∧ (-1 ≤ b ∧ b ≤ 15) ∧ (-1 ≤ d ∧ d ≤ 15) → post 1 (cap, (nI n), anc, up, fl, (-1), (-1), 0, 0, el, ml, al, ll, (upd (upd (upd pa (12 * c + 7) a) (12 * c + 8) b) (12 * c + 9) d), mp, su, ex, no))
    (h0 : ¬ ((-1 ≤ a ∧ a ≤ 15) ∧ (-1 ≤ b ∧ b ≤ 15) ∧ (-1 ≤ d ∧ d ≤ 15)) → post 0 (cap, (nI n), anc, up, fl, ls, lf, la, lr, el, ml, al, ll, pa, mp, su, ex, no)) : wpX_setPolicyConstraints post (cap, (nI n), anc, up, fl, ls, lf, la, lr, el, ml, al, ll, pa, mp, su, ex, no) (nI c) a b d := by
  unfold wpX_setPolicyConstraints
  refine x_isCert hn (fun _ => br_f (by decide) (x_isNum (fun ha => br_f (by decide) (x_isNum (fun hb => br_f (by decide) (x_isNum (fun hd => br_f (by decide) ?_) (fun hd => br_t rfl (h0 (fun q => hd q.2.2))))) (fun hb => br_t rfl (h0 (fun q => hb q.2.1))))) (fun ha => br_t rfl (h0 (fun q => ha q.1))))) (fun q => absurd ⟨nI_pos' (by omega), nI_lt hc (by omega)⟩ q)
  exact x_setPart (f := 7) (by omega) (by decide) (x_setPart (f := 8) (by omega) (by decide) (x_setPart (f := 9) (by omega) (by decide) (x_reset (h1 ⟨ha, hb, hd⟩))))
theorem x_addSubtreeN {post : Int32 → St2 → Prop} {n : Nat} (hn : n ≤ 8) {x kd nm : Int32} (hx : ¬ ((0 ≤ x ∧ x < nI n) ∧ (kd = 0 ∨ kd = 1) ∧ cp_nm nm)) (h : post 0 (cap, (nI n), anc, up, fl, ls, lf, la, lr, el, ml, al, ll, pa, mp, su, ex, no)) : wpX_addSubtree post (cap, (nI n), anc, up, fl, ls, lf, la, lr, el, ml, al, ll, pa, mp, su, ex, no) x kd nm := by
  unfold wpX_addSubtree
  exact x_isCert hn (fun q => br_f (by decide) (x_isKind (fun r => br_f (by decide) (x_isName (fun s => absurd ⟨q, r, s⟩ hx) (fun _ => br_t rfl h))) (fun _ => br_t rfl h))) (fun _ => br_t rfl h)
theorem x_addSubtree {post : Int32 → St2 → Prop} {n c kd K : Nat} (hn : n ≤ 8) (hc : c < n) (hkd : kd < 2) (hK : K ≤ 4) (hp : pa (12 * c + (10 + kd)) = nI K) {nm : Int32} (hnm : cp_nm nm)
    (h1 : K < 4 → post 1 (cap, (nI n), anc, up, fl, (-1), (-1), 0, 0, el, ml, al, ll, (upd pa (12 * c + (10 + kd)) (nI (K + 1))), mp, (upd su (8 * c + 4 * kd + K) nm), ex, no))
    (h0 : ¬ K < 4 → post 0 (cap, (nI n), anc, up, fl, ls, lf, la, lr, el, ml, al, ll, pa, mp, su, ex, no)) : wpX_addSubtree post (cap, (nI n), anc, up, fl, ls, lf, la, lr, el, ml, al, ll, pa, mp, su, ex, no) (nI c) (nI kd) nm := by
  unfold wpX_addSubtree
  have kk : nI kd = 0 ∨ nI kd = 1 := by
    have : kd = 0 ∨ kd = 1 := by omega
    rcases this with rfl | rfl
    · exact Or.inl rfl
    · exact Or.inr rfl
  refine x_isCert hn (fun _ => br_f (by decide) (x_isKind (fun _ => br_f (by decide) (x_isName (fun _ => br_f (by decide) (x_subCnt (by omega) hkd ?_)) (fun q => absurd hnm q))) (fun q => absurd kk q))) (fun q => absurd ⟨nI_pos' (by omega), nI_lt hc (by omega)⟩ q)
  rw [hp]
  refine pk_lt K 4 (fun k4 => x_first ?_) (fun k4 => h0 (by omega))
  have e : nI (8 * c + 4 * kd) + nI K = nI (8 * c + 4 * kd + K) := nI_add _ _
  have e2 : 10 + nI kd = nI (10 + kd) := nI_add 10 kd
  rw [e, nI_clamp (by omega), e2, nI_1]
  exact ⟨vp_in_nI (by omega) (by omega), nm_e (x_setPart (f := 10 + kd) (by omega) (by omega) (x_reset (h1 k4)))⟩
end XC
