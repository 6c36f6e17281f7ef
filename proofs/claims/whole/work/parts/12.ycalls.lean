section YC
variable {cap cnt anc up fl ys yf yF yR : Int32} {pa mp su ss ns : Nat → Int32}
/-! Y: the calls -/
theorem y_reset {post : SY → Prop} (h : post (cap, cnt, anc, up, fl, (-1), (-1), 0, 0, (cp_a pa 0), (cp_a pa 1), (cp_a pa 2), (cp_a pa 3), (cp_a pa 4), (cp_a pa 5), (cp_a pa 6), (cp_a pa 7), (cp_a pa 8), (cp_a pa 9), (cp_a pa 10), (cp_a pa 11), mp, (cp_sp su 0), (cp_sp su 1), ss, ns)) : wpY_reset post (cap, cnt, anc, up, fl, ys, yf, yF, yR, (cp_a pa 0), (cp_a pa 1), (cp_a pa 2), (cp_a pa 3), (cp_a pa 4), (cp_a pa 5), (cp_a pa 6), (cp_a pa 7), (cp_a pa 8), (cp_a pa 9), (cp_a pa 10), (cp_a pa 11), mp, (cp_sp su 0), (cp_sp su 1), ss, ns) := h
theorem y_setAnchor {post : Int32 → SY → Prop} {x : Int32} (h1 : cp_nm x → post 1 (cap, cnt, x, up, fl, (-1), (-1), 0, 0, (cp_a pa 0), (cp_a pa 1), (cp_a pa 2), (cp_a pa 3), (cp_a pa 4), (cp_a pa 5), (cp_a pa 6), (cp_a pa 7), (cp_a pa 8), (cp_a pa 9), (cp_a pa 10), (cp_a pa 11), mp, (cp_sp su 0), (cp_sp su 1), ss, ns)) (h0 : ¬ cp_nm x → post 0 (cap, cnt, anc, up, fl, ys, yf, yF, yR, (cp_a pa 0), (cp_a pa 1), (cp_a pa 2), (cp_a pa 3), (cp_a pa 4), (cp_a pa 5), (cp_a pa 6), (cp_a pa 7), (cp_a pa 8), (cp_a pa 9), (cp_a pa 10), (cp_a pa 11), mp, (cp_sp su 0), (cp_sp su 1), ss, ns)) : wpY_setAnchor post (cap, cnt, anc, up, fl, ys, yf, yF, yR, (cp_a pa 0), (cp_a pa 1), (cp_a pa 2), (cp_a pa 3), (cp_a pa 4), (cp_a pa 5), (cp_a pa 6), (cp_a pa 7), (cp_a pa 8), (cp_a pa 9), (cp_a pa 10), (cp_a pa 11), mp, (cp_sp su 0), (cp_sp su 1), ss, ns) x := by
  unfold wpY_setAnchor
  exact y_isName (fun h => br_f (by decide) ((h1 h))) (fun h => br_t rfl (h0 h))
theorem y_setInitial {post : Int32 → SY → Prop} {a b : Int32} (h1 : (0 ≤ a ∧ a ≤ 65535) ∧ (0 ≤ b ∧ b ≤ 7) → post 1 (cap, cnt, anc, a, b, (-1), (-1), 0, 0, (cp_a pa 0), (cp_a pa 1), (cp_a pa 2), (cp_a pa 3), (cp_a pa 4), (cp_a pa 5), (cp_a pa 6), (cp_a pa 7), (cp_a pa 8), (cp_a pa 9), (cp_a pa 10), (cp_a pa 11), mp, (cp_sp su 0), (cp_sp su 1), ss, ns)) (h0 : ¬ ((0 ≤ a ∧ a ≤ 65535) ∧ (0 ≤ b ∧ b ≤ 7)) → post 0 (cap, cnt, anc, up, fl, ys, yf, yF, yR, (cp_a pa 0), (cp_a pa 1), (cp_a pa 2), (cp_a pa 3), (cp_a pa 4), (cp_a pa 5), (cp_a pa 6), (cp_a pa 7), (cp_a pa 8), (cp_a pa 9), (cp_a pa 10), (cp_a pa 11), mp, (cp_sp su 0), (cp_sp su 1), ss, ns)) : wpY_setInitial post (cap, cnt, anc, up, fl, ys, yf, yF, yR, (cp_a pa 0), (cp_a pa 1), (cp_a pa 2), (cp_a pa 3), (cp_a pa 4), (cp_a pa 5), (cp_a pa 6), (cp_a pa 7), (cp_a pa 8), (cp_a pa 9), (cp_a pa 10), (cp_a pa 11), mp, (cp_sp su 0), (cp_sp su 1), ss, ns) a b := by
  unfold wpY_setInitial
  exact br_c (fun p => h0 (fun q => cp_neL p q.1.1)) (fun p => br_c (fun p' => h0 (fun q => cp_neR q.1.2 p')) (fun p' => br_c (fun r => h0 (fun q => cp_neL r q.2.1)) (fun r => br_c (fun r' => y_reset (h1 ⟨⟨Int32.not_lt.mp p, Int32.not_lt.mp p'⟩, Int32.not_lt.mp r, r'⟩)) (fun r' => h0 (fun q => r' q.2.2)))))
theorem y_135 {post : Int32 → SY → Prop} {c : Nat} (hc : c < 8) {is' sb' nb' na' bs' pl' po' re' im' ia' pn' en' m0 : Nat → Int32}
    (h : ∀ mp, (∀ j, mp j = if 16 * c ≤ j ∧ j < 16 * c + 16 then 0 else m0 j) → post (nI c) (cap, (nI (c + 1)), anc, up, fl, (-1), (-1), 0, 0, is', sb', nb', na', bs', pl', po', re', im', ia', pn', en', mp, (cp_sp su 0), (cp_sp su 1), ss, ns)) :
    ∀ (d k : Nat) (mp : Nat → Int32), k + d = 16 → (∀ j, mp j = if 16 * c ≤ j ∧ j < 16 * c + k then 0 else m0 j) →
    wY_addCert_135 post (nI c) cap cnt anc up fl ys yf yF yR (d + 1) (nI k) is' sb' nb' na' bs' pl' po' re' im' ia' pn' en' mp (cp_sp su 0) (cp_sp su 1) ss ns := by
  intro d
  induction d with
  | zero =>
    intro k mp hk H
    obtain rfl : k = 16 := by omega
    exact br_t (by decide) (nm_r (nI_1 c) (h mp H))
  | succ d ih =>
    intro k mp hk H
    refine br_f (nI_ge (b := 16) (by omega) (by decide)) ?_
    have e : nI c * 16 + nI k = nI (16 * c + k) := x_ix
    rw [e, nI_clamp (by omega)]
    refine ⟨vp_in_nI (by omega) (by omega), nm_e (nm_r (nI_1 k) (ih (k + 1) _ (by omega) fun j => ?_))⟩
    by_cases ej : j = 16 * c + k
    · subst ej; rw [pk_us, if_pos (by omega)]
    · rw [pk_un ej, H j]
      by_cases e2 : 16 * c ≤ j ∧ j < 16 * c + k
      · rw [if_pos e2, if_pos (by omega)]
      · rw [if_neg e2, if_neg (by omega)]
theorem y_addCert {post : Int32 → SY → Prop} {kp n : Nat} (h8 : kp ≤ 8) (hnk : n ≤ kp) {a b c d : Int32}
    (h1 : n < kp ∧ cp_nm a ∧ cp_nm b → ∀ mp', (∀ j, mp' j = if 16 * n ≤ j ∧ j < 16 * n + 16 then 0 else mp j) →
      post (nI n) ((nI kp), (nI (n + 1)), anc, up, fl, (-1), (-1), 0, 0, (upd (cp_a pa 0) n a), (upd (cp_a pa 1) n b), (upd (cp_a pa 2) n c), (upd (cp_a pa 3) n d), (upd (cp_a pa 4) n 0), (upd (cp_a pa 5) n (-1)), (upd (cp_a pa 6) n 0), (upd (cp_a pa 7) n (-1)), (upd (cp_a pa 8) n (-1)), (upd (cp_a pa 9) n (-1)), (upd (cp_a pa 10) n 0), (upd (cp_a pa 11) n 0), mp', (cp_sp su 0), (cp_sp su 1), ss, ns))
    (h0 : ¬ (n < kp ∧ cp_nm a ∧ cp_nm b) → post (-1) ((nI kp), (nI n), anc, up, fl, ys, yf, yF, yR, (cp_a pa 0), (cp_a pa 1), (cp_a pa 2), (cp_a pa 3), (cp_a pa 4), (cp_a pa 5), (cp_a pa 6), (cp_a pa 7), (cp_a pa 8), (cp_a pa 9), (cp_a pa 10), (cp_a pa 11), mp, (cp_sp su 0), (cp_sp su 1), ss, ns)) : wpY_addCert post ((nI kp), (nI n), anc, up, fl, ys, yf, yF, yR, (cp_a pa 0), (cp_a pa 1), (cp_a pa 2), (cp_a pa 3), (cp_a pa 4), (cp_a pa 5), (cp_a pa 6), (cp_a pa 7), (cp_a pa 8), (cp_a pa 9), (cp_a pa 10), (cp_a pa 11), mp, (cp_sp su 0), (cp_sp su 1), ss, ns) a b c d := by
  unfold wpY_addCert
  refine pk_le kp n (fun hk => h0 (fun q => by omega)) (fun hk => y_isName (fun ha => br_f (by decide) (y_isName (fun hb => br_f (by decide) ?_) (fun hb => br_t rfl (h0 (fun q => hb q.2.2))))) (fun ha => br_t rfl (h0 (fun q => ha q.2.1))))
  have v : vp_in (nI n) 8 := vp_in_nI (by omega) (by omega)
  rw [nI_clamp (by omega)]
  refine ⟨v, nm_e ⟨v, nm_e ⟨v, nm_e ⟨v, nm_e ⟨v, nm_e ⟨v, nm_e ⟨v, nm_e ⟨v, nm_e ⟨v, nm_e ⟨v, nm_e ⟨v, nm_e ⟨v, nm_e ⟨17, ?_⟩⟩⟩⟩⟩⟩⟩⟩⟩⟩⟩⟩⟩
  refine y_135 (by omega) (m0 := mp) (fun mp' hm => h1 ⟨hk, ha, hb⟩ mp' hm) 16 0 mp rfl (fun j => ?_)
  rw [if_neg (by omega)]
theorem y_removeLast {post : Int32 → SY → Prop} {n : Nat} (hn : n ≤ 8) (h1 : 1 ≤ n → post 1 (cap, (nI (n - 1)), anc, up, fl, (-1), (-1), 0, 0, (cp_a pa 0), (cp_a pa 1), (cp_a pa 2), (cp_a pa 3), (cp_a pa 4), (cp_a pa 5), (cp_a pa 6), (cp_a pa 7), (cp_a pa 8), (cp_a pa 9), (cp_a pa 10), (cp_a pa 11), mp, (cp_sp su 0), (cp_sp su 1), ss, ns)) (h0 : n = 0 → post 0 (cap, (nI n), anc, up, fl, ys, yf, yF, yR, (cp_a pa 0), (cp_a pa 1), (cp_a pa 2), (cp_a pa 3), (cp_a pa 4), (cp_a pa 5), (cp_a pa 6), (cp_a pa 7), (cp_a pa 8), (cp_a pa 9), (cp_a pa 10), (cp_a pa 11), mp, (cp_sp su 0), (cp_sp su 1), ss, ns)) : wpY_removeLast post (cap, (nI n), anc, up, fl, ys, yf, yF, yR, (cp_a pa 0), (cp_a pa 1), (cp_a pa 2), (cp_a pa 3), (cp_a pa 4), (cp_a pa 5), (cp_a pa 6), (cp_a pa 7), (cp_a pa 8), (cp_a pa 9), (cp_a pa 10), (cp_a pa 11), mp, (cp_sp su 0), (cp_sp su 1), ss, ns) := by
  unfold wpY_removeLast
  refine pk_eq n 0 h0 (fun e => nm_r ?_ ((h1 (by omega))))
  obtain ⟨m, rfl⟩ : ∃ m, n = m + 1 := ⟨n - 1, by omega⟩
  exact nI_pred m
theorem y_cert {n : Nat} {x : Int32} {A B : Prop} (hx : ¬ (0 ≤ x ∧ x < nI n)) (h : A) : (x < 0 → A) ∧ (¬ x < 0 → (nI n ≤ x → A) ∧ (¬ nI n ≤ x → B)) :=
  br_c (fun _ => h) (fun a => br_c (fun _ => h) (fun b => absurd ⟨Int32.not_lt.mp a, Int32.not_le.mp b⟩ hx))
theorem y_in {n c : Nat} {A B : Prop} (hn : n ≤ 8) (hc : c < n) (h : B) : (nI c < 0 → A) ∧ (¬ nI c < 0 → (nI n ≤ nI c → A) ∧ (¬ nI n ≤ nI c → B)) :=
  br_f (nI_pos (by omega)) (br_f (nI_ge hc (by omega)) h)
theorem y_setBasicN {post : Int32 → SY → Prop} {n : Nat} {x f p : Int32} (hx : ¬ (0 ≤ x ∧ x < nI n)) (h : post 0 (cap, (nI n), anc, up, fl, ys, yf, yF, yR, (cp_a pa 0), (cp_a pa 1), (cp_a pa 2), (cp_a pa 3), (cp_a pa 4), (cp_a pa 5), (cp_a pa 6), (cp_a pa 7), (cp_a pa 8), (cp_a pa 9), (cp_a pa 10), (cp_a pa 11), mp, (cp_sp su 0), (cp_sp su 1), ss, ns)) : wpY_setBasic post (cap, (nI n), anc, up, fl, ys, yf, yF, yR, (cp_a pa 0), (cp_a pa 1), (cp_a pa 2), (cp_a pa 3), (cp_a pa 4), (cp_a pa 5), (cp_a pa 6), (cp_a pa 7), (cp_a pa 8), (cp_a pa 9), (cp_a pa 10), (cp_a pa 11), mp, (cp_sp su 0), (cp_sp su 1), ss, ns) x f p := by
  unfold wpY_setBasic
  exact y_cert hx h
theorem y_setBasic {post : Int32 → SY → Prop} {n c : Nat} (hn : n ≤ 8) (hc : c < n) {f p : Int32} (h1 : (0 ≤ f ∧ f ≤ 7) ∧ (-1 ≤ p ∧ p ≤ 15) → post 1 (cap, (nI n), anc, up, fl, (-1), (-1), 0, 0, (cp_a pa 0), (cp_a pa 1), (cp_a pa 2), (cp_a pa 3), (upd (cp_a pa 4) c f), (upd (cp_a pa 5) c p), (cp_a pa 6), (cp_a pa 7), (cp_a pa 8), (cp_a pa 9), (cp_a pa 10), (cp_a pa 11), mp, (cp_sp su 0), (cp_sp su 1), ss, ns))
    (h0 : ¬ ((0 ≤ f ∧ f ≤ 7) ∧ (-1 ≤ p ∧ p ≤ 15)) → post 0 (cap, (nI n), anc, up, fl, ys, yf, yF, yR, (cp_a pa 0), (cp_a pa 1), (cp_a pa 2), (cp_a pa 3), (cp_a pa 4), (cp_a pa 5), (cp_a pa 6), (cp_a pa 7), (cp_a pa 8), (cp_a pa 9), (cp_a pa 10), (cp_a pa 11), mp, (cp_sp su 0), (cp_sp su 1), ss, ns)) : wpY_setBasic post (cap, (nI n), anc, up, fl, ys, yf, yF, yR, (cp_a pa 0), (cp_a pa 1), (cp_a pa 2), (cp_a pa 3), (cp_a pa 4), (cp_a pa 5), (cp_a pa 6), (cp_a pa 7), (cp_a pa 8), (cp_a pa 9), (cp_a pa 10), (cp_a pa 11), mp, (cp_sp su 0), (cp_sp su 1), ss, ns) (nI c) f p := by
  unfold wpY_setBasic
  rw [nI_clamp (by omega)]
  have v : vp_in (nI c) 8 := vp_in_nI (by omega) (by omega)
  exact y_in hn hc (br_c (fun a => h0 (fun q => cp_neL a q.1.1)) (fun a => br_c (fun b => h0 (fun q => cp_neR q.1.2 b)) (fun b => br_c (fun a' => h0 (fun q => cp_neL a' q.2.1)) (fun a' => br_c (fun b' => ⟨v, nm_e ⟨v, nm_e ((h1 ⟨⟨Int32.not_lt.mp a, Int32.not_lt.mp b⟩, Int32.not_lt.mp a', b'⟩))⟩⟩) (fun b' => h0 (fun q => b' q.2.2))))))
theorem y_addPolicyN {post : Int32 → SY → Prop} {n : Nat} {x p : Int32} (hx : ¬ (0 ≤ x ∧ x < nI n)) (h : post 0 (cap, (nI n), anc, up, fl, ys, yf, yF, yR, (cp_a pa 0), (cp_a pa 1), (cp_a pa 2), (cp_a pa 3), (cp_a pa 4), (cp_a pa 5), (cp_a pa 6), (cp_a pa 7), (cp_a pa 8), (cp_a pa 9), (cp_a pa 10), (cp_a pa 11), mp, (cp_sp su 0), (cp_sp su 1), ss, ns)) : wpY_addPolicy post (cap, (nI n), anc, up, fl, ys, yf, yF, yR, (cp_a pa 0), (cp_a pa 1), (cp_a pa 2), (cp_a pa 3), (cp_a pa 4), (cp_a pa 5), (cp_a pa 6), (cp_a pa 7), (cp_a pa 8), (cp_a pa 9), (cp_a pa 10), (cp_a pa 11), mp, (cp_sp su 0), (cp_sp su 1), ss, ns) x p := by
  unfold wpY_addPolicy
  exact y_cert hx h
theorem y_addPolicy {post : Int32 → SY → Prop} {n c : Nat} (hn : n ≤ 8) (hc : c < n) {p : Int32} (h1 : (0 ≤ p ∧ p ≤ 15) → post 1 (cap, (nI n), anc, up, fl, (-1), (-1), 0, 0, (cp_a pa 0), (cp_a pa 1), (cp_a pa 2), (cp_a pa 3), (cp_a pa 4), (cp_a pa 5), (upd (cp_a pa 6) c (pa (12 * c + 6) ||| ((1 : Int32) <<< (p &&& 31)))), (cp_a pa 7), (cp_a pa 8), (cp_a pa 9), (cp_a pa 10), (cp_a pa 11), mp, (cp_sp su 0), (cp_sp su 1), ss, ns))
    (h0 : ¬ (0 ≤ p ∧ p ≤ 15) → post 0 (cap, (nI n), anc, up, fl, ys, yf, yF, yR, (cp_a pa 0), (cp_a pa 1), (cp_a pa 2), (cp_a pa 3), (cp_a pa 4), (cp_a pa 5), (cp_a pa 6), (cp_a pa 7), (cp_a pa 8), (cp_a pa 9), (cp_a pa 10), (cp_a pa 11), mp, (cp_sp su 0), (cp_sp su 1), ss, ns)) : wpY_addPolicy post (cap, (nI n), anc, up, fl, ys, yf, yF, yR, (cp_a pa 0), (cp_a pa 1), (cp_a pa 2), (cp_a pa 3), (cp_a pa 4), (cp_a pa 5), (cp_a pa 6), (cp_a pa 7), (cp_a pa 8), (cp_a pa 9), (cp_a pa 10), (cp_a pa 11), mp, (cp_sp su 0), (cp_sp su 1), ss, ns) (nI c) p := by
  unfold wpY_addPolicy
  rw [nI_clamp (by omega)]
  have v : vp_in (nI c) 8 := vp_in_nI (by omega) (by omega)
  exact y_in hn hc (br_c (fun a => h0 (fun q => cp_neL a q.1)) (fun a => br_c (fun b => ⟨v, v, nm_e ((h1 ⟨Int32.not_lt.mp a, b⟩))⟩) (fun b => h0 (fun q => b q.2))))
theorem y_addMappingN {post : Int32 → SY → Prop} {n : Nat} {x s t : Int32} (hx : ¬ (0 ≤ x ∧ x < nI n)) (h : post 0 (cap, (nI n), anc, up, fl, ys, yf, yF, yR, (cp_a pa 0), (cp_a pa 1), (cp_a pa 2), (cp_a pa 3), (cp_a pa 4), (cp_a pa 5), (cp_a pa 6), (cp_a pa 7), (cp_a pa 8), (cp_a pa 9), (cp_a pa 10), (cp_a pa 11), mp, (cp_sp su 0), (cp_sp su 1), ss, ns)) : wpY_addMapping post (cap, (nI n), anc, up, fl, ys, yf, yF, yR, (cp_a pa 0), (cp_a pa 1), (cp_a pa 2), (cp_a pa 3), (cp_a pa 4), (cp_a pa 5), (cp_a pa 6), (cp_a pa 7), (cp_a pa 8), (cp_a pa 9), (cp_a pa 10), (cp_a pa 11), mp, (cp_sp su 0), (cp_sp su 1), ss, ns) x s t := by
  unfold wpY_addMapping
  exact y_cert hx h
theorem y_addMapping {post : Int32 → SY → Prop} {n c : Nat} (hn : n ≤ 8) (hc : c < n) {s t : Int32} (h1 : ∀ s' t' : Nat, s = nI s' → t = nI t' → 1 ≤ s' ∧ s' ≤ 15 → 1 ≤ t' ∧ t' ≤ 15 → post 1 (cap, (nI n), anc, up, fl, (-1), (-1), 0, 0, (cp_a pa 0), (cp_a pa 1), (cp_a pa 2), (cp_a pa 3), (cp_a pa 4), (cp_a pa 5), (cp_a pa 6), (cp_a pa 7), (cp_a pa 8), (cp_a pa 9), (cp_a pa 10), (cp_a pa 11), (upd mp (16 * c + s') (mp (16 * c + s') ||| ((1 : Int32) <<< (nI t' &&& 31)))), (cp_sp su 0), (cp_sp su 1), ss, ns))
    (h0 : ¬ ((1 ≤ s ∧ s ≤ 15) ∧ (1 ≤ t ∧ t ≤ 15)) → post 0 (cap, (nI n), anc, up, fl, ys, yf, yF, yR, (cp_a pa 0), (cp_a pa 1), (cp_a pa 2), (cp_a pa 3), (cp_a pa 4), (cp_a pa 5), (cp_a pa 6), (cp_a pa 7), (cp_a pa 8), (cp_a pa 9), (cp_a pa 10), (cp_a pa 11), mp, (cp_sp su 0), (cp_sp su 1), ss, ns)) : wpY_addMapping post (cap, (nI n), anc, up, fl, ys, yf, yF, yR, (cp_a pa 0), (cp_a pa 1), (cp_a pa 2), (cp_a pa 3), (cp_a pa 4), (cp_a pa 5), (cp_a pa 6), (cp_a pa 7), (cp_a pa 8), (cp_a pa 9), (cp_a pa 10), (cp_a pa 11), mp, (cp_sp su 0), (cp_sp su 1), ss, ns) (nI c) s t := by
  unfold wpY_addMapping
  refine y_in hn hc (br_c (fun a => h0 (fun q => cp_neL a q.1.1)) (fun a => br_c (fun b => h0 (fun q => cp_neR q.1.2 b)) (fun b => br_c (fun a' => h0 (fun q => cp_neL a' q.2.1)) (fun a' => br_c (fun b' => ?_) (fun b' => h0 (fun q => b' q.2.2))))))
  obtain ⟨s', s1, s2, rfl⟩ := x_rng (a := 1) (b := 15) (by omega) ⟨Int32.not_lt.mp a, Int32.not_lt.mp b⟩ (by omega)
  obtain ⟨t', t1, t2, rfl⟩ := x_rng (a := 1) (b := 15) (by omega) ⟨Int32.not_lt.mp a', b'⟩ (by omega)
  have e : nI c * 16 + nI s' = nI (16 * c + s') := x_ix
  rw [e, nI_clamp (by omega)]
  have v : vp_in (nI (16 * c + s')) 128 := vp_in_nI (by omega) (by omega)
  exact ⟨v, v, nm_e ((h1 s' t' rfl rfl ⟨s1, s2⟩ ⟨t1, t2⟩))⟩
theorem y_setPCN {post : Int32 → SY → Prop} {n : Nat} {x a b d : Int32} (hx : ¬ (0 ≤ x ∧ x < nI n)) (h : post 0 (cap, (nI n), anc, up, fl, ys, yf, yF, yR, (cp_a pa 0), (cp_a pa 1), (cp_a pa 2), (cp_a pa 3), (cp_a pa 4), (cp_a pa 5), (cp_a pa 6), (cp_a pa 7), (cp_a pa 8), (cp_a pa 9), (cp_a pa 10), (cp_a pa 11), mp, (cp_sp su 0), (cp_sp su 1), ss, ns)) : wpY_setPolicyConstraints post (cap, (nI n), anc, up, fl, ys, yf, yF, yR, (cp_a pa 0), (cp_a pa 1), (cp_a pa 2), (cp_a pa 3), (cp_a pa 4), (cp_a pa 5), (cp_a pa 6), (cp_a pa 7), (cp_a pa 8), (cp_a pa 9), (cp_a pa 10), (cp_a pa 11), mp, (cp_sp su 0), (cp_sp su 1), ss, ns) x a b d := by
  unfold wpY_setPolicyConstraints
  exact br_c (fun _ => h) (fun a => br_c (fun b => absurd ⟨Int32.not_lt.mp a, b⟩ hx) (fun _ => h))
theorem y_setPC {post : Int32 → SY → Prop} {n c : Nat} (hn : n ≤ 8) (hc : c < n) {a b d : Int32} (h1 : (-1 ≤ a ∧ a ≤ 15) ∧ (-1 ≤ b ∧ b ≤ 15) ∧ (-1 ≤ d ∧ d ≤ 15) → post 1 (cap, (nI n), anc, up, fl, (-1), (-1), 0, 0, (cp_a pa 0), (cp_a pa 1), (cp_a pa 2), (cp_a pa 3), (cp_a pa 4), (cp_a pa 5), (cp_a pa 6), (upd (cp_a pa 7) c a), (upd (cp_a pa 8) c b), (upd (cp_a pa 9) c d), (cp_a pa 10), (cp_a pa 11), mp, (cp_sp su 0), (cp_sp su 1), ss, ns))
    (h0 : ¬ ((-1 ≤ a ∧ a ≤ 15) ∧ (-1 ≤ b ∧ b ≤ 15) ∧ (-1 ≤ d ∧ d ≤ 15)) → post 0 (cap, (nI n), anc, up, fl, ys, yf, yF, yR, (cp_a pa 0), (cp_a pa 1), (cp_a pa 2), (cp_a pa 3), (cp_a pa 4), (cp_a pa 5), (cp_a pa 6), (cp_a pa 7), (cp_a pa 8), (cp_a pa 9), (cp_a pa 10), (cp_a pa 11), mp, (cp_sp su 0), (cp_sp su 1), ss, ns)) : wpY_setPolicyConstraints post (cap, (nI n), anc, up, fl, ys, yf, yF, yR, (cp_a pa 0), (cp_a pa 1), (cp_a pa 2), (cp_a pa 3), (cp_a pa 4), (cp_a pa 5), (cp_a pa 6), (cp_a pa 7), (cp_a pa 8), (cp_a pa 9), (cp_a pa 10), (cp_a pa 11), mp, (cp_sp su 0), (cp_sp su 1), ss, ns) (nI c) a b d := by
  unfold wpY_setPolicyConstraints
  rw [nI_clamp (by omega)]
  have v : vp_in (nI c) 8 := vp_in_nI (by omega) (by omega)
  exact br_f (nI_pos (by omega)) (br_t (nI_lt hc (by omega)) (br_c (fun a1 => h0 (fun q => cp_neL a1 q.1.1)) (fun a1 => br_c (fun a2 => h0 (fun q => cp_neR q.1.2 a2)) (fun a2 => br_c (fun b1 => h0 (fun q => cp_neL b1 q.2.1.1)) (fun b1 => br_c (fun b2 => br_c (fun d1 => h0 (fun q => cp_neL d1 q.2.2.1)) (fun d1 => br_c (fun d2 => ⟨v, nm_e ⟨v, nm_e ⟨v, nm_e ((h1 ⟨⟨Int32.not_lt.mp a1, Int32.not_lt.mp a2⟩, ⟨Int32.not_lt.mp b1, b2⟩, Int32.not_lt.mp d1, d2⟩))⟩⟩⟩) (fun d2 => h0 (fun q => d2 q.2.2.2)))) (fun b2 => h0 (fun q => b2 q.2.1.2)))))))
theorem y_kd {kd : Int32} (h0 : ¬ kd < 0) (h1 : ¬ 1 < kd) : kd = 0 ∨ kd = 1 := by
  obtain ⟨k, _, k2, rfl⟩ := x_rng (a := 0) (b := 1) (by omega) ⟨Int32.not_lt.mp h0, Int32.not_lt.mp h1⟩ (by omega)
  have : k = 0 ∨ k = 1 := by omega
  rcases this with rfl | rfl
  · exact Or.inl rfl
  · exact Or.inr rfl
theorem y_addSubtreeN {post : Int32 → SY → Prop} {n : Nat} {x kd nm : Int32} (hx : ¬ ((0 ≤ x ∧ x < nI n) ∧ (kd = 0 ∨ kd = 1) ∧ cp_nm nm)) (h : post 0 (cap, (nI n), anc, up, fl, ys, yf, yF, yR, (cp_a pa 0), (cp_a pa 1), (cp_a pa 2), (cp_a pa 3), (cp_a pa 4), (cp_a pa 5), (cp_a pa 6), (cp_a pa 7), (cp_a pa 8), (cp_a pa 9), (cp_a pa 10), (cp_a pa 11), mp, (cp_sp su 0), (cp_sp su 1), ss, ns)) : wpY_addSubtree post (cap, (nI n), anc, up, fl, ys, yf, yF, yR, (cp_a pa 0), (cp_a pa 1), (cp_a pa 2), (cp_a pa 3), (cp_a pa 4), (cp_a pa 5), (cp_a pa 6), (cp_a pa 7), (cp_a pa 8), (cp_a pa 9), (cp_a pa 10), (cp_a pa 11), mp, (cp_sp su 0), (cp_sp su 1), ss, ns) x kd nm := by
  unfold wpY_addSubtree
  exact br_c (fun _ => h) (fun a => br_c (fun _ => h) (fun b => br_c (fun _ => h) (fun k0 => br_c (fun _ => h) (fun k1 => y_isName (fun hn => absurd ⟨⟨Int32.not_lt.mp a, Int32.not_le.mp b⟩, y_kd k0 k1, hn⟩ hx) (fun _ => br_t rfl h)))))
theorem y_addSubtree0 {post : Int32 → SY → Prop} {n c K : Nat} (hn : n ≤ 8) (hc : c < n) (hK : K ≤ 4) (hp : pa (12 * c + 10) = nI K) {nm : Int32} (hnm : cp_nm nm)
    (h1 : K < 4 → post 1 (cap, (nI n), anc, up, fl, (-1), (-1), 0, 0, (cp_a pa 0), (cp_a pa 1), (cp_a pa 2), (cp_a pa 3), (cp_a pa 4), (cp_a pa 5), (cp_a pa 6), (cp_a pa 7), (cp_a pa 8), (cp_a pa 9), (upd (cp_a pa 10) c (nI (K + 1))), (cp_a pa 11), mp, (upd (cp_sp su 0) (4 * c + K) nm), (cp_sp su 1), ss, ns))
    (h0 : ¬ K < 4 → post 0 (cap, (nI n), anc, up, fl, ys, yf, yF, yR, (cp_a pa 0), (cp_a pa 1), (cp_a pa 2), (cp_a pa 3), (cp_a pa 4), (cp_a pa 5), (cp_a pa 6), (cp_a pa 7), (cp_a pa 8), (cp_a pa 9), (cp_a pa 10), (cp_a pa 11), mp, (cp_sp su 0), (cp_sp su 1), ss, ns)) : wpY_addSubtree post (cap, (nI n), anc, up, fl, ys, yf, yF, yR, (cp_a pa 0), (cp_a pa 1), (cp_a pa 2), (cp_a pa 3), (cp_a pa 4), (cp_a pa 5), (cp_a pa 6), (cp_a pa 7), (cp_a pa 8), (cp_a pa 9), (cp_a pa 10), (cp_a pa 11), mp, (cp_sp su 0), (cp_sp su 1), ss, ns) (nI c) 0 nm := by
  unfold wpY_addSubtree
  rw [nI_clamp (by omega)]
  have v : vp_in (nI c) 8 := vp_in_nI (by omega) (by omega)
  refine y_in hn hc (br_f (by decide) (br_f (by decide) (y_isName (fun _ => br_f (by decide) (br_t rfl ⟨v, ?_⟩)) (fun q => absurd hnm q))))
  have hp' : cp_a pa 10 c = nI K := hp
  rw [hp']
  refine pk_lt K 4 (fun k4 => ?_) (fun k4 => h0 (by omega))
  have e : nI c * 4 + nI K = nI (4 * c + K) := x_ix
  rw [e, nI_clamp (by omega), nI_1]
  exact ⟨v, vp_in_nI (by omega) (by omega), nm_e ⟨v, v, nm_e (h1 k4)⟩⟩
theorem y_addSubtree1 {post : Int32 → SY → Prop} {n c K : Nat} (hn : n ≤ 8) (hc : c < n) (hK : K ≤ 4) (hp : pa (12 * c + 11) = nI K) {nm : Int32} (hnm : cp_nm nm)
    (h1 : K < 4 → post 1 (cap, (nI n), anc, up, fl, (-1), (-1), 0, 0, (cp_a pa 0), (cp_a pa 1), (cp_a pa 2), (cp_a pa 3), (cp_a pa 4), (cp_a pa 5), (cp_a pa 6), (cp_a pa 7), (cp_a pa 8), (cp_a pa 9), (cp_a pa 10), (upd (cp_a pa 11) c (nI (K + 1))), mp, (cp_sp su 0), (upd (cp_sp su 1) (4 * c + K) nm), ss, ns))
    (h0 : ¬ K < 4 → post 0 (cap, (nI n), anc, up, fl, ys, yf, yF, yR, (cp_a pa 0), (cp_a pa 1), (cp_a pa 2), (cp_a pa 3), (cp_a pa 4), (cp_a pa 5), (cp_a pa 6), (cp_a pa 7), (cp_a pa 8), (cp_a pa 9), (cp_a pa 10), (cp_a pa 11), mp, (cp_sp su 0), (cp_sp su 1), ss, ns)) : wpY_addSubtree post (cap, (nI n), anc, up, fl, ys, yf, yF, yR, (cp_a pa 0), (cp_a pa 1), (cp_a pa 2), (cp_a pa 3), (cp_a pa 4), (cp_a pa 5), (cp_a pa 6), (cp_a pa 7), (cp_a pa 8), (cp_a pa 9), (cp_a pa 10), (cp_a pa 11), mp, (cp_sp su 0), (cp_sp su 1), ss, ns) (nI c) 1 nm := by
  unfold wpY_addSubtree
  rw [nI_clamp (by omega)]
  have v : vp_in (nI c) 8 := vp_in_nI (by omega) (by omega)
  refine y_in hn hc (br_f (by decide) (br_f (by decide) (y_isName (fun _ => br_f (by decide) (br_f (by decide) ⟨v, ?_⟩)) (fun q => absurd hnm q))))
  have hp' : cp_a pa 11 c = nI K := hp
  rw [hp']
  refine pk_lt K 4 (fun k4 => ?_) (fun k4 => h0 (by omega))
  have e : nI c * 4 + nI K = nI (4 * c + K) := x_ix
  rw [e, nI_clamp (by omega), nI_1]
  exact ⟨v, vp_in_nI (by omega) (by omega), nm_e ⟨v, v, nm_e (h1 k4)⟩⟩
theorem y_getSub {post : Int32 → Prop} {n c kd q K : Nat} (hn : n ≤ 8) (hc : c < n) (hkd : kd < 2) (hK : K ≤ 4) (hp : pa (12 * c + (10 + kd)) = nI K) (hq : q < 2 ^ 31)
    (h1 : q < K → post (su (8 * c + 4 * kd + q))) (h0 : ¬ q < K → post (-1)) : wpY_getSubtree post (cap, (nI n), anc, up, fl, ys, yf, yF, yR, (cp_a pa 0), (cp_a pa 1), (cp_a pa 2), (cp_a pa 3), (cp_a pa 4), (cp_a pa 5), (cp_a pa 6), (cp_a pa 7), (cp_a pa 8), (cp_a pa 9), (cp_a pa 10), (cp_a pa 11), mp, (cp_sp su 0), (cp_sp su 1), ss, ns) (nI c) (nI kd) (nI q) := by
  unfold wpY_getSubtree
  have v : vp_in (nI c) 8 := vp_in_nI (by omega) (by omega)
  have hcl : (nI c).toNatClampNeg = c := nI_clamp (by omega)
  have e4 : nI c * 4 + nI q = nI (4 * c + q) := x_ix
  have kk : kd = 0 ∨ kd = 1 := by omega
  rcases kk with rfl | rfl
  · refine y_in hn hc (br_f (by decide) (br_f (by decide) (br_t (nI_pos' hq) (br_t rfl ⟨v, ?_⟩))))
    have hp' : cp_a pa 10 c = nI K := hp
    rw [hcl, hp', e4]
    refine pk_le K q (fun a => h0 (by omega)) (fun a => br_t (nI_lt (b := 4) (by omega) (by omega)) ⟨vp_in_nI (by omega) (by omega), ?_⟩)
    rw [nI_clamp (by omega), cp_spk (by omega)]
    exact h1 a
  · refine y_in hn hc (br_f (by decide) (br_f (by decide) (br_t (nI_pos' hq) (br_f (by decide) ⟨v, ?_⟩))))
    have hp' : cp_a pa 11 c = nI K := hp
    rw [hcl, hp', e4]
    refine pk_le K q (fun a => h0 (by omega)) (fun a => br_t (nI_lt (b := 4) (by omega) (by omega)) ⟨vp_in_nI (by omega) (by omega), ?_⟩)
    rw [nI_clamp (by omega), cp_spk (by omega)]
    exact h1 a
end YC
