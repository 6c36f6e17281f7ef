/-! the relation, and what is owed -/
/-- X's state and Y's: the same numbers, Y's arrays cut out of X's; the sets of the last walk are free -/
def i_Rel (_ : Nat) (u : SX) (v : SY) : Prop := ∃ (kp n : Nat) (anc up fl ls lf la lr el ml al ll : Int32) (pa mp su ex no ss ns : Nat → Int32),
  n ≤ kp ∧ kp ≤ 8 ∧ cp_Inv pa mp su ∧ u = ((nI kp), (nI n), anc, up, fl, ls, lf, la, lr, el, ml, al, ll, pa, mp, su, ex, no) ∧ v = ((nI kp), (nI n), anc, up, fl, ls, lf, la, lr, (cp_a pa 0), (cp_a pa 1), (cp_a pa 2), (cp_a pa 3), (cp_a pa 4), (cp_a pa 5), (cp_a pa 6), (cp_a pa 7), (cp_a pa 8), (cp_a pa 9), (cp_a pa 10), (cp_a pa 11), mp, (cp_sp su 0), (cp_sp su 1), ss, ns)
section IR
variable {anc up fl ls lf la lr el ml al ll : Int32} {pa mp su ex no ss ns : Nat → Int32}
theorem i_mk {k kp n : Nat} (h1 : n ≤ kp) (h2 : kp ≤ 8) (h : cp_Inv pa mp su) : i_Rel k ((nI kp), (nI n), anc, up, fl, ls, lf, la, lr, el, ml, al, ll, pa, mp, su, ex, no) ((nI kp), (nI n), anc, up, fl, ls, lf, la, lr, (cp_a pa 0), (cp_a pa 1), (cp_a pa 2), (cp_a pa 3), (cp_a pa 4), (cp_a pa 5), (cp_a pa 6), (cp_a pa 7), (cp_a pa 8), (cp_a pa 9), (cp_a pa 10), (cp_a pa 11), mp, (cp_sp su 0), (cp_sp su 1), ss, ns) :=
  ⟨kp, n, anc, up, fl, ls, lf, la, lr, el, ml, al, ll, pa, mp, su, ex, no, ss, ns, h1, h2, h, rfl, rfl⟩
theorem i_mkE {k kp n : Nat} {v : SY} (h1 : n ≤ kp) (h2 : kp ≤ 8) (h : cp_Inv pa mp su) (e : v = ((nI kp), (nI n), anc, up, fl, ls, lf, la, lr, (cp_a pa 0), (cp_a pa 1), (cp_a pa 2), (cp_a pa 3), (cp_a pa 4), (cp_a pa 5), (cp_a pa 6), (cp_a pa 7), (cp_a pa 8), (cp_a pa 9), (cp_a pa 10), (cp_a pa 11), mp, (cp_sp su 0), (cp_sp su 1), ss, ns)) : i_Rel k ((nI kp), (nI n), anc, up, fl, ls, lf, la, lr, el, ml, al, ll, pa, mp, su, ex, no) v :=
  ⟨kp, n, anc, up, fl, ls, lf, la, lr, el, ml, al, ll, pa, mp, su, ex, no, ss, ns, h1, h2, h, rfl, e⟩
end IR
theorem i_up {k : Nat} {u : SX} {v : SY} (h : i_Rel k u v) : i_Rel (k + 5) u v := h
theorem i_vc0 (k0 : Int32) : wpX_init (fun u => wpY_init (fun v => i_Rel 1 u v) k0) k0 := by
  unfold wpX_init
  refine br_c (fun a => br_c (fun b => ?_) (fun b => ?_)) (fun a => ?_)
  · obtain ⟨kp, p1, p2, rfl⟩ := x_rng (a := 1) (b := 8) (by omega) ⟨a, b⟩ (by omega)
    exact br_t a (br_t b (i_mk (n := 0) (by omega) (by omega) cp_Inv0))
  · exact br_t a (br_f b (i_mk (kp := 8) (n := 0) (by omega) (by omega) cp_Inv0))
  · exact br_f a (br_t (by decide) (i_mk (kp := 1) (n := 0) (by omega) (by omega) cp_Inv0))
theorem i_vc_setAnchor {k : Nat} {u : SX} {v : SY} (I : i_Rel k u v) (hk : k + 5 ≤ 2561) (v1 : Int32) : wpX_setAnchor (fun r u' => wpY_setAnchor (fun r' v' => r' = r ∧ i_Rel (k + 5) u' v') v v1) u v1 := by
  obtain ⟨kp, n, anc, up, fl, ls, lf, la, lr, el, ml, al, ll, pa, mp, su, ex, no, ss, ns, h1, h2, hI, rfl, rfl⟩ := I
  exact x_setAnchor (fun c => y_setAnchor (fun _ => ⟨rfl, i_mk h1 h2 hI⟩) (fun d => absurd c d)) (fun d => y_setAnchor (fun c => absurd c d) (fun _ => ⟨rfl, i_mk h1 h2 hI⟩))
theorem i_vc_setInitial {k : Nat} {u : SX} {v : SY} (I : i_Rel k u v) (hk : k + 5 ≤ 2561) (v1 : Int32) (v2 : Int32) : wpX_setInitial (fun r u' => wpY_setInitial (fun r' v' => r' = r ∧ i_Rel (k + 5) u' v') v v1 v2) u v1 v2 := by
  obtain ⟨kp, n, anc, up, fl, ls, lf, la, lr, el, ml, al, ll, pa, mp, su, ex, no, ss, ns, h1, h2, hI, rfl, rfl⟩ := I
  exact x_setInitial (fun c => y_setInitial (fun _ => ⟨rfl, i_mk h1 h2 hI⟩) (fun d => absurd c d)) (fun d => y_setInitial (fun c => absurd c d) (fun _ => ⟨rfl, i_mk h1 h2 hI⟩))
theorem i_vc_addCert {k : Nat} {u : SX} {v : SY} (I : i_Rel k u v) (hk : k + 5 ≤ 2561) (v1 : Int32) (v2 : Int32) (v3 : Int32) (v4 : Int32) : wpX_addCert (fun r u' => wpY_addCert (fun r' v' => r' = r ∧ i_Rel (k + 5) u' v') v v1 v2 v3 v4) u v1 v2 v3 v4 := by
  obtain ⟨kp, n, anc, up, fl, ls, lf, la, lr, el, ml, al, ll, pa, mp, su, ex, no, ss, ns, h1, h2, hI, rfl, rfl⟩ := I
  refine x_addCert h2 h1 (fun c q mp' hq hm => y_addCert h2 h1 (fun _ mp2 hm2 => ⟨rfl, ?_⟩) (fun d => absurd c d)) (fun d => y_addCert h2 h1 (fun c => absurd c d) (fun _ => ⟨rfl, i_mk h1 h2 hI⟩))
  have em : mp2 = mp' := funext fun j => (hm2 j).trans (hm j).symm
  subst em
  refine i_mkE (ss := ss) (ns := ns) (by omega) h2 (cp_InvN (cp_InvN (cp_Inv1 (cp_InvN (cp_InvN (cp_InvN (cp_InvN (cp_InvN (cp_InvC hI hq hm) (by decide) (by decide) (by decide)) (by decide) (by decide) (by decide)) (by decide) (by decide) (by decide)) (by decide) (by decide) (by decide)) (by decide) (by decide) (by decide)) c.2.2) (by decide) (by decide) (by decide)) (by decide) (by decide) (by decide)) ?_
  simp (disch := decide) only [cp_aS, cp_aN, cp_aC (hk := (by decide : 0 < 12)) hq, cp_aC (hk := (by decide : 1 < 12)) hq, cp_aC (hk := (by decide : 2 < 12)) hq, cp_aC (hk := (by decide : 3 < 12)) hq, cp_aC (hk := (by decide : 4 < 12)) hq, cp_aC (hk := (by decide : 5 < 12)) hq, cp_aC (hk := (by decide : 6 < 12)) hq, cp_aC (hk := (by decide : 7 < 12)) hq, cp_aC (hk := (by decide : 8 < 12)) hq, cp_aC (hk := (by decide : 9 < 12)) hq, cp_aC (hk := (by decide : 10 < 12)) hq, cp_aC (hk := (by decide : 11 < 12)) hq, cp_uu]
theorem i_vc_removeLast {k : Nat} {u : SX} {v : SY} (I : i_Rel k u v) (hk : k + 5 ≤ 2561) : wpX_removeLast (fun r u' => wpY_removeLast (fun r' v' => r' = r ∧ i_Rel (k + 5) u' v') v) u := by
  obtain ⟨kp, n, anc, up, fl, ls, lf, la, lr, el, ml, al, ll, pa, mp, su, ex, no, ss, ns, h1, h2, hI, rfl, rfl⟩ := I
  exact x_removeLast (by omega) (fun c => y_removeLast (by omega) (fun _ => ⟨rfl, i_mk (by omega) h2 hI⟩) (fun d => absurd c (by omega))) (fun d => y_removeLast (by omega) (fun c => absurd c (by omega)) (fun _ => ⟨rfl, i_mk h1 h2 hI⟩))
theorem i_vc_setBasic {k : Nat} {u : SX} {v : SY} (I : i_Rel k u v) (hk : k + 5 ≤ 2561) (v1 : Int32) (v2 : Int32) (v3 : Int32) : wpX_setBasic (fun r u' => wpY_setBasic (fun r' v' => r' = r ∧ i_Rel (k + 5) u' v') v v1 v2 v3) u v1 v2 v3 := by
  obtain ⟨kp, n, anc, up, fl, ls, lf, la, lr, el, ml, al, ll, pa, mp, su, ex, no, ss, ns, h1, h2, hI, rfl, rfl⟩ := I
  have hn : n ≤ 8 := by omega
  by_cases hx : 0 ≤ v1 ∧ v1 < nI n
  · obtain ⟨c, hc, rfl⟩ := x_cert hn hx
    refine x_setBasic hn hc (fun q => y_setBasic hn hc (fun _ => ⟨rfl, i_mkE (ss := ss) (ns := ns) h1 h2 (cp_InvN (cp_InvN hI (by decide) (by decide) (by decide)) (by decide) (by decide) (by decide)) ?_⟩) (fun d => absurd q d)) (fun d => y_setBasic hn hc (fun q => absurd q d) (fun _ => ⟨rfl, i_mk h1 h2 hI⟩))
    simp (disch := decide) only [cp_aS, cp_aN]
  · exact x_setBasicN hn hx (y_setBasicN hx ⟨rfl, i_mk h1 h2 hI⟩)
theorem i_vc_addPolicy {k : Nat} {u : SX} {v : SY} (I : i_Rel k u v) (hk : k + 5 ≤ 2561) (v1 : Int32) (v2 : Int32) : wpX_addPolicy (fun r u' => wpY_addPolicy (fun r' v' => r' = r ∧ i_Rel (k + 5) u' v') v v1 v2) u v1 v2 := by
  obtain ⟨kp, n, anc, up, fl, ls, lf, la, lr, el, ml, al, ll, pa, mp, su, ex, no, ss, ns, h1, h2, hI, rfl, rfl⟩ := I
  have hn : n ≤ 8 := by omega
  by_cases hx : 0 ≤ v1 ∧ v1 < nI n
  · obtain ⟨c, hc, rfl⟩ := x_cert hn hx
    refine x_addPolicy hn hc (fun q => y_addPolicy hn hc (fun _ => ⟨rfl, i_mkE (ss := ss) (ns := ns) h1 h2 (cp_InvN hI (by decide) (by decide) (by decide)) ?_⟩) (fun d => absurd q d)) (fun d => y_addPolicy hn hc (fun q => absurd q d) (fun _ => ⟨rfl, i_mk h1 h2 hI⟩))
    simp (disch := decide) only [cp_aS, cp_aN]
  · exact x_addPolicyN hn hx (y_addPolicyN hx ⟨rfl, i_mk h1 h2 hI⟩)
theorem i_vc_addMapping {k : Nat} {u : SX} {v : SY} (I : i_Rel k u v) (hk : k + 5 ≤ 2561) (v1 : Int32) (v2 : Int32) (v3 : Int32) : wpX_addMapping (fun r u' => wpY_addMapping (fun r' v' => r' = r ∧ i_Rel (k + 5) u' v') v v1 v2 v3) u v1 v2 v3 := by
  obtain ⟨kp, n, anc, up, fl, ls, lf, la, lr, el, ml, al, ll, pa, mp, su, ex, no, ss, ns, h1, h2, hI, rfl, rfl⟩ := I
  have hn : n ≤ 8 := by omega
  by_cases hx : 0 ≤ v1 ∧ v1 < nI n
  · obtain ⟨c, hc, rfl⟩ := x_cert hn hx
    refine x_addMapping hn hc (fun s t es et s1 t1 => y_addMapping hn hc (fun s' t' es' et' s2 t2 => ⟨rfl, ?_⟩) (fun d => absurd ?_ d)) (fun d => y_addMapping hn hc (fun s t es et s1 t1 => absurd ?_ d) (fun _ => ⟨rfl, i_mk h1 h2 hI⟩))
    · have a : s' = s := (nI_eq (by omega) (by omega)).mp (es'.symm.trans es)
      have b : t' = t := (nI_eq (by omega) (by omega)).mp (et'.symm.trans et)
      subst a b
      exact i_mk h1 h2 (cp_InvT hI t1.1 t1.2)
    · rw [es, et]
      exact ⟨⟨nI_le (a := 1) s1.1 (by omega), nI_le (b := 15) s1.2 (by omega)⟩, nI_le (a := 1) t1.1 (by omega), nI_le (b := 15) t1.2 (by omega)⟩
    · rw [es, et]
      exact ⟨⟨nI_le (a := 1) s1.1 (by omega), nI_le (b := 15) s1.2 (by omega)⟩, nI_le (a := 1) t1.1 (by omega), nI_le (b := 15) t1.2 (by omega)⟩
  · exact x_addMappingN hn hx (y_addMappingN hx ⟨rfl, i_mk h1 h2 hI⟩)
theorem i_vc_setPolicyConstraints {k : Nat} {u : SX} {v : SY} (I : i_Rel k u v) (hk : k + 5 ≤ 2561) (v1 : Int32) (v2 : Int32) (v3 : Int32) (v4 : Int32) : wpX_setPolicyConstraints (fun r u' => wpY_setPolicyConstraints (fun r' v' => r' = r ∧ i_Rel (k + 5) u' v') v v1 v2 v3 v4) u v1 v2 v3 v4 := by
  obtain ⟨kp, n, anc, up, fl, ls, lf, la, lr, el, ml, al, ll, pa, mp, su, ex, no, ss, ns, h1, h2, hI, rfl, rfl⟩ := I
  have hn : n ≤ 8 := by omega
  by_cases hx : 0 ≤ v1 ∧ v1 < nI n
  · obtain ⟨c, hc, rfl⟩ := x_cert hn hx
    refine x_setPC hn hc (fun q => y_setPC hn hc (fun _ => ⟨rfl, i_mkE (ss := ss) (ns := ns) h1 h2 (cp_InvN (cp_InvN (cp_InvN hI (by decide) (by decide) (by decide)) (by decide) (by decide) (by decide)) (by decide) (by decide) (by decide)) ?_⟩) (fun d => absurd q d)) (fun d => y_setPC hn hc (fun q => absurd q d) (fun _ => ⟨rfl, i_mk h1 h2 hI⟩))
    simp (disch := decide) only [cp_aS, cp_aN]
  · exact x_setPCN hn hx (y_setPCN hx ⟨rfl, i_mk h1 h2 hI⟩)
theorem i_vc_addSubtree {k : Nat} {u : SX} {v : SY} (I : i_Rel k u v) (hk : k + 5 ≤ 2561) (v1 : Int32) (v2 : Int32) (v3 : Int32) : wpX_addSubtree (fun r u' => wpY_addSubtree (fun r' v' => r' = r ∧ i_Rel (k + 5) u' v') v v1 v2 v3) u v1 v2 v3 := by
  obtain ⟨kp, n, anc, up, fl, ls, lf, la, lr, el, ml, al, ll, pa, mp, su, ex, no, ss, ns, h1, h2, hI, rfl, rfl⟩ := I
  have hn : n ≤ 8 := by omega
  by_cases hx : (0 ≤ v1 ∧ v1 < nI n) ∧ (v2 = 0 ∨ v2 = 1) ∧ cp_nm v3
  · obtain ⟨hx, hkd, hnm⟩ := hx
    obtain ⟨c, hc, rfl⟩ := x_cert hn hx
    rcases hkd with rfl | rfl
    · obtain ⟨K, hK, hp⟩ := hI.2.1 c 0 (by decide)
      refine x_addSubtree (kd := 0) hn hc (by decide) hK hp hnm (fun q => y_addSubtree0 hn hc hK hp hnm (fun _ => ⟨rfl, i_mkE (ss := ss) (ns := ns) h1 h2 (cp_InvS (cp_InvK hI (by decide) (by omega)) hnm) ?_⟩) (fun d => absurd q d)) (fun d => y_addSubtree0 hn hc hK hp hnm (fun q => absurd q d) (fun _ => ⟨rfl, i_mk h1 h2 hI⟩))
      rw [cp_spS q (by decide), cp_spN q (by decide) (by decide) (by decide)]
      simp (disch := decide) only [cp_aS, cp_aN, Nat.add_zero, Nat.reduceAdd]
    · obtain ⟨K, hK, hp⟩ := hI.2.1 c 1 (by decide)
      refine x_addSubtree (kd := 1) hn hc (by decide) hK hp hnm (fun q => y_addSubtree1 hn hc hK hp hnm (fun _ => ⟨rfl, i_mkE (ss := ss) (ns := ns) h1 h2 (cp_InvS (cp_InvK hI (by decide) (by omega)) hnm) ?_⟩) (fun d => absurd q d)) (fun d => y_addSubtree1 hn hc hK hp hnm (fun q => absurd q d) (fun _ => ⟨rfl, i_mk h1 h2 hI⟩))
      rw [cp_spS q (by decide), cp_spN q (by decide) (by decide) (by decide)]
      simp (disch := decide) only [cp_aS, cp_aN, Nat.add_zero, Nat.reduceAdd]
  · exact x_addSubtreeN hn hx (y_addSubtreeN hx ⟨rfl, i_mk h1 h2 hI⟩)
theorem i_vc_validate {k : Nat} {u : SX} {v : SY} (I : i_Rel k u v) (hk : k + 5 ≤ 2561) (v1 : Int32) : wpX_validate (fun r u' => wpY_validate (fun r' v' => r' = r ∧ i_Rel (k + 5) u' v') v v1) u v1 := by
  obtain ⟨kp, n, anc, up, fl, ls, lf, la, lr, el, ml, al, ll, pa, mp, su, ex, no, ss, ns, h1, h2, hI, rfl, rfl⟩ := I
  have hn : n ≤ 8 := by omega
  by_cases h0 : n = 0
  · subst h0
    unfold wpX_validate
    refine br_t rfl (x_keep ?_)
    unfold wpY_validate
    exact br_t rfl (y_fail ⟨rfl, i_mk h1 h2 hI⟩)
  · obtain ⟨s, x, F, R, h⟩ := cp_tot (pa := pa) (mp := mp) (su := su) (anc := anc) (up := up) (tm := v1) (n := n) n 0 (cp_c0 fl 1 n) (cp_c0 fl 2 n) (cp_c0 fl 4 n) (nI n) cp_S0 (by omega) (by omega)
    refine x_val (by omega) hn hI.2.1 hI.2.2.1 (h _ fun el ml al ll ex no => ?_)
    exact y_val (by omega) hn hI.1 hI.2.2.2 hI.2.1 hI.2.2.1 (h _ fun ss ns => ⟨rfl, i_mk h1 h2 hI⟩)
theorem i_vc_getFailIndex {k : Nat} {u : SX} {v : SY} (I : i_Rel k u v) (hk : k + 5 ≤ 2561) : wpX_getFailIndex (fun r => wpY_getFailIndex (fun r' => r' = r ∧ i_Rel (k + 5) u v) v) u := by
  obtain ⟨kp, n, anc, up, fl, ls, lf, la, lr, el, ml, al, ll, pa, mp, su, ex, no, ss, ns, h1, h2, hI, rfl, rfl⟩ := I
  exact ⟨rfl, i_mk h1 h2 hI⟩
theorem i_vc_getPolicies {k : Nat} {u : SX} {v : SY} (I : i_Rel k u v) (hk : k + 5 ≤ 2561) : wpX_getPolicies (fun r => wpY_getPolicies (fun r' => r' = r ∧ i_Rel (k + 5) u v) v) u := by
  obtain ⟨kp, n, anc, up, fl, ls, lf, la, lr, el, ml, al, ll, pa, mp, su, ex, no, ss, ns, h1, h2, hI, rfl, rfl⟩ := I
  exact ⟨rfl, i_mk h1 h2 hI⟩
theorem i_vc_getAuthorityPolicies {k : Nat} {u : SX} {v : SY} (I : i_Rel k u v) (hk : k + 5 ≤ 2561) : wpX_getAuthorityPolicies (fun r => wpY_getAuthorityPolicies (fun r' => r' = r ∧ i_Rel (k + 5) u v) v) u := by
  obtain ⟨kp, n, anc, up, fl, ls, lf, la, lr, el, ml, al, ll, pa, mp, su, ex, no, ss, ns, h1, h2, hI, rfl, rfl⟩ := I
  exact ⟨rfl, i_mk h1 h2 hI⟩
theorem i_12 {f : Nat} (h : f < 12) : f = 0 ∨ f = 1 ∨ f = 2 ∨ f = 3 ∨ f = 4 ∨ f = 5 ∨ f = 6 ∨ f = 7 ∨ f = 8 ∨ f = 9 ∨ f = 10 ∨ f = 11 := by omega
theorem i_6 {f : Nat} (h : f < 6) : f = 0 ∨ f = 1 ∨ f = 2 ∨ f = 3 ∨ f = 4 ∨ f = 5 := by omega
theorem i_out {x : Int32} {b c : Nat} (hb : b < 2 ^ 31) (hc : c ≤ b) (h : ¬ (0 ≤ x ∧ x ≤ nI b)) : ¬ x = nI c := by
  rintro rfl
  exact h ⟨nI_pos' (by omega), nI_le hc (by omega)⟩
theorem i_vc_getField {k : Nat} {u : SX} {v : SY} (I : i_Rel k u v) (hk : k + 5 ≤ 2561) (v1 : Int32) (v2 : Int32) : wpX_getField (fun r => wpY_getField (fun r' => r' = r ∧ i_Rel (k + 5) u v) v v1 v2) u v1 v2 := by
  obtain ⟨kp, n, anc, up, fl, ls, lf, la, lr, el, ml, al, ll, pa, mp, su, ex, no, ss, ns, h1, h2, hI, rfl, rfl⟩ := I
  have hn : n ≤ 8 := by omega
  have J : i_Rel (k + 5) ((nI kp), (nI n), anc, up, fl, ls, lf, la, lr, el, ml, al, ll, pa, mp, su, ex, no) ((nI kp), (nI n), anc, up, fl, ls, lf, la, lr, (cp_a pa 0), (cp_a pa 1), (cp_a pa 2), (cp_a pa 3), (cp_a pa 4), (cp_a pa 5), (cp_a pa 6), (cp_a pa 7), (cp_a pa 8), (cp_a pa 9), (cp_a pa 10), (cp_a pa 11), mp, (cp_sp su 0), (cp_sp su 1), ss, ns) := i_mk h1 h2 hI
  generalize hu : i_Rel (k + 5) ((nI kp), (nI n), anc, up, fl, ls, lf, la, lr, el, ml, al, ll, pa, mp, su, ex, no) ((nI kp), (nI n), anc, up, fl, ls, lf, la, lr, (cp_a pa 0), (cp_a pa 1), (cp_a pa 2), (cp_a pa 3), (cp_a pa 4), (cp_a pa 5), (cp_a pa 6), (cp_a pa 7), (cp_a pa 8), (cp_a pa 9), (cp_a pa 10), (cp_a pa 11), mp, (cp_sp su 0), (cp_sp su 1), ss, ns) = JJ at J ⊢
  unfold wpX_getField
  by_cases hm : v1 = -1
  · refine br_t hm ?_
    unfold wpX_globalField
    by_cases hr : 0 ≤ v2 ∧ v2 ≤ 5
    · obtain ⟨f, _, f2, rfl⟩ := x_rng (a := 0) (b := 5) (by omega) hr (by omega)
      refine br_f (nI_pos (by omega)) (br_f (nI_nlt (a := 5) (by omega) (by omega)) ?_)
      rcases i_6 (f := f) (by omega) with rfl | rfl | rfl | rfl | rfl | rfl
      · exact br_t rfl (br_t hm (br_t rfl ⟨rfl, J⟩))
      · exact br_f (by decide) (br_t rfl (br_t hm (br_f (by decide) (br_t rfl ⟨rfl, J⟩))))
      · exact br_f (by decide) (br_f (by decide) (br_t rfl (br_t hm (br_f (by decide) (br_f (by decide) (br_t rfl ⟨rfl, J⟩))))))
      · exact br_f (by decide) (br_f (by decide) (br_f (by decide) (br_t rfl (br_t hm (br_f (by decide) (br_f (by decide) (br_f (by decide) (br_t rfl ⟨rfl, J⟩))))))))
      · exact br_f (by decide) (br_f (by decide) (br_f (by decide) (br_f (by decide) (br_t rfl (br_t hm (br_f (by decide) (br_f (by decide) (br_f (by decide) (br_f (by decide) (br_t rfl ⟨rfl, J⟩))))))))))
      · exact br_f (by decide) (br_f (by decide) (br_f (by decide) (br_f (by decide) (br_f (by decide) (br_t rfl (br_t hm (br_f (by decide) (br_f (by decide) (br_f (by decide) (br_f (by decide) (br_f (by decide) (br_t rfl ⟨rfl, J⟩))))))))))))
    · have hy := fun c (hc : c ≤ 5) => i_out (b := 5) (c := c) (by omega) hc hr
      have fin : wpY_getField (fun r' => r' = -2147483648 ∧ JJ) ((nI kp), (nI n), anc, up, fl, ls, lf, la, lr, (cp_a pa 0), (cp_a pa 1), (cp_a pa 2), (cp_a pa 3), (cp_a pa 4), (cp_a pa 5), (cp_a pa 6), (cp_a pa 7), (cp_a pa 8), (cp_a pa 9), (cp_a pa 10), (cp_a pa 11), mp, (cp_sp su 0), (cp_sp su 1), ss, ns) v1 v2 := by
        unfold wpY_getField
        exact br_t hm (br_f (hy 0 (by omega)) (br_f (hy 1 (by omega)) (br_f (hy 2 (by omega)) (br_f (hy 3 (by omega)) (br_f (hy 4 (by omega)) (br_f (hy 5 (by omega)) ⟨rfl, J⟩))))))
      exact br_c (fun _ => fin) (fun a => br_c (fun _ => fin) (fun b => absurd ⟨Int32.not_lt.mp a, Int32.not_lt.mp b⟩ hr))
  · refine br_f hm ?_
    by_cases hx : 0 ≤ v1 ∧ v1 < nI n
    · obtain ⟨c, hc, rfl⟩ := x_cert hn hx
      have v : vp_in (nI c) 8 := vp_in_nI (by omega) (by omega)
      have hcl : (nI c).toNatClampNeg = c := nI_clamp (by omega)
      refine x_isCert hn (fun _ => br_f (by decide) (x_inRange (fun hr => br_f (by decide) ?_) (fun hr => br_t rfl ?_))) (fun q => absurd hx q)
      · obtain ⟨f, _, f2, rfl⟩ := x_rng (a := 0) (b := 11) (by omega) hr (by omega)
        refine x_part (by omega) (by omega) ?_
        unfold wpY_getField
        rw [hcl]
        refine br_f hm (br_f (nI_pos (by omega)) (br_t (nI_lt hc (by omega)) ?_))
        rcases i_12 (f := f) (by omega) with rfl | rfl | rfl | rfl | rfl | rfl | rfl | rfl | rfl | rfl | rfl | rfl
        · exact br_t rfl ⟨v, rfl, J⟩
        · exact br_f (by decide) (br_t rfl ⟨v, rfl, J⟩)
        · exact br_f (by decide) (br_f (by decide) (br_t rfl ⟨v, rfl, J⟩))
        · exact br_f (by decide) (br_f (by decide) (br_f (by decide) (br_t rfl ⟨v, rfl, J⟩)))
        · exact br_f (by decide) (br_f (by decide) (br_f (by decide) (br_f (by decide) (br_t rfl ⟨v, rfl, J⟩))))
        · exact br_f (by decide) (br_f (by decide) (br_f (by decide) (br_f (by decide) (br_f (by decide) (br_t rfl ⟨v, rfl, J⟩)))))
        · exact br_f (by decide) (br_f (by decide) (br_f (by decide) (br_f (by decide) (br_f (by decide) (br_f (by decide) (br_t rfl ⟨v, rfl, J⟩))))))
        · exact br_f (by decide) (br_f (by decide) (br_f (by decide) (br_f (by decide) (br_f (by decide) (br_f (by decide) (br_f (by decide) (br_t rfl ⟨v, rfl, J⟩)))))))
        · exact br_f (by decide) (br_f (by decide) (br_f (by decide) (br_f (by decide) (br_f (by decide) (br_f (by decide) (br_f (by decide) (br_f (by decide) (br_t rfl ⟨v, rfl, J⟩))))))))
        · exact br_f (by decide) (br_f (by decide) (br_f (by decide) (br_f (by decide) (br_f (by decide) (br_f (by decide) (br_f (by decide) (br_f (by decide) (br_f (by decide) (br_t rfl ⟨v, rfl, J⟩)))))))))
        · exact br_f (by decide) (br_f (by decide) (br_f (by decide) (br_f (by decide) (br_f (by decide) (br_f (by decide) (br_f (by decide) (br_f (by decide) (br_f (by decide) (br_f (by decide) (br_t rfl ⟨v, rfl, J⟩))))))))))
        · exact br_f (by decide) (br_f (by decide) (br_f (by decide) (br_f (by decide) (br_f (by decide) (br_f (by decide) (br_f (by decide) (br_f (by decide) (br_f (by decide) (br_f (by decide) (br_f (by decide) (br_t rfl ⟨v, rfl, J⟩)))))))))))
      · have hy := fun c (hc : c ≤ 11) => i_out (b := 11) (c := c) (by omega) hc hr
        unfold wpY_getField
        exact br_f hm (br_f (nI_pos (by omega)) (br_t (nI_lt hc (by omega)) (br_f (hy 0 (by omega)) (br_f (hy 1 (by omega)) (br_f (hy 2 (by omega)) (br_f (hy 3 (by omega)) (br_f (hy 4 (by omega)) (br_f (hy 5 (by omega)) (br_f (hy 6 (by omega)) (br_f (hy 7 (by omega)) (br_f (hy 8 (by omega)) (br_f (hy 9 (by omega)) (br_f (hy 10 (by omega)) (br_f (hy 11 (by omega)) ⟨rfl, J⟩))))))))))))))
    · refine x_isCert hn (fun q => absurd q hx) (fun _ => br_t rfl ?_)
      unfold wpY_getField
      exact br_f hm (br_c (fun _ => ⟨rfl, J⟩) (fun a => br_c (fun b => absurd ⟨Int32.not_lt.mp a, b⟩ hx) (fun _ => ⟨rfl, J⟩)))
theorem i_vc_getMappingTargets {k : Nat} {u : SX} {v : SY} (I : i_Rel k u v) (hk : k + 5 ≤ 2561) (v1 : Int32) (v2 : Int32) : wpX_getMappingTargets (fun r => wpY_getMappingTargets (fun r' => r' = r ∧ i_Rel (k + 5) u v) v v1 v2) u v1 v2 := by
  obtain ⟨kp, n, anc, up, fl, ls, lf, la, lr, el, ml, al, ll, pa, mp, su, ex, no, ss, ns, h1, h2, hI, rfl, rfl⟩ := I
  have hn : n ≤ 8 := by omega
  have J : i_Rel (k + 5) ((nI kp), (nI n), anc, up, fl, ls, lf, la, lr, el, ml, al, ll, pa, mp, su, ex, no) ((nI kp), (nI n), anc, up, fl, ls, lf, la, lr, (cp_a pa 0), (cp_a pa 1), (cp_a pa 2), (cp_a pa 3), (cp_a pa 4), (cp_a pa 5), (cp_a pa 6), (cp_a pa 7), (cp_a pa 8), (cp_a pa 9), (cp_a pa 10), (cp_a pa 11), mp, (cp_sp su 0), (cp_sp su 1), ss, ns) := i_mk h1 h2 hI
  unfold wpX_getMappingTargets
  by_cases hx : 0 ≤ v1 ∧ v1 < nI n
  · obtain ⟨c, hc, rfl⟩ := x_cert hn hx
    refine x_isCert hn (fun _ => br_f (by decide) (x_isSpec (fun hs => br_f (by decide) ?_) (fun hs => br_t rfl ?_))) (fun q => absurd hx q)
    · obtain ⟨s, s1, s2, rfl⟩ := x_rng (a := 1) (b := 15) (by omega) hs (by omega)
      refine x_targets (by omega) (by omega) ?_
      unfold wpY_getMappingTargets
      have e : nI c * 16 + nI s = nI (16 * c + s) := x_ix
      rw [e, nI_clamp (by omega)]
      exact y_in hn hc (br_f (Int32.not_lt.mpr hs.1) (br_t hs.2 ⟨vp_in_nI (by omega) (by omega), rfl, J⟩))
    · unfold wpY_getMappingTargets
      exact y_in hn hc (br_c (fun _ => ⟨rfl, J⟩) (fun a => br_c (fun b => absurd ⟨Int32.not_lt.mp a, b⟩ hs) (fun _ => ⟨rfl, J⟩)))
  · refine x_isCert hn (fun q => absurd q hx) (fun _ => br_t rfl ?_)
    unfold wpY_getMappingTargets
    exact y_cert hx ⟨rfl, J⟩
theorem i_vc_getSubtree {k : Nat} {u : SX} {v : SY} (I : i_Rel k u v) (hk : k + 5 ≤ 2561) (v1 : Int32) (v2 : Int32) (v3 : Int32) : wpX_getSubtree (fun r => wpY_getSubtree (fun r' => r' = r ∧ i_Rel (k + 5) u v) v v1 v2 v3) u v1 v2 v3 := by
  obtain ⟨kp, n, anc, up, fl, ls, lf, la, lr, el, ml, al, ll, pa, mp, su, ex, no, ss, ns, h1, h2, hI, rfl, rfl⟩ := I
  have hn : n ≤ 8 := by omega
  have J : i_Rel (k + 5) ((nI kp), (nI n), anc, up, fl, ls, lf, la, lr, el, ml, al, ll, pa, mp, su, ex, no) ((nI kp), (nI n), anc, up, fl, ls, lf, la, lr, (cp_a pa 0), (cp_a pa 1), (cp_a pa 2), (cp_a pa 3), (cp_a pa 4), (cp_a pa 5), (cp_a pa 6), (cp_a pa 7), (cp_a pa 8), (cp_a pa 9), (cp_a pa 10), (cp_a pa 11), mp, (cp_sp su 0), (cp_sp su 1), ss, ns) := i_mk h1 h2 hI
  unfold wpX_getSubtree
  by_cases hx : 0 ≤ v1 ∧ v1 < nI n
  · obtain ⟨c, hc, rfl⟩ := x_cert hn hx
    have v : vp_in (nI c) 8 := vp_in_nI (by omega) (by omega)
    refine x_isCert hn (fun _ => br_f (by decide) (x_isKind (fun hkd => br_f (by decide) (br_c (fun a => ?_) (fun a => ?_))) (fun hkd => br_t rfl ?_))) (fun q => absurd hx q)
    · unfold wpY_getSubtree
      have hkd' : ¬ v2 < 0 ∧ ¬ 1 < v2 := by rcases hkd with rfl | rfl <;> decide
      exact y_in hn hc (br_f hkd'.1 (br_f hkd'.2 (br_f (Int32.not_le.mpr a) ⟨rfl, J⟩)))
    · obtain ⟨q, hq, rfl⟩ := nI_of a
      obtain ⟨kd, hkd2, rfl⟩ : ∃ kd, kd < 2 ∧ v2 = nI kd := by
        rcases hkd with h | h
        · exact ⟨0, by decide, h⟩
        · exact ⟨1, by decide, h⟩
      obtain ⟨K, hK, hp⟩ := hI.2.1 c kd hkd2
      refine x_subCnt (by omega) hkd2 ?_
      rw [hp]
      refine pk_lt q K (fun hqK => x_first ?_) (fun hqK => ?_)
      · have e : nI (8 * c + 4 * kd) + nI q = nI (8 * c + 4 * kd + q) := nI_add _ _
        rw [e, nI_clamp (by omega)]
        exact ⟨vp_in_nI (by omega) (by omega), y_getSub hn hc hkd2 hK hp hq (fun _ => ⟨rfl, J⟩) (fun a => absurd hqK a)⟩
      · exact y_getSub hn hc hkd2 hK hp hq (fun a => absurd a (by omega)) (fun _ => ⟨rfl, J⟩)
    · unfold wpY_getSubtree
      exact y_in hn hc (br_c (fun _ => ⟨rfl, J⟩) (fun k0 => br_c (fun _ => ⟨rfl, J⟩) (fun k1 => absurd (y_kd k0 k1) hkd)))
  · refine x_isCert hn (fun q => absurd q hx) (fun _ => br_t rfl ?_)
    unfold wpY_getSubtree
    exact y_cert hx ⟨rfl, J⟩
