/-! the law's method jobs -/
/-- behind a step of two acts -/
def Pw (x t : Nat) (h' : Hp) : Prop := ∃ σ' k' t' nc' nj' ty', CR h' x σ' k' ∧ IV (σ' 0) t' nc' nj' ∧ σ' 5 0 = nI ty' ∧ ty' ≤ 60 ∧ 0 < nc' ∧ t' ≤ t + 2
theorem Po.w {x k t : Nat} {ρ : Row} {h' : Hp} (p : Po x ρ k t h') : Pw x t h' := by
  obtain ⟨σ', k', t', nc', nj', ty', a, b, c, d, e, f, -⟩ := p
  exact ⟨σ', k', t', nc', nj', ty', a, b, c, d, e, f⟩
section JOBS
variable {hh h : Hp} {x k t nc nj : Nat} {σ : Nat → Nat → Int32} {K : Int32 → Hp → Prop}
theorem a_print (C : CR h x σ k) (I : IV (σ 0) t nc nj) (ht : t < 2 ^ 14) {j : Nat} (hj : j < nj) (hno : ¬ jb (σ 0) j 3 = 1 → ∀ h', CR h' x σ k → K (-4) h')
    (hdid : jb (σ 0) j 3 = 1 → ∀ h' σ', CR h' x σ' (rk k) → Af σ k (ur (ur (ur (σ 0) (211 + 272 * j + 3) 2) (211 + 272 * j + 4) (σ 0 3)) (211 + 272 * j + 5) (late (σ 0) j)) σ' → IV (σ' 0) (t + 1) nc nj → K (late (σ 0) j) h') : hK h x = 7 ∧ V_X6_print x (nI j) h K := by
  obtain ⟨⟨d, B⟩, -⟩ := id I
  have h12 := I.n12
  obtain ⟨d0, d1, d2⟩ := I.d3
  have G := ga_print I.wf (by omega) (nI j)
  refine ⟨C.1.kx, k_print C I.j1 h12 (by rw [d2]; exact nm5 (by omega)) _ ?_⟩
  unfold sp_print at G ⊢
  rw [if_neg (nbadJ B hj), ix_nI (by omega)] at G ⊢
  by_cases z : jb (σ 0) j 3 = 1
  · rw [if_pos z] at G ⊢
    refine oc_did rfl (fun h' σ' f c' a => hdid z h' σ' c' a ?_)
    rw [a.1]
    exact iv_print I hj z ht rfl (G _ rfl _ rfl)
  · rw [if_neg z]
    exact oc_no (fun h' f c => hno z h' c)
theorem a_distribute (C : CR h x σ k) (I : IV (σ 0) t nc nj) {j : Nat} (hj : j < nj) (hno : ¬ jb (σ 0) j 3 = 2 → ∀ h', CR h' x σ k → K (-4) h')
    (hdid : jb (σ 0) j 3 = 2 → ∀ h' σ', CR h' x σ' (rk k) → Af σ k (goneR (ur (σ 0) (211 + 272 * j + 3) 3) nc j 8) σ' → IV (σ' 0) (t + 1) nc nj → K (goneN (σ 0) nc j 8) h') : hK h x = 7 ∧ V_X6_distribute x (nI j) h K := by
  obtain ⟨⟨d, B⟩, -⟩ := id I
  have h12 := I.n12
  have G := ga_distribute B.1 B.2.1 B.2.2.1 B.2.2.2.1 B.2.2.2.2.1 B.2.2.2.2.2.1 B.2.2.2.2.2.2.1 B.2.2.2.2.2.2.2.1 B.2.2.2.2.2.2.2.2 (nI j)
  refine ⟨C.1.kx, k_distribute C B.1 I.j1 h12 B.2.2.2.2.2.2.2.1 B.z2 _ ?_⟩
  unfold sp_distribute at G ⊢
  rw [if_neg (nbadJ B hj), ix_nI (by omega)] at G ⊢
  by_cases z : jb (σ 0) j 3 = 2
  · rw [if_pos z] at G ⊢
    refine oc_did (gone_ex _ nc j 8) (fun h' σ' f c' a => hdid z h' σ' c' a ?_)
    rw [a.1]
    exact iv_gone (st := 3) I hj (Or.inl ⟨rfl, z⟩) (gone_ex _ nc j 8) (G _ rfl _ (gone_ex _ nc j 8))
  · rw [if_neg z]
    exact oc_no (fun h' f c => hno z h' c)
theorem a_cancel (C : CR h x σ k) (I : IV (σ 0) t nc nj) {j st : Nat} (hj : j < nj) (hst : st ≤ 4) (es : jb (σ 0) j 3 = nI st) (hno : ¬ st ≤ 1 → ∀ h', CR h' x σ k → K (-4) h')
    (hdid : st ≤ 1 → ∀ h' σ', CR h' x σ' (rk k) → Af σ k (goneR (ur (σ 0) (211 + 272 * j + 3) 4) nc j 0) σ' → IV (σ' 0) (t + 1) nc nj → K (formeN (σ 0) nc j - goneN (σ 0) nc j 0) h') : hK h x = 7 ∧ V_X6_cancel x (nI j) h K := by
  obtain ⟨⟨d, B⟩, -⟩ := id I
  have h12 := I.n12
  have G := ga_cancel B.1 B.2.1 B.2.2.1 B.2.2.2.1 B.2.2.2.2.1 B.2.2.2.2.2.1 B.2.2.2.2.2.2.1 B.2.2.2.2.2.2.2.1 B.2.2.2.2.2.2.2.2 (nI j)
  refine ⟨C.1.kx, k_cancel C B.1 I.j1 h12 B.2.2.2.2.2.2.2.1 B.z2 B.z4 _ ?_⟩
  unfold sp_cancel at G ⊢
  rw [if_neg (nbadJ B hj), ix_nI (by omega)] at G ⊢
  have l1 : (1 : Int32) < nI st ↔ 1 < st := nI_ltI (a := 1) (by decide) (by omega)
  have e : (jb (σ 0) j 3 < 0 ∨ 1 < jb (σ 0) j 3) ↔ ¬ st ≤ 1 := by
    rw [es, l1]
    exact ⟨fun w => w.elim (fun w => absurd w (cn0 (by omega))) (fun w => by omega), fun w => Or.inr (by omega)⟩
  by_cases z : st ≤ 1
  · rw [if_neg (fun w => e.mp w z)] at G ⊢
    refine oc_did (gone_ex _ nc j 0) (fun h' σ' f c' a => hdid z h' σ' c' a ?_)
    rw [a.1]
    refine iv_gone (st := 4) I hj (Or.inr ⟨rfl, ?_⟩) (gone_ex _ nc j 0) (G _ rfl _ (gone_ex _ nc j 0))
    rw [es]
    rcases (show st = 0 ∨ st = 1 by omega) with u | u
    · subst u; exact Or.inl rfl
    · subst u; exact Or.inr rfl
  · rw [if_pos (e.mpr z)]
    exact oc_no (fun h' f c => hno z h' c)
/-- what distributing and cancelling leave -/
theorem gone_facts {ρ ρ' : Row} {j : Nat} {w v : Int32} (I : IV ρ t nc nj) (I' : IV ρ' (t + 1) nc nj) (hj : j < nj) (hG : Gone (ur ρ (211 + 272 * j + 3) v) nc j w ρ') : boxN ρ' = boxN ρ + goneN ρ nc j w ∧ formeN ρ' nc j = 0 ∧ jb ρ' j 3 = v := by
  have h6 := I.n6
  obtain ⟨p1, p2, p3, p4⟩ := hG
  refine ⟨?_, ?_, by unfold jb; rw [p4 _ (by omega), ur_s]⟩
  · unfold boxN goneN
    rw [← sm_add]
    refine sm_congr (fun s hs => ?_)
    rw [p2 s hs, ur_n (by omega)]
    congr 1
    refine sm_congr (fun c hc => ?_)
    unfold tobox
    rw [back_ur (by omega) hs]
    congr 1
    exact ur_n (by omega)
  · exact sm_zero (fun c hc => sm_zero (fun s hs => by rw [p3 c s (by omega) hs, if_pos hc]))
theorem tobox_nI {ρ : Row} {j c s : Nat} (I : IV ρ t nc nj) (hj : j < nj) (hc : c < 6) (hs : s < 29) : ∃ b f, b ≤ f ∧ f ≤ 99 ∧ tobox ρ j 8 c s = nI b ∧ fm ρ j c s = nI f := by
  obtain ⟨n, hn, e1⟩ := I.h hc hs
  obtain ⟨f, hf, e2⟩ := (I.jw hj).2.2.1 c s hc hs
  have e3 : fm ρ j c s - (if (8 : Int32) = 0 then 0 else fm ρ j c s / 8) = nI (f - f / 8) := by
    rw [e2, if_neg (by decide), show nI f / 8 = nI (f / 8) from pk_div (d := 8) (by omega) (by decide) (by decide), pk_sub (Nat.div_le_self f 8)]
  unfold tobox back
  rw [e3, e1, show (99 : Int32) - nI n = nI (99 - n) from pk_sub (a := 99) hn, e2]
  by_cases q : nI (99 - n) ≤ nI (f - f / 8)
  · rw [if_pos q]
    rw [nle (by omega) (by omega)] at q
    exact ⟨f - (99 - n), f, by omega, hf, pk_sub (by omega), rfl⟩
  · rw [if_neg q]
    exact ⟨f - (f - f / 8), f, by omega, hf, pk_sub (by omega), rfl⟩
theorem gone_le {ρ : Row} {j : Nat} (I : IV ρ t nc nj) (hj : j < nj) : ¬ formeN ρ nc j < goneN ρ nc j 8 := by
  have h6 := I.n6
  have key : ∀ c s, ∃ q : Nat × Nat, c < 6 → s < 29 → q.1 ≤ q.2 ∧ q.2 ≤ 99 ∧ tobox ρ j 8 c s = nI q.1 ∧ fm ρ j c s = nI q.2 := fun c s => by
    by_cases hc : c < 6
    · by_cases hs : s < 29
      · obtain ⟨b, f, h⟩ := tobox_nI I hj hc hs
        exact ⟨(b, f), fun _ _ => h⟩
      · exact ⟨(0, 0), fun _ w => absurd w hs⟩
    · exact ⟨(0, 0), fun w => absurd w hc⟩
  have ⟨F, hF⟩ := Classical.axiomOfChoice (fun c => Classical.axiomOfChoice (key c))
  have e1 : goneN ρ nc j 8 = nI (sN 29 (fun s => sN nc (fun c => (F c s).1))) := by
    unfold goneN
    exact sm_sN (fun s hs => sm_sN (fun c hc => (hF c s (by omega) hs).2.2.1))
  have e2 : formeN ρ nc j = nI (sN 29 (fun s => sN nc (fun c => (F c s).2))) := by
    unfold formeN
    rw [sm_swap nc 29]
    exact sm_sN (fun s hs => sm_sN (fun c hc => (hF c s (by omega) hs).2.2.2))
  have le : ∀ n (f g : Nat → Nat), (∀ i, i < n → f i ≤ g i) → sN n f ≤ sN n g := by
    intro n f g
    induction n with
    | zero => intro _; exact Nat.le_refl _
    | succ n ih => intro h; exact Nat.add_le_add (ih (fun i hi => h i (by omega))) (h n (by omega))
  have l1 := le 29 _ _ (fun s hs => le nc _ _ (fun c hc => (hF c s (by omega) hs).1))
  have l2 : sN 29 (fun s => sN nc (fun c => (F c s).2)) ≤ 29 * 600 := sN_le (fun s hs => Nat.le_trans (sN_le (B := 99) (fun c hc => (hF c s (by omega) hs).2.1)) (by have : nc * 99 ≤ 6 * 99 := Nat.mul_le_mul_right _ h6; omega))
  rw [e1, e2, nI_ltI (by omega) (by omega)]
  omega
theorem a_castMissing (C : CR h x σ k) (I : IV (σ 0) t nc nj) {j hm : Nat} (hj : j < nj) (hm1 : hm < nc) (he : jb (σ 0) j 0 = nI hm) (hno : ∀ r, (¬ jb (σ 0) j 3 = 0 → r = -4) → (r = -5 ∨ r = -4 ∨ r = -3) → ∀ h', CR h' x σ k → K r h')
    (hdid : jb (σ 0) j 3 = 0 → ∀ S, 0 < S → S < 2 ^ 30 → ∀ h' σ', CR h' x σ' (rk k) → Af σ k (castA (σ 0) hm (lkF (σ 0) nc j)) σ' → IV (σ' 0) (t + 1) nc nj → K (nI S) h') : hK h x = 7 ∧ V_X6_castMissing x (nI j) h K := by
  obtain ⟨⟨d, B⟩, -⟩ := id I
  have h6 := I.n6
  have h12 := I.n12
  refine ⟨C.1.kx, k_castMissing C B.1 B.2.2.2.2.1 B.2.1 B.hH B.2.2.2.2.2.2.2.1 B.z2 B.z3 B.hsm30 _ ?_⟩
  unfold sp_castMissing
  rw [if_neg (nbadJ B hj), ix_nI (by omega), he, ix_nI (by omega)]
  have sk : ∀ s, ∃ v, s < 29 → lkF (σ 0) nc j s = nI v ∧ v ≤ 2 ^ 20 := fun s => by
    by_cases hs : s < 29
    · obtain ⟨v, hv, ev⟩ := lk_nI (B.hsm j s hj hs)
      exact ⟨v, fun _ => ⟨ev, by omega⟩⟩
    · exact ⟨0, fun z => absurd z hs⟩
  have ⟨vM, hvM⟩ := Classical.axiomOfChoice sk
  obtain ⟨S, s1, s2, -⟩ := sm_nI hvM
  have s1' : lkN (σ 0) nc j = nI S := s1
  by_cases z : jb (σ 0) j 3 = 0
  · rw [if_pos z]
    by_cases z2 : lkN (σ 0) nc j = 0
    · rw [if_pos z2]
      exact oc_no (fun h' f c => hno (-5) (fun w => absurd z w) (Or.inl rfl) h' c)
    · rw [if_neg z2, s1']
      have hS : 0 < S := by
        by_cases w : S = 0
        · rw [s1', w] at z2; exact absurd rfl z2
        · omega
      exact oc_castW I hm1 (fun s hs => lk_nI (B.hsm j s hj hs)) (fun _ h' c => hno (-3) (fun w => absurd z w) (Or.inr (Or.inr rfl)) h' c) (fun _ _ h' c => hno (-4) (fun _ => rfl) (Or.inr (Or.inl rfl)) h' c) (fun _ _ h' σ' c a i => hdid z S hS (by omega) h' σ' c a i)
  · rw [if_neg z]
    exact oc_no (fun h' f c => hno (-4) (fun _ => rfl) (Or.inr (Or.inl rfl)) h' c)
/-- nothing is missing then -/
theorem cast_all {ρ : Row} {j hm : Nat} (I : IV ρ t nc nj) (hj : j < nj) (hm1 : hm < nc) (h0 : jb ρ j 3 = 0) : lkN (castA ρ hm (lkF ρ nc j)) nc j ≤ 0 := by
  obtain ⟨⟨d, B⟩, -⟩ := id I
  have h6 := I.n6
  have eo : ∀ w, jb (castA ρ hm (lkF ρ nc j)) j w = jb ρ j w := fun w => castA_o (by omega) (by omega) (by omega)
  have hs0 : ¬ (jb ρ j 3 = 1 ∨ jb ρ j 3 = 2) := fun z => by rw [h0] at z; exact absurd z (by decide)
  have et : ∀ s, s < 29 → thr (castA ρ hm (lkF ρ nc j)) nc j s = thr ρ nc j s + lkF ρ nc j s := fun s hs => by
    unfold thr
    refine sm_upd hm1 ?_ (fun i hi z => ?_)
    · rw [eo, if_neg hs0, if_neg hs0, castA_h hs]; grind
    · rw [eo, if_neg hs0, if_neg hs0, castA_o (by omega) (by omega) (by omega)]
  -- the wide spaces are never missing
  obtain ⟨aA, bA, -, hbA, -, ebA⟩ := B.hsm j 26 hj (by decide)
  obtain ⟨aB, bB, -, hbB, -, ebB⟩ := B.hsm j 27 hj (by decide)
  obtain ⟨w, hw⟩ := (I.jw hj).1.wide
  have fl := (fl_N (W := (jL ρ j).2.2.2.2) (w := w) (A := bA) (B := bB) (by omega) (by omega) hw _ (Nat.le_refl _)).1
  have ej : jfl ρ nc j (jlen ρ j) (jlay ρ j (jlen ρ j)).1.2.2.1 = (nI (fN w bA bB (jL ρ j).1.2.2.1).1, nI (fN w bA bB (jL ρ j).1.2.2.1).2.1, nI (fN w bA bB (jL ρ j).1.2.2.1).2.2) := by
    unfold jfl
    rw [ebA, ebB]
    exact fl
  have l4 := (fN_le w bA bB (jL ρ j).1.2.2.1).1
  have l2 := (fN_le w bA bB (jL ρ j).1.2.2.1).2
  have k26 : lkF ρ nc j 26 = 0 := by
    unfold lkF
    have e : ndF ρ nc j (jlen ρ j) 26 = nI (fN w bA bB (jL ρ j).1.2.2.1).1 := by unfold ndF; rw [if_neg (by decide), if_pos rfl, ej]
    rw [e, ebA, if_pos ((nle (by omega) (by omega)).mpr l4)]
  have k27 : lkF ρ nc j 27 = 0 := by
    unfold lkF
    have e : ndF ρ nc j (jlen ρ j) 27 = nI (fN w bA bB (jL ρ j).1.2.2.1).2.1 := by unfold ndF; rw [if_neg (by decide), if_neg (by decide), if_pos rfl, ej]
    rw [e, ebB, if_pos ((nle (by omega) (by omega)).mpr l2)]
  have en : ∀ s, ndF (castA ρ hm (lkF ρ nc j)) nc j (jlen (castA ρ hm (lkF ρ nc j)) j) s = ndF ρ nc j (jlen ρ j) s := fun s => by
    show ndC (castA ρ hm (lkF ρ nc j)) j (thr (castA ρ hm (lkF ρ nc j)) nc j 26) (thr (castA ρ hm (lkF ρ nc j)) nc j 27) s = ndC ρ j (thr ρ nc j 26) (thr ρ nc j 27) s
    rw [ndC_same (fun w _ => eo w) (I.jt hj), et 26 (by decide), et 27 (by decide), k26, k27, Int32.add_zero, Int32.add_zero]
  have z : lkN (castA ρ hm (lkF ρ nc j)) nc j = 0 := sm_zero (fun s hs => by
    obtain ⟨a, b, ha, hb, ea, eb⟩ := B.hsm j s hj hs
    have el : lkF ρ nc j s = if nI a ≤ nI b then 0 else nI a - nI b := by unfold lkF; rw [ea, eb]
    show (if ndF _ nc j _ s ≤ thr _ nc j s then 0 else ndF _ nc j _ s - thr _ nc j s) = 0
    rw [en s, et s hs, ea, eb, el]
    by_cases w : a ≤ b
    · rw [if_pos ((nle (by omega) (by omega)).mpr w), Int32.add_zero, if_pos ((nle (by omega) (by omega)).mpr w)]
    · rw [if_neg (fun u => w ((nle (by omega) (by omega)).mp u)), pk_sub (by omega), nI_add, if_pos ((nle (by omega) (by omega)).mpr (by omega))])
  rw [z]; decide
theorem w_jobs18 (C : CR h x σ k) (I : IV (σ 0) t nc nj) (h0 : 0 < nc) (a2 a3 : Int32) (hK : ∀ h', Po x (σ 0) k t h' → K 1 h') : V_L_jobs_18 K x a2 a3 (nI nj) h := by
  have h6 := I.n6
  have h12 := I.n12
  refine w_types C a2 a3 (fun h1 σ1 ty C1 e1 ht h5 hF => ?_)
  have e0 : σ1 0 = σ 0 := e1 0 (by decide) (by decide)
  have I1 : IV (σ1 0) t nc nj := by rw [e0]; exact I
  obtain ⟨⟨d, B1⟩, -⟩ := id I1
  have hK1 : ∀ h', Po x (σ1 0) k t h' → K 1 h' := by rw [e0]; exact hK
  have same : ∀ h', CR h' x σ1 k → K 1 h' := fun h' c => hK1 h' (po_same c I1 h0 h5 ht)
  refine u_count (Qh.rf C1) B1 0 (fun h2 q2 => ?_)
  rw [cv_0, B1.2.2.2.1]
  have l1 := lo_lt (a2 >>> ((4 : Int32) &&& 31)) h0
  have l2 := lo_lt (a3 >>> ((3 : Int32) &&& 31)) (N := 90) (by decide)
  have l3 := lo_lt a2 (N := 40) (by decide)
  refine w_low h0 (by omega) (w_low (N := 90) (by decide) (by decide) (w_low (N := 40) (by decide) (by decide) ?_))
  generalize lo_ (a2 >>> ((4 : Int32) &&& 31)) nc = c at l1 ⊢
  generalize lo_ (a3 >>> ((3 : Int32) &&& 31)) 90 = m at l2 ⊢
  generalize lo_ a2 40 = dd at l3 ⊢
  rw [show (20 : Int32) + nI m = nI (20 + m) from nI_add 20 m]
  have e12 : nI nj = (12 : Int32) ↔ nj = 12 := q12 (by omega)
  refine a_order q2.2 I1 ht h5 hF l1 (by omega) (by omega) (by omega) (fun z h3 c3 => ?_) (fun z h3 c3 => ?_) (fun z h3 σ' c3 a i => ?_)
  · refine u_count (Qh.rf c3) B1 0 (fun h4 q4 => ?_)
    rw [cv_0, B1.2.2.2.1, q0 (by omega)]
    exact ⟨fun _ => ⟨fun _ => ⟨Or.inr rfl, same h4 q4.2⟩, fun w => absurd rfl w⟩, fun w => by omega⟩
  · refine u_count (Qh.rf c3) B1 0 (fun h4 q4 => ?_)
    rw [cv_0, B1.2.2.2.1, q0 (by omega), e12]
    exact ⟨fun _ => ⟨fun w => absurd w (by decide), fun _ => ⟨fun w => absurd z w, fun _ => ⟨fun w => absurd rfl w, fun _ => a_orderX q4.2 I1 ht h5 l1 (fun h6 c6 => ⟨fun w => absurd rfl w, fun _ => ⟨Or.inr rfl, same h6 c6⟩⟩)⟩⟩⟩, fun w => by omega⟩
  · obtain ⟨⟨d', B'⟩, -⟩ := id i
    have h5' : σ' 5 0 = nI ty := by rw [a.2.1 5 (by decide) (by decide)]; exact h5
    refine u_count (Qh.rf c3) B' 0 (fun h4 q4 => ?_)
    rw [cv_0, B'.2.2.2.1, q0 (by omega), e12]
    obtain ⟨o0, o1, o2, o3, -⟩ := @ordR_h (σ1 0) nj ty (nI c) (nI (20 + m)) (nI dd) (σ1 6)
    refine ⟨fun _ => ⟨fun w => ?_, fun _ => ⟨fun _ => ⟨fun w => absurd rfl w, fun _ => u_job (Qh.rf q4.2) B' (Nat.lt_succ_self nj) 0 (fun ha q5 => ?_)⟩, fun w => absurd w z⟩⟩, fun w => by omega⟩
    · exact absurd (show nI nj < 0 by rw [w]; decide) (cn0 (by omega))
    · rw [jv_0, a.1, o0]
      refine ⟨fun w => absurd rfl w, fun _ => u_job (Qh.rf q5.2) B' (Nat.lt_succ_self nj) 3 (fun h6 q6 => ?_)⟩
      rw [jv_3, a.1, o3]
      exact ⟨fun w => absurd rfl w, fun _ => a_orderX q6.2 i ht h5' l1 (fun h7 c7 => ⟨fun w => absurd rfl w, fun _ => ⟨Or.inr rfl, hK1 h7 (po_act c7 a i h0 h5 ht)⟩⟩)⟩
theorem w_jobs (C : CR h x σ k) (I : IV (σ 0) t nc nj) (ht : t < 2 ^ 14) (h0 : 0 < nc) {ty : Nat} (h5 : σ 5 0 = nI ty) (hty : ty ≤ 60) {s : Nat} (hs : s ≤ 15) (a2 a3 : Int32) (hK : s ≠ 12 → ∀ h', Po x (σ 0) k t h' → K 1 h') (hK2 : s = 12 → ∀ h', Pw x t h' → K 1 h') : V_L_jobs x (nI s) a2 a3 h K := by
  obtain ⟨⟨d, B⟩, -, XJs⟩ := id I
  have h6 := I.n6
  have h12 := I.n12
  have eK : ∀ h', Po x (σ 0) k t h' → K 1 h' := fun h' p => by
    by_cases z : s = 12
    · exact hK2 z h' p.w
    · exact hK z h' p
  refine u_count (Qh.rf C) B 1 (fun h1 q1 => ?_)
  rw [cv_1, I.j1, q0 (by omega), show (10 : Int32) ≤ nI s ↔ 10 ≤ s from nI_leI (a := 10) (by decide) (by omega), c12 (by omega), q12 (by omega), show nI s = (13 : Int32) ↔ s = 13 from nI_eq (b := 13) (by omega) (by decide), show nI s = (14 : Int32) ↔ s = 14 from nI_eq (b := 14) (by omega) (by decide)]
  refine ⟨fun _ => w_jobs18 q1.2 I h0 a2 a3 eK, fun z => ⟨fun z10 => ?_, fun _ => w_jobs18 q1.2 I h0 a2 a3 eK⟩⟩
  have hn : 0 < nj := by omega
  have lj := lo_lt a3 hn
  refine w_low hn (by omega) ?_
  generalize lo_ a3 nj = j at lj ⊢
  refine u_job (Qh.rf q1.2) B lj 3 (fun h2 q2 => ?_)
  rw [jv_3]
  obtain ⟨hm, m1, m2⟩ := I.home lj
  obtain ⟨st, s1, s2, s3, s4, s5⟩ := XJs j lj
  have same : ∀ h', CR h' x σ k → K 1 h' := fun h' c => eK h' (po_same c I h0 h5 hty)
  have did : ∀ {ρ' : Row} h' σ', CR h' x σ' (rk k) → Af σ k ρ' σ' → IV (σ' 0) (t + 1) nc nj → K 1 h' := fun h' σ' c a i => eK h' (po_act c a i h0 h5 hty)
  refine ⟨fun z12 => ⟨fun n12 => ⟨fun n13 => u_job (Qh.rf q2.2) B lj 7 (fun h3 q3 => u_count (Qh.rf q3.2) B 10 (fun h4 q4 => ?_)), fun e13 => ?_⟩, fun e12 => ?_⟩, fun n12 => ?_⟩
  · rw [jv_7, cv_10]
    refine ⟨fun n14 => ?_, fun e14 => ?_⟩
    · have le1 : nI st ≤ (1 : Int32) ↔ st ≤ 1 := c1v (by omega)
      refine a_cancel q4.2 I lj s1 s2 (fun w h5 c5 => ?_) (fun w h5' σ' c5 a i => ?_)
      · rw [s2, le1]
        exact ⟨fun w2 => absurd w2 w, fun _ => ⟨fun w2 => absurd rfl w2, fun _ => ⟨Or.inr rfl, same h5 c5⟩⟩⟩
      · obtain ⟨⟨d', B'⟩, -⟩ := id i
        obtain ⟨g1, g2, g3⟩ := gone_facts I (a.1 ▸ i) lj (gone_ex (ur (σ 0) (211 + 272 * j + 3) 4) nc j 0)
        rw [← a.1] at g1 g2 g3
        rw [s2, le1]
        refine ⟨fun _ => u_count (Qh.rf c5) B' 10 (fun h6 q6 => ?_), fun w2 => absurd w w2⟩
        rw [cv_10]
        refine ⟨fun w2 => absurd ?_ w2, fun _ => u_job (Qh.rf q6.2) B' lj 3 (fun h7 q7 => ?_)⟩
        · rw [g1]; grind
        · rw [jv_3]
          refine ⟨fun w2 => absurd g3 w2, fun _ => u_job (Qh.rf q7.2) B' lj 7 (fun h8 q8 => ?_)⟩
          rw [jv_7]
          exact ⟨fun w2 => absurd g2 w2, fun _ => ⟨Or.inr rfl, did h8 σ' q8.2 a i⟩⟩
    · refine a_distribute q4.2 I lj (fun w h5 c5 => ⟨fun w2 => absurd w2 w, fun _ => ⟨fun w2 => absurd rfl w2, fun _ => ⟨Or.inr rfl, same h5 c5⟩⟩⟩) (fun w h5' σ' c5 a i => ?_)
      obtain ⟨⟨d', B'⟩, -⟩ := id i
      obtain ⟨g1, g2, g3⟩ := gone_facts I (a.1 ▸ i) lj (gone_ex (ur (σ 0) (211 + 272 * j + 3) 3) nc j 8)
      rw [← a.1] at g1 g2 g3
      refine ⟨fun _ => u_count (Qh.rf c5) B' 10 (fun h6 q6 => ?_), fun w2 => absurd w w2⟩
      rw [cv_10]
      refine ⟨fun w2 => absurd ?_ w2, fun _ => ⟨fun w2 => absurd w2 (gone_le I lj), fun _ => u_job (Qh.rf q6.2) B' lj 7 (fun h7 q7 => ?_)⟩⟩
      · rw [g1]; grind
      · rw [jv_7]
        refine ⟨fun w2 => absurd g2 w2, fun _ => u_job (Qh.rf q7.2) B' lj 3 (fun h8 q8 => ?_)⟩
        rw [jv_3]
        exact ⟨fun w2 => absurd g3 w2, fun _ => ⟨Or.inr rfl, did h8 σ' q8.2 a i⟩⟩
  · refine u_count (Qh.rf q2.2) B 11 (fun h3 q3 => u_job (Qh.rf q3.2) B lj 2 (fun h4 q4 => ?_))
    rw [cv_11, jv_2]
    refine a_print q4.2 I ht lj (fun w h5 c5 => ⟨fun w2 => absurd w2 w, fun _ => ⟨fun w2 => absurd rfl w2, fun _ => ⟨fun _ => ⟨Or.inr rfl, same h5 c5⟩, fun w2 => absurd w2 w⟩⟩⟩) (fun w h5' σ' c5 a i => ?_)
    obtain ⟨⟨d', B'⟩, -⟩ := id i
    have el : late (σ 0) j = if 0 ≤ σ 0 3 - jb (σ 0) j 2 then σ 0 3 - jb (σ 0) j 2 else 0 := rfl
    have fin : ∀ v, late (σ 0) j = v → V_L_jobs_330 K x (nI j) (jb (σ 0) j 3) (late (σ 0) j) v h5' := fun v ev => by
      refine ⟨fun w2 => absurd ev w2, fun _ => ⟨fun w2 => absurd w w2, fun _ => u_job (Qh.rf c5) B' lj 9 (fun h6 q6 => u_count (Qh.rf q6.2) B' 11 (fun h7 q7 => ?_))⟩⟩
      rw [jv_9, cv_11]
      refine ⟨fun w2 => absurd ?_ w2, fun _ => ⟨Or.inr rfl, did h7 σ' q7.2 a i⟩⟩
      rw [a.1]
      unfold jb
      rw [ur_n (by omega), ur_s, ur_n (by omega), ur_n (by omega), ur_n (by omega)]
    exact ⟨fun _ => ⟨fun w2 => fin _ (by rw [el, if_pos w2]), fun w2 => fin _ (by rw [el, if_neg w2])⟩, fun w2 => absurd w w2⟩
  · refine a_castMissing q2.2 I lj m1 m2 (fun r r1 r2 h3 c3 => ?_) (fun w S S1 S2 h3 σ' c3 a i => ?_)
    · have v209 : V_L_jobs_209 K (jb (σ 0) j 3) r h3 := by
        refine ⟨fun w => ⟨fun w2 => ?_, fun _ => ⟨fun w2 => ?_, fun _ => ⟨Or.inr rfl, same h3 c3⟩⟩⟩, fun w => ⟨fun w2 => absurd (r1 w) w2, fun _ => ⟨Or.inr rfl, same h3 c3⟩⟩⟩
        · exfalso
          rcases r2 with u | u | u <;> rw [u] at w2 <;> exact absurd w2 (by decide)
        · exfalso
          rcases r2 with u | u | u <;> rw [u] at w2 <;> exact absurd w2 (by decide)
      refine ⟨fun _ => v209, fun w => ⟨fun w2 => ?_, fun _ => v209⟩⟩
      exfalso
      rcases r2 with u | u | u <;> rw [u] at w2 <;> exact absurd w2 (by decide)
    · obtain ⟨⟨d', B'⟩, -⟩ := id i
      refine ⟨fun w2 => absurd w w2, fun _ => ⟨fun _ => ⟨fun w2 => ?_, fun _ => ?_⟩, fun w2 => absurd (c0 (by omega)) w2⟩⟩
      · exfalso
        have := (le0 (by omega)).mp w2; omega
      · have eb : ∀ w, jb (σ' 0) j w = jb (σ 0) j w := fun w => by rw [a.1]; exact castA_o (by omega) (by omega) (by omega)
        have hl : lkN (σ' 0) nc j ≤ 0 := by rw [a.1]; exact cast_all I lj m1 w
        have h5' : σ' 5 0 = nI ty := by rw [a.2.1 5 (by decide) (by decide)]; exact h5
        refine w_sets c3 i lj m1 ((eb 0).trans m2) (fun u => absurd ⟨(eb 3).trans w, hl⟩ u) (fun u u2 h4 σ2 c4 a2 i2 => ?_)
        obtain ⟨⟨d2, B2⟩, -⟩ := id i2
        refine ⟨fun w2 => absurd w2 (by decide), fun _ => u_job (Qh.rf c4) B2 lj 3 (fun h5 q5 => ?_)⟩
        rw [jv_3, a2.1]
        refine ⟨fun w2 => absurd (set_ex (σ' 0) nc j hm).2.2.2.1 w2, fun _ => ⟨Or.inr rfl, hK2 e12 h5 ⟨σ2, _, t + 2, nc, nj, ty, q5.2, i2, ?_, hty, h0, Nat.le_refl _⟩⟩⟩
        rw [a2.2.1 5 (by decide) (by decide)]; exact h5'
  · exact w_sets q2.2 I lj m1 m2 (fun u h3 c3 => ⟨Or.inr rfl, same h3 c3⟩) (fun u u2 h3 σ' c3 a i => ⟨Or.inr rfl, did h3 σ' c3 a i⟩)
end JOBS
