/-! the class's calls: set -/
theorem lst_nI {a b : Nat} (ha : a < 2 ^ 31) (hb : b < 2 ^ 31) : lst (nI a) (nI b) = nI (min a b) := by
  unfold lst
  by_cases e : b ≤ a
  · rw [if_pos ((nle hb ha).mpr e), Nat.min_eq_right e]
  · rw [if_neg (fun z => e ((nle hb ha).mp z)), Nat.min_eq_left (by omega)]
theorem lf_nI {ρ : Row} {hm s a : Nat} (ha : a < 2 ^ 30) (hm6 : hm < 6) (hρ : ∀ c, c < 6 → ∃ n, n ≤ 99 ∧ ρ (8 + 29 * c + s) = nI n) : ∀ c, c ≤ 6 → ∃ u, u ≤ a ∧ lf ρ hm s (nI a) c = nI u := by
  intro c
  induction c with
  | zero =>
    intro _
    obtain ⟨n, hn, e⟩ := hρ hm hm6
    refine ⟨a - min a n, by omega, ?_⟩
    show nI a - lst (nI a) (ρ (8 + 29 * hm + s)) = _
    rw [e, lst_nI (by omega) (by omega), pk_sub (Nat.min_le_left a n)]
  | succ c ih =>
    intro hc
    obtain ⟨u, hu, e⟩ := ih (by omega)
    show ∃ v, v ≤ a ∧ lf ρ hm s (nI a) c - (if c = hm then 0 else lst (lf ρ hm s (nI a) c) (ρ (8 + 29 * c + s))) = nI v
    rw [e]
    by_cases q : c = hm
    · rw [if_pos q, Int32.sub_zero]; exact ⟨u, hu, rfl⟩
    · obtain ⟨n, hn, e2⟩ := hρ c (by omega)
      rw [if_neg q, e2, lst_nI (by omega) (by omega), pk_sub (Nat.min_le_left u n)]
      exact ⟨u - min u n, by omega, rfl⟩
theorem tk_nI {ρ : Row} {hm s a c : Nat} (ha : a < 2 ^ 30) (hm6 : hm < 6) (hρ : ∀ c, c < 6 → ∃ n, n ≤ 99 ∧ ρ (8 + 29 * c + s) = nI n) (hc : c < 6) : ∃ u v, ρ (8 + 29 * c + s) = nI v ∧ v ≤ 99 ∧ u ≤ v ∧ tk ρ hm s (nI a) c = nI u := by
  obtain ⟨n, hn, e⟩ := hρ c hc
  unfold tk
  by_cases q : c = hm
  · subst q
    rw [if_pos rfl]
    unfold tkh
    rw [e, lst_nI (by omega) (by omega)]
    exact ⟨min a n, n, rfl, hn, Nat.min_le_right a n, rfl⟩
  · obtain ⟨u, hu, e2⟩ := lf_nI ha hm6 hρ c (by omega)
    rw [if_neg q, e, e2, lst_nI (by omega) (by omega)]
    exact ⟨min u n, n, rfl, hn, Nat.min_le_right u n, rfl⟩
theorem tk_0 {ρ : Row} {hm s a c : Nat} (ha : a < 2 ^ 30) (hm6 : hm < 6) (hρ : ∀ c, c < 6 → ∃ n, n ≤ 99 ∧ ρ (8 + 29 * c + s) = nI n) (hc : c < 6) (hz : ρ (8 + 29 * c + s) = 0) : tk ρ hm s (nI a) c = 0 := by
  obtain ⟨u, v, e1, e2, e3, e4⟩ := tk_nI ha hm6 hρ hc
  rw [hz] at e1
  have : v = 0 := (q0 (by omega)).mp e1.symm
  rw [e4, show u = 0 by omega]; rfl
theorem sm_nI {n : Nat} {f : Nat → Int32} {M : Nat → Nat} {B : Nat} (h : ∀ i, i < n → f i = nI (M i) ∧ M i ≤ B) : ∃ S, sm n f = nI S ∧ S ≤ n * B ∧ ∀ i, i < n → M i ≤ S := by
  induction n with
  | zero => exact ⟨0, rfl, Nat.zero_le _, fun i hi => absurd hi (Nat.not_lt_zero _)⟩
  | succ n ih =>
    obtain ⟨S, e1, e2, e3⟩ := ih (fun i hi => h i (by omega))
    obtain ⟨a, b⟩ := h n (by omega)
    refine ⟨S + M n, by rw [smS, e1, a, nI_add], by rw [Nat.succ_mul]; omega, fun i hi => ?_⟩
    by_cases q : i = n
    · rw [q]; omega
    · have := e3 i (by omega); omega
theorem k_jInitM {h1 hB : Hp} {x q o t : Nat} {st pr : Int32} {K : Hp → Prop} (g : HS h1 x) (m : Mv h1 x hB) (hq : q ≠ 0) (hq0 : hK h1 q = 0) (hqk : hK hB q = 2)
    (kk : ∀ h4, Mv h1 x h4 → (∀ c, hK h4 c = hK hB c) → (∀ c, hL h4 c = hL hB c) → (∀ c, c ≠ q → (∀ i, hI h4 c i = hI hB c i) ∧ ∀ i, hR h4 c i = hR hB c i) → hR h4 q 0 = o → hI h4 q 1 = st → hI h4 q 2 = pr → hR h4 q 3 = t → K h4) : V_X1_init q o st pr t hB K := by
  refine ⟨hq, hqk, fun h1 e1 => ⟨by rw [e1]; exact hqk, fun h2 e2 => ⟨by rw [e2, e1]; exact hqk, fun h3 e3 => ⟨by rw [e3, e2, e1]; exact hqk, fun h4 e4 => ?_⟩⟩⟩⟩
  refine kk h4 ?_ (fun c => by rw [e4, e3, e2, e1]; rfl) (fun c => by rw [e4, e3, e2, e1]; rfl) (fun c hc => ⟨fun i => ?_, fun i => ?_⟩) ?_ ?_ ?_ ?_
  · rw [e4, e3, e2, e1]
    exact (((m.r hq0 g).i hq0).i hq0).r hq0 g
  · rw [e4, hI_sR, e3, hI_sI, if_neg (fun z => hc z.1), e2, hI_sI, if_neg (fun z => hc z.1), e1, hI_sR]
  · rw [e4, hR_sR, if_neg (fun z => hc z.1), e3, hR_sI, e2, hR_sI, e1, hR_sR, if_neg (fun z => hc z.1)]
  · rw [e4, hR_sR, if_neg (fun z => by omega), e3, hR_sI, e2, hR_sI, e1, hR_sR, if_pos ⟨rfl, rfl⟩]
  · rw [e4, hI_sR, e3, hI_sI, if_neg (fun z => by omega), e2, hI_sI, if_pos ⟨rfl, rfl⟩]
  · rw [e4, hI_sR, e3, hI_sI, if_pos ⟨rfl, rfl⟩]
  · rw [e4, hR_sR, if_pos ⟨rfl, rfl⟩]
/-- a row of a job that is set, for the class's eyes -/
def setE (ρ : Row) (j : Nat) (T : Nat → Nat → Int32) : Row := fun y => if 211 + 272 * j + 67 ≤ y ∧ y < 211 + 272 * j + 241 then T ((y - (211 + 272 * j + 67)) / 29) ((y - (211 + 272 * j + 67)) % 29) else if y = 211 + 272 * j + 3 then 1 else ρ y
theorem setE_fm (ρ : Row) (j : Nat) (T : Nat → Nat → Int32) {c s : Nat} (hc : c < 6) (hs : s < 29) : fm (setE ρ j T) j c s = T c s := by
  unfold fm setE
  rw [if_pos (by omega), show (211 + 272 * j + (67 + 29 * c + s) - (211 + 272 * j + 67)) / 29 = c by omega, show (211 + 272 * j + (67 + 29 * c + s) - (211 + 272 * j + 67)) % 29 = s by omega]
theorem setE_o (ρ : Row) (j : Nat) (T : Nat → Nat → Int32) {y : Nat} (h1 : ¬ (211 + 272 * j + 67 ≤ y ∧ y < 211 + 272 * j + 241)) (h2 : y ≠ 211 + 272 * j + 3) : setE ρ j T y = ρ y := by
  unfold setE
  rw [if_neg h1, if_neg h2]
section CSET
variable {h : Hp} {x : Nat} {σ : Nat → Nat → Int32} {k : Nat} {K : Int32 → Hp → Prop}
theorem brw_eq {ρ : Row} {hm nc : Nat} (h6 : nc ≤ 6) (hm6 : hm < 6) (w : Nat → Nat) (hw : ∀ s, s < 29 → w s < 2 ^ 30) (hρ : ∀ c s, c < 6 → s < 29 → ∃ n, n ≤ 99 ∧ ρ (8 + 29 * c + s) = nI n) (z1 : ∀ c s, nc ≤ c → c < 6 → s < 29 → ρ (8 + 29 * c + s) = 0) :
    sm 6 (fun c => sm 29 (fun s => tk ρ hm s (nI (w s)) c)) - sm 29 (fun s => tk ρ hm s (nI (w s)) hm) = sm 29 (fun s => brw ρ hm s (nI (w s)) nc) := by
  rw [sm_but hm6 (fun c => sm 29 (fun s => tk ρ hm s (nI (w s)) c)), add_sub_c]
  rw [sm_congr (show ∀ c, c < 6 → (if c = hm then 0 else sm 29 (fun s => tk ρ hm s (nI (w s)) c)) = sm 29 (fun s => if c = hm then 0 else tk ρ hm s (nI (w s)) c) from fun c hc => by
    by_cases e : c = hm
    · rw [if_pos e, sm_zero (fun s _ => if_pos e)]
    · rw [if_neg e]; exact sm_congr (fun s _ => (if_neg e).symm)), sm_swap 6 29 (fun c s => if c = hm then 0 else tk ρ hm s (nI (w s)) c)]
  refine sm_congr (fun s hs => ?_)
  rw [sm_ext h6 (fun c a b => by
    by_cases e : c = hm
    · rw [if_pos e]
    · rw [if_neg e]; exact tk_0 (hw s hs) hm6 (fun c hc => hρ c s hc hs) b (z1 c s a b hs))]
  refine sm_congr (fun c hc => ?_)
  by_cases e : c = hm
  · rw [if_pos e, if_pos e]
  · rw [if_neg e, if_neg e]
    exact if_neg e
theorem k_set (C : CR h x σ k) {nc nj : Nat} (hc6 : nc ≤ 6) (hj : σ 0 1 = nI nj) (h12 : nj ≤ 12) (hH : ∀ j, j < nj → ∃ c, c < 6 ∧ jb (σ 0) j 0 = nI c) (z1 : ∀ c s, nc ≤ c → c < 6 → s < 29 → σ 0 (8 + 29 * c + s) = 0) (z2 : ∀ j c s, j < nj → nc ≤ c → c < 6 → s < 29 → fm (σ 0) j c s = 0) (z3 : ∀ j, j < nj → ¬ (jb (σ 0) j 3 = 1 ∨ jb (σ 0) j 3 = 2) → ∀ c s, c < 6 → s < 29 → fm (σ 0) j c s = 0)
    (z4 : ∀ j, j < nj → (jb (σ 0) j 3 = 0 ∨ jb (σ 0) j 3 = 1) → jb (σ 0) j 4 = -5) (h99 : ∀ c s, c < 6 → s < 29 → ∃ n, n ≤ 99 ∧ σ 0 (8 + 29 * c + s) = nI n)
    (hsm : ∀ j s, j < nj → s < 29 → ∃ a b, a < 2 ^ 20 ∧ b < 2 ^ 20 ∧ ndF (σ 0) nc j (jlen (σ 0) j) s = nI a ∧ thr (σ 0) nc j s = nI b) (a : Int32) (hO : OC h x σ k K (sp_set (σ 0) nc a)) : V_X6_set x a h K := by
  unfold V_X6_set
  unfold sp_set at hO
  refine ⟨C.n.1, C.n.2.1, k_findJob C hj h12 a (fun hb => ?_) (fun j j1 j2 ja hb hbi jt J J0 => ?_)⟩
  · rw [if_pos hb] at hO
    exact ⟨fun z => absurd rfl z, fun _ => hO.no (FR.rf h) C⟩
  · rw [if_neg hb, hbi] at hO
    generalize hR h (hR h (hR h x 1) 2) j = c at J J0 ⊢
    refine ⟨fun _ => ⟨J.1, ?_⟩, fun z => absurd z J0⟩
    rw [J.2.2.1]
    refine ⟨fun q => ⟨C.n.1, ?_⟩, fun q => ?_⟩
    · rw [if_pos q] at hO
      subst ja
      refine k_reckC C hc6 J jt z1 (fun c s => z2 j c s j1) (z3 j j1) (fun h1 φ1 y1 C1 f1 e1 => ⟨30, ?_⟩)
      obtain ⟨hm, hm6, hh⟩ := hH j j1
      rw [hh, ix_nI (by omega)] at hO
      have hsj : ∀ s, ∃ a b, s < 29 → a < 2 ^ 20 ∧ b < 2 ^ 20 ∧ ndF (σ 0) nc j (jlen (σ 0) j) s = nI a ∧ thr (σ 0) nc j s = nI b := fun s => by
        by_cases hs : s < 29
        · obtain ⟨a, b, p⟩ := hsm j s j1 hs
          exact ⟨a, b, fun _ => p⟩
        · exact ⟨0, 0, fun z => absurd z hs⟩
      have ⟨wA, hwA⟩ := Classical.axiomOfChoice hsj
      have ⟨wB, hw⟩ := Classical.axiomOfChoice hwA
      have lk : ∀ s, s < 29 → lkF (σ 0) nc j s = nI (wA s - wB s) ∧ wA s - wB s ≤ 2 ^ 20 := fun s hs => by
        obtain ⟨a1, a2, a3, a4⟩ := hw s hs
        refine ⟨?_, by omega⟩
        unfold lkF
        rw [a3, a4]
        by_cases e : wA s ≤ wB s
        · rw [if_pos ((nle (by omega) (by omega)).mpr e), show wA s - wB s = 0 by omega]; rfl
        · rw [if_neg (fun z => e ((nle (by omega) (by omega)).mp z)), pk_sub (by omega)]
      obtain ⟨S, s1, s2, s3⟩ := sm_nI lk
      have s1' : lkN (σ 0) nc j = nI S := s1
      rw [s1'] at hO
      have ml : ∀ {h2 : Hp} {i : Nat}, h2 = h1 → i < 29 → ∀ {KK : Int32 → Hp → Prop}, V_X6_missingOf x (nI i) h2 KK ↔ KK (lkF (σ 0) nc j i) h2 := fun {h2 i} e hi {KK} => by
        subst e
        rw [k_missingOf y1 hi, (e1 i hi).1, (e1 i hi).2]
        obtain ⟨a1, a2, a3, a4⟩ := hw i hi
        unfold lkF
        rw [a3, a4, mis_eq (by omega) (by omega)]
      have key : ∀ (d i n : Nat), i + d = 29 → d < n → (∀ u, u < i → wA u - wB u = 0) → V_X6_set_32 K n x (nI j) c (nI i) h1 := by
        intro d
        induction d with
        | zero =>
          intro i n p1 p2 g
          obtain ⟨n, rfl⟩ : ∃ k, n = k + 1 := ⟨n - 1, by omega⟩
          obtain rfl : i = 29 := by omega
          refine ⟨fun _ => ⟨y1.K 7 rfl, ?_⟩, fun z => absurd (by decide) z⟩
          have S0 : S ≤ 0 := by
            have : sm 29 (lkF (σ 0) nc j) = 0 := sm_zero (fun s hs => by rw [(lk s hs).1, g s hs]; rfl)
            rw [this] at s1
            exact Nat.le_of_eq ((q0 (by omega)).mp s1.symm)
          rw [if_pos ((le0 (by omega)).mpr S0)] at hO
          have k37 : ∀ s, s < 29 → hI h1 (xc h1 x 0 37) s = nI (wA s) := fun s hs => by
            rw [y1.xs.2 37 rfl, y1.I 37 rfl, (e1 s hs).2, (hw s hs).2.2.1]
          refine k_act C1 (fun g0 g1 f2 ce S1 fin q1 n1 zq1 h3 e3 => ?_)
          have J1 := J.fr (f1.tr f2)
          have o3 : Old g0 h3 := by rw [e3]; exact (Old.rf g0).n zq1
          have kq3 : hK h3 q1 = 2 := by rw [e3, hK_nN, if_pos rfl]
          have m3 : Mv g0 x h3 := by rw [e3]; exact (Mv.rf g1).n zq1 (by decide) g1
          have oc := o3 c (by rw [J1.1]; decide)
          have ooc := o3 (hR g0 c 0) (by rw [J1.2.1.1]; decide)
          have k23 := g1.2.2.1.1
          have y0 : XB g0 x (hR g0 x 2) (fun n i => hI g0 (xc g0 x (hR g0 x 2) n) i) g0 := XB.of g1.1 (by rw [k23]; rfl)
          obtain ⟨φ3, y3, p3, -⟩ := y0.nw zq1 (k1 := 2) (n1 := 0) q1 (by rw [hK_nN, if_pos rfl]; rfl)
          rw [← e3] at y3
          have v35 : ∀ i, i < 174 → φ3 35 i = σ 0 (8 + i) := fun i hi => by
            rw [p3 35 rfl]; exact S1.2.2.1 i hi
          have v37 : ∀ s, s < 29 → φ3 37 s = nI (wA s) := fun s hs => by
            rw [p3 37 rfl]
            show hI g0 (xc g0 x (hR g0 x 2) 37) s = _
            rw [xc_q _ rfl, (ce 37 rfl).1, (ce 37 rfl).2 (by decide)]
            exact k37 s hs
          refine ⟨oc.1.trans J1.1, oc.1.trans J1.1, by rw [oc.2.2.2, ooc.1]; exact J1.2.1.1, y3.K 7 rfl, ?_⟩
          rw [oc.2.2.2, ooc.2.2.1, J1.2.1.2.1, hh]
          refine k_takeNeeded (ρ := σ 0) y3 hm6 (fun cc s a b => by rw [v35 _ (by omega), show 8 + (29 * cc + s) = 8 + 29 * cc + s by omega]) (fun qt h4 h5 φ5 nt zt e4 y5 p5 t5 => ?_)
          have zt0 : hK g0 qt = 0 := o3.z zt
          have m4 : Mv g0 x h4 := by rw [e4]; exact m3.n zt (by decide) g1
          obtain ⟨φ4, y4, p4, -⟩ := y3.nw zt (k1 := 20) (n1 := 174) qt (by rw [hK_nN, if_pos rfl]; rfl)
          rw [← e4] at y4
          have m5 : Mv g0 x h5 := m4.xb g1 y4 y5 (fun n hn => by
            have hx : xk n = true := by rcases hn with e | e | e <;> subst e <;> rfl
            rw [p5 n hx (by omega), p4 n hx]) (Or.inl zt0)
          have dq : q1 ≠ qt := fun e => by rw [← e, kq3] at zt; omega
          have kq5 : hK h5 q1 = 2 := by rw [y5.2.2.2.1, e4, hK_nN, if_neg dq]; exact kq3
          have kt5 : hK h5 qt = 20 := by rw [y5.2.2.2.1, e4, hK_nN, if_pos rfl]
          have lt5 : hL h5 qt = 174 := by rw [y5.2.2.2.2.1, e4, hL_nN, if_pos rfl]
          have r5 : ∀ cc, hK g0 cc ≠ 0 → ∀ i, hR h5 cc i = hR g0 cc i := fun cc hc i => by
            rw [y5.2.2.2.2.2.1, e4, hR_nN, if_neg (fun e => hc (by rw [e]; exact zt0))]
            exact (o3 cc hc).2.2.2 i
          refine ⟨n1, k_jInitM g1 m5 n1 zq1 kq5 (fun h6 m6 k6 l6 w6 r0 i1 i2 r3 => ?_)⟩
          obtain ⟨t1, t2, t3⟩ := m6.k7 g1
          have k22 := (g1.2.1.1 _ g1.kn).2.2.1
          refine ⟨t1, by rw [t2]; exact t3, ?_⟩
          rw [t2]
          have nq : q1 ≠ hR g0 (hR g0 x 1) 2 := fun e => by rw [e, k22] at zq1; omega
          refine k_pJob g1 m6 (fun i => by rw [(w6 _ nq.symm).2, r5 _ (by rw [k22]; decide)]) (Old.rf h6) (fun _ z => z) (by rw [k6]; exact kq5) j2 (fun h7 m7 k7 l7 v7 r7 ht => ?_)
          have f7 := m7.fr g1
          have kq7 : hK h7 q1 = 2 := by rw [k7, k6]; exact kq5
          have nt7 : qt ≠ hR g0 (hR g0 x 1) 2 := fun e => by rw [e, k22] at zt0; omega
          have wE : ∀ s, s < 29 → nS (σ 0) nc j s = nI (wA s) := fun s hs => (hw s hs).2.2.1
          have hρ : ∀ s, s < 29 → ∀ c, c < 6 → ∃ n, n ≤ 99 ∧ σ 0 (8 + 29 * c + s) = nI n := fun s hs c hc => h99 c s hc hs
          have fz := z3 j j1 (fun z => by rw [q] at z; exact absurd z (by decide))
          have tz : ∀ cc s, cc < 6 → s < 29 → ¬ (cc = hm ∨ cc < nc) → tk (σ 0) hm s (nI (wA s)) cc = 0 := fun cc s a b e => tk_0 (by have := (hw s b).1; omega) hm6 (hρ s b) a (z1 cc s (by omega) a b)
          have p4j := z4 j j1 (Or.inl q)
          -- a row that looks like a job that is set
          have newOf : ∀ R : Row, (∀ w, (w < 3 ∨ (6 ≤ w ∧ w < 67)) → jb R j w = jb (σ 0) j w) → jb R j 3 = 1 → jb R j 4 = -5 → (∀ cc s, cc < 6 → s < 29 → fm R j cc s = tk (σ 0) hm s (nI (wA s)) cc) → JT R j ∧ JobN h7 R j q1 := by
            intro R a b d e
            refine ⟨(JT.same a jt).2.2, ⟨kq7, ?_, ?_, ?_, ?_⟩, n1⟩
            · rw [r7 q1 nq, r0]
              exact (J1.2.1.fr f7).same a jt
            · rw [v7, i1, b]
            · rw [v7, i2, d]
            · rw [r7 q1 nq, r3]
              refine ⟨by rw [k7, k6]; exact kt5, Or.inl (by rw [l7, l6]; exact lt5), fun cc s z y => ?_⟩
              rw [show hL h7 qt = 174 by rw [l7, l6]; exact lt5, if_pos (by omega), v7, (w6 qt dq.symm).1, y5.Iq, (t5 cc s z y).2, v37 s y, e cc s z y]
          have nE := newOf (setE (σ 0) j (fun cc s => tk (σ 0) hm s (nI (wA s)) cc)) (fun w hw => setE_o _ _ _ (by omega) (by omega)) (by unfold jb setE; rw [if_neg (by omega), if_pos rfl]) ((setE_o _ _ _ (by omega) (by omega)).trans p4j) (fun cc s a b => setE_fm _ _ _ a b)
          have hhE : jb (setE (σ 0) j (fun cc s => tk (σ 0) hm s (nI (wA s)) cc)) j 0 = nI hm := (setE_o _ _ _ (by omega) (by omega)).trans hh
          refine ⟨kq7, k_borrowed nE.2.1 hhE hm6 ?_⟩
          rw [sm_congr (show ∀ cc, cc < 6 → sm 29 (fun s => fm (setE (σ 0) j (fun cc s => tk (σ 0) hm s (nI (wA s)) cc)) j cc s) = sm 29 (fun s => tk (σ 0) hm s (nI (wA s)) cc) from fun cc a => sm_congr (fun s b => setE_fm _ _ _ a b)), sm_congr (show ∀ s, s < 29 → fm (setE (σ 0) j (fun cc s => tk (σ 0) hm s (nI (wA s)) cc)) j hm s = tk (σ 0) hm s (nI (wA s)) hm from fun s b => setE_fm _ _ _ hm6 b), brw_eq hc6 hm6 wA (fun s hs => by have := (hw s hs).1; omega) h99 z1]
          rw [sm_congr (show ∀ s, s < 29 → brw (σ 0) hm s (nI (wA s)) nc = brw (σ 0) hm s (nS (σ 0) nc j s) nc from fun s hs => by rw [wE s hs])]
          refine oc_fin hO ⟨(f1.tr f2).tr f7, fin h7 _ m7 (fun ρ' hp => ?_)⟩
          obtain ⟨r1, r2, r3', r4, r5'⟩ := hp
          have hng : (jL (σ 0) j).1.2.2.1 ≤ 30 := (lay_bound (meas := jb (σ 0) j 1) jt.2).2
          have eR : ∀ y, (y < 8 ∨ (182 ≤ y ∧ (y < 211 + 272 * j + 67 ∨ 211 + 272 * j + 272 ≤ y))) → y ≠ 211 + 272 * j + 3 → ρ' y = σ 0 y := fun y a b => r5' y (fun c s hc hs => ⟨by omega, by omega⟩) (fun g hg => by omega) b
          have vO : ∀ c, hK g0 c ≠ 0 → ∀ i, hI h7 c i = hI h5 c i := fun c hc i => by rw [v7, (w6 c (fun e => hc (by rw [e]; exact zq1))).1]
          have x5 : ∀ n, xk n = true → xc h4 x 0 n = xc g0 x 0 n := fun n hn => (m4.cells g1).2.2.2.1 n hn
          obtain ⟨⟨a1, -⟩, ⟨a3, -⟩, -⟩ := g1.2.1.1 _ g1.kn
          refine st_put g1 S1 m7 (fun i hi => ?_) (fun i hi => ?_) (fun i hi => ?_) (fun i _ _ hl => by rw [eR 1 (by omega) (by omega)] at hl; exact hl) ht (fun i hi hne w hw => eR _ (by omega) (by omega)) (newOf ρ' (fun w hw => eR _ (by omega) (by omega)) r4 ((eR _ (by omega) (by omega)).trans p4j) (fun cc s a b => ?_))
          · rw [vO _ (by rw [g1.kn]; decide), eR i (by omega) (by omega), show hR g0 x 1 = xc h4 x 0 6 from (x5 6 rfl).symm, y5.I 6 rfl, p5 6 rfl (by decide), p3 6 rfl]
            exact S1.2.1 i hi
          · rw [vO _ (by rw [a1]; decide), show hR g0 (hR g0 x 1) 0 = xc h4 x 0 35 from (x5 35 rfl).symm, y5.I 35 rfl]
            obtain ⟨c0, s0, hc0, hs0, rfl⟩ : ∃ c0 s0, c0 < 6 ∧ s0 < 29 ∧ i = 29 * c0 + s0 := ⟨i / 29, i % 29, by omega, by omega, by omega⟩
            rw [(t5 c0 s0 hc0 hs0).1, show 8 + (29 * c0 + s0) = 8 + 29 * c0 + s0 by omega, r1 c0 s0 hc0 hs0, v37 s0 hs0, wE s0 hs0]
            by_cases e : c0 = hm ∨ c0 < nc
            · rw [if_pos e]
            · rw [if_neg e, tz c0 s0 hc0 hs0 e, Int32.sub_zero]
          · rw [vO _ (by rw [a3]; decide), eR _ (by omega) (by omega), show hR g0 (hR g0 x 1) 1 = xc h4 x 0 36 from (x5 36 rfl).symm, y5.I 36 rfl, p5 36 rfl (by decide), p3 36 rfl]
            exact S1.2.2.2.1 i hi
          · rw [r2 cc s a b, fz cc s a b, wE s b]
            by_cases e : cc = hm ∨ cc < nc
            · rw [if_pos e, Int32.zero_add]
            · rw [if_neg e, tz cc s a b e]
        | succ d ih =>
          intro i n p1 p2 g
          obtain ⟨n, rfl⟩ : ∃ k, n = k + 1 := ⟨n - 1, by omega⟩
          unfold V_X6_set_32
          rw [c29 (by omega), ml rfl (by omega), (lk i (by omega)).1, le0 (by have := (lk i (by omega)).2; omega), nI_1]
          refine ⟨fun z => absurd z (by omega), fun _ => ⟨y1.K 7 rfl, fun z => ?_, fun z => ?_⟩⟩
          · refine ih (i + 1) n (by omega) (by omega) (fun u hu => ?_)
            by_cases e : u = i
            · rw [e]; omega
            · exact g u (by omega)
          · rw [if_neg (fun w => by have := s3 i (by omega); have := (le0 (by omega)).mp w; omega)] at hO
            exact hO.no f1 C1
      exact key 29 0 30 rfl (by decide) (fun u hu => absurd hu (Nat.not_lt_zero _))
    · rw [if_neg q] at hO
      exact hO.no (FR.rf h) C
end CSET
