/-! the law's view of the class: its acts -/
/-- σ' is σ with the row ρ', the row that was is recorded -/
def Af (σ : Nat → Nat → Int32) (k : Nat) (ρ' : Row) (σ' : Nat → Nat → Int32) : Prop := σ' 0 = ρ' ∧ (∀ f, 3 ≤ f → f ≤ 6 → σ' f = σ f) ∧ ∀ y, y < 3475 → σ' 1 (3475 * (rk k - 1) + y) = σ 0 y
section ACTS
variable {hh h : Hp} {x k t nc nj : Nat} {σ : Nat → Nat → Int32} {K : Int32 → Hp → Prop}
theorem rk_pos (k : Nat) : 0 < rk k := by unfold rk; split <;> omega
theorem oc_act {o : Ans} (hno : ∀ r, o = no r → ∀ h', FR h h' → CR h' x σ k → K r h') (hdid : ∀ r P, o = did r P → ∃ ρ', P ρ' ∧ ∀ h' σ', FR h h' → CR h' x σ' (rk k) → Af σ k ρ' σ' → K r h') : OC h x σ k K o := by
  intro h' f c
  obtain ⟨r, P⟩ := o
  cases P with
  | none => exact hno r rfl h' f c
  | some P =>
    obtain ⟨ρ', hp, kk⟩ := hdid r P rfl
    obtain ⟨σ', A, e⟩ := act_ex σ k ρ'
    have hr := rk_pos k
    refine kk h' σ' f (c σ' ⟨by rw [e]; exact hp, A.2⟩) ⟨e, A.2.2.2, fun y hy => ?_⟩
    rw [A.2.2.1 (rk k - 1) (by omega) y hy, if_pos (by omega)]
theorem oc_did {r : Int32} {P : Row → Prop} {ρ' : Row} (hp : P ρ') (kk : ∀ h' σ', FR h h' → CR h' x σ' (rk k) → Af σ k ρ' σ' → K r h') : OC h x σ k K (did r P) :=
  oc_act (fun r' e => by cases e) (fun r' P' e => by cases e; exact ⟨ρ', hp, kk⟩)
theorem oc_no {r : Int32} (kk : ∀ h', FR h h' → CR h' x σ k → K r h') : OC h x σ k K (no r) := kk
theorem small1 {m N : Nat} {v : Int32} (hv : v = nI N) (h1 : 1 ≤ m) (h2 : m ≤ N) (hN : N < 2 ^ 31) : ¬ (nI m < 1 ∨ v < nI m) := by
  subst hv
  rintro (z | z)
  · have := (nI_ltI (a := m) (b := 1) (by omega) (by decide)).mp z; omega
  · have := (nI_ltI (a := N) (b := m) (by omega) (by omega)).mp z; omega
theorem a_buy (C : CR h x σ k) (I : IV (σ 0) t nc nj) {m : Nat} (h1 : 1 ≤ m) (h2 : m ≤ 20000) (hno : ¬ σ 0 2 + nI m ≤ 100000 → ∀ h', CR h' x σ k → K (-3) h') (hdid : σ 0 2 + nI m ≤ 100000 → ∀ h' σ', CR h' x σ' (rk k) → Af σ k (ur (ur (σ 0) 2 (σ 0 2 + nI m)) 4 (σ 0 4 + nI m)) σ' → IV (σ' 0) (t + 1) nc nj → K (σ 0 2 + nI m) h') : hK h x = 7 ∧ V_X6_buy x (nI m) h K := by
  have G := ga_buy I.wf (nI m)
  refine ⟨C.1.kx, k_buy C _ ?_⟩
  unfold sp_buy at G ⊢
  rw [if_neg (small1 (v := 20000) (N := 20000) rfl h1 h2 (by decide))] at G ⊢
  by_cases z : σ 0 2 + nI m ≤ 100000
  · rw [if_pos z] at G ⊢
    refine oc_did rfl (fun h' σ' f c a => hdid z h' σ' c a ?_)
    rw [a.1]
    exact I.low (G _ rfl _ rfl) (by rw [ur_n (by decide), ur_n (by decide)]; exact I.c0) (by have := I.n6; omega) (by rw [ur_n (by decide), ur_n (by decide)]) (fun y hy => by rw [ur_n (by omega), ur_n (by omega)]) (xc_buy I.2.1 rfl)
  · rw [if_neg z]
    exact oc_no (fun h' f c => hno z h' c)
theorem a_buyX (C : CR h x σ k) (hK0 : ∀ h', CR h' x σ k → K (-2) h') : hK h x = 7 ∧ V_X6_buy x 20001 h K := by
  refine ⟨C.1.kx, k_buy C _ ?_⟩
  unfold sp_buy
  rw [if_pos (Or.inr (by decide))]
  exact oc_no (fun h' f c => hK0 h' c)
theorem a_addCase (C : CR h x σ k) (I : IV (σ 0) t nc nj) (hno : nc = 6 → ∀ h', CR h' x σ k → K (-3) h') (hdid : nc ≠ 6 → ∀ h' σ', CR h' x σ' (rk k) → Af σ k (ur (σ 0) 0 (σ 0 0 + 1)) σ' → IV (σ' 0) (t + 1) (nc + 1) nj → K (nI nc) h') : hK h x = 7 ∧ V_X6_addCase x h K := by
  have h6 := I.n6
  have G := ga_addCase I.wf
  refine ⟨C.1.kx, k_addCase C I.c0 h6 ?_⟩
  unfold sp_addCase at G ⊢
  by_cases z : nc = 6
  · rw [if_pos (by rw [I.c0, z]; rfl)]
    exact oc_no (fun h' f c => hno z h' c)
  · have z' : ¬ σ 0 0 = 6 := fun w => z ((q6 (by omega)).mp (I.c0.symm.trans w))
    rw [if_neg z'] at G ⊢
    refine oc_did rfl (fun h' σ' f c a => ?_)
    rw [I.c0]
    refine hdid z h' σ' c a ?_
    rw [a.1]
    exact I.low (G _ rfl _ rfl) (by rw [ur_s, I.c0, nI_1]) (by omega) (ur_n (by decide)) (fun y hy => ur_n (by omega)) (xc_at I.2.1 (Or.inl rfl))
theorem oc_castW (I : IV (σ 0) t nc nj) {c : Nat} (hc : c < nc) {w : Nat → Int32} (hw : ∀ s, s < 29 → ∃ v, v < 2 ^ 20 ∧ w s = nI v) {r : Int32} (hfull : anyFull (σ 0) c w = true → ∀ h', CR h' x σ k → K (-3) h') (hpoor : ¬ anyFull (σ 0) c w = true → ¬ sm 29 (fun s => w s * wd s) ≤ σ 0 2 → ∀ h', CR h' x σ k → K (-4) h')
    (hdid : ¬ anyFull (σ 0) c w = true → sm 29 (fun s => w s * wd s) ≤ σ 0 2 → ∀ h' σ', CR h' x σ' (rk k) → Af σ k (castA (σ 0) c w) σ' → IV (σ' 0) (t + 1) nc nj → K r h') : OC h x σ k K (castW (σ 0) c w r) := by
  have h6 := I.n6
  have G := ga_castW I.wf I.c0 h6 hc hw r
  unfold castW at G ⊢
  by_cases z : anyFull (σ 0) c w = true
  · rw [if_pos z]
    exact oc_no (fun h' f c => hfull z h' c)
  · rw [if_neg z] at G ⊢
    by_cases z2 : sm 29 (fun s => w s * wd s) ≤ σ 0 2
    · rw [if_pos z2] at G ⊢
      refine oc_did rfl (fun h' σ' f c' a => hdid z z2 h' σ' c' a ?_)
      rw [a.1]
      exact I.low (G _ rfl _ rfl) ((castA_o (by omega) (by decide) (by decide)).trans I.c0) (by omega) (castA_o (by omega) (by decide) (by decide)) (fun y hy => castA_o (by omega) (by omega) (by omega)) (xc_cast I.2.1 (by omega))
    · rw [if_neg z2]
      exact oc_no (fun h' f c => hpoor z z2 h' c)
theorem anyF_iff {ρ : Row} {c : Nat} {w : Nat → Int32} : anyFull ρ c w = true ↔ ∃ s, s < 29 ∧ 99 < ρ (8 + 29 * c + s) + w s := by
  unfold anyFull
  rw [List.any_eq_true]
  constructor
  · rintro ⟨s, s1, s2⟩
    exact ⟨s, List.mem_range.mp s1, of_decide_eq_true s2⟩
  · rintro ⟨s, s1, s2⟩
    exact ⟨s, List.mem_range.mpr s1, decide_eq_true s2⟩
theorem a_cast (C : CR h x σ k) (I : IV (σ 0) t nc nj) {c s n : Nat} (hc : c < nc) (hs : s < 29) (h1 : 1 ≤ n) (h2 : n ≤ 99) (hfull : ¬ σ 0 (8 + 29 * c + s) + nI n ≤ 99 → ∀ h', CR h' x σ k → K (-3) h') (hpoor : σ 0 (8 + 29 * c + s) + nI n ≤ 99 → ¬ nI n * wd s ≤ σ 0 2 → ∀ h', CR h' x σ k → K (-4) h')
    (hdid : σ 0 (8 + 29 * c + s) + nI n ≤ 99 → nI n * wd s ≤ σ 0 2 → ∀ h' σ', CR h' x σ' (rk k) → Af σ k (castA (σ 0) c (fun t => if t = s then nI n else 0)) σ' → IV (σ' 0) (t + 1) nc nj → K (σ 0 (8 + 29 * c + s) + nI n) h') : hK h x = 7 ∧ V_X6_cast x (nI c) (nI s) (nI n) h K := by
  have h6 := I.n6
  obtain ⟨⟨d, B⟩, -⟩ := id I
  refine ⟨C.1.kx, k_cast C I.c0 h6 _ _ _ ?_⟩
  unfold sp_cast
  rw [if_neg (fun z => z.elim (nbadC B hc) (nbadS hs)), if_neg (small1 (v := 99) (N := 99) rfl h1 h2 (by decide)), ix_nI (by omega), ix_nI (by omega)]
  have eS : sm 29 (fun t => (if t = s then nI n else 0) * wd t) = nI n * wd s := by
    rw [sm_one (k := s) hs (fun i _ z => by rw [if_neg z, Int32.zero_mul]), if_pos rfl]
  have eF : anyFull (σ 0) c (fun t => if t = s then nI n else 0) = true ↔ ¬ σ 0 (8 + 29 * c + s) + nI n ≤ 99 := by
    rw [anyF_iff]
    constructor
    · rintro ⟨u, u1, u2⟩
      by_cases z : u = s
      · subst z; rw [if_pos rfl] at u2; exact Int32.not_le.mpr u2
      · exfalso
        rw [if_neg z, Int32.add_zero] at u2
        exact Int32.not_le.mpr u2 (B.h99 c u (by omega) u1)
    · exact fun z => ⟨s, hs, by rw [if_pos rfl]; exact Int32.not_le.mp z⟩
  refine oc_castW I hc (fun u hu => ?_) (fun z h' c' => hfull (eF.mp z) h' c') (fun z z2 h' c' => hpoor (Classical.not_not.mp (fun w => z (eF.mpr w))) (by rw [eS] at z2; exact z2) h' c') (fun z z2 h' σ' c' a i => hdid (Classical.not_not.mp (fun w => z (eF.mpr w))) (by rw [eS] at z2; exact z2) h' σ' c' a i)
  by_cases z : u = s
  · exact ⟨n, by omega, if_pos z⟩
  · exact ⟨0, by decide, if_neg z⟩
theorem a_cast29 (C : CR h x σ k) (I : IV (σ 0) t nc nj) (b : Int32) (hK0 : ∀ h', CR h' x σ k → K (-1) h') : hK h x = 7 ∧ V_X6_cast x b 29 1 h K := by
  refine ⟨C.1.kx, k_cast C I.c0 I.n6 _ _ _ ?_⟩
  unfold sp_cast
  rw [if_pos (Or.inr (show badS 29 from Or.inr (by decide)))]
  exact oc_no (fun h' f c => hK0 h' c)
theorem fount_nI {n : Nat} (hn : n ≤ 9) (s : Nat) : ∃ v, v < 2 ^ 20 ∧ fount (nI n) s = nI v := by
  unfold fount
  by_cases z : s < 26
  · exact ⟨n, by omega, if_pos z⟩
  · exact ⟨2 * n, by omega, (if_neg z).trans (pk_mul 2 n)⟩
theorem a_castFount (C : CR h x σ k) (I : IV (σ 0) t nc nj) {c n : Nat} (hc : c < nc) (h1 : 1 ≤ n) (h2 : n ≤ 9) (hfull : anyFull (σ 0) c (fount (nI n)) = true → ∀ h', CR h' x σ k → K (-3) h') (hpoor : ¬ sm 29 (fun s => fount (nI n) s * wd s) ≤ σ 0 2 → ∀ h', CR h' x σ k → K (-4) h')
    (hdid : ∀ h' σ', CR h' x σ' (rk k) → Af σ k (castA (σ 0) c (fount (nI n))) σ' → IV (σ' 0) (t + 1) nc nj → K (32 * nI n) h') : hK h x = 7 ∧ V_X6_castFount x (nI c) (nI n) h K := by
  have h6 := I.n6
  obtain ⟨⟨d, B⟩, -⟩ := id I
  refine ⟨C.1.kx, k_castFount C I.c0 h6 _ _ ?_⟩
  unfold sp_castFount
  rw [if_neg (nbadC B hc), if_neg (small1 (v := 9) (N := 9) rfl h1 h2 (by decide)), ix_nI (by omega)]
  exact oc_castW I hc (fun s _ => fount_nI h2 s) hfull (fun _ z h' c' => hpoor z h' c') (fun _ _ h' σ' c' a i => hdid h' σ' c' a i)
theorem a_castFountX (C : CR h x σ k) (I : IV (σ 0) t nc nj) {c : Nat} (hc : c < nc) (hK0 : ∀ h', CR h' x σ k → K (-2) h') : hK h x = 7 ∧ V_X6_castFount x (nI c) 10 h K := by
  obtain ⟨⟨d, B⟩, -⟩ := id I
  refine ⟨C.1.kx, k_castFount C I.c0 I.n6 _ _ ?_⟩
  unfold sp_castFount
  rw [if_neg (nbadC B hc), if_pos (Or.inr (by decide))]
  exact oc_no (fun h' f c => hK0 h' c)
theorem a_melt (C : CR h x σ k) (I : IV (σ 0) t nc nj) {c s n : Nat} (hc : c < nc) (hs : s < 29) (h1 : 1 ≤ n) (h2 : n ≤ 99) (hno : ¬ nI n ≤ σ 0 (8 + 29 * c + s) → ∀ h', CR h' x σ k → K (-4) h')
    (hdid : nI n ≤ σ 0 (8 + 29 * c + s) → ∀ h' σ', CR h' x σ' (rk k) → Af σ k (ur (ur (ur (σ 0) (8 + 29 * c + s) (σ 0 (8 + 29 * c + s) - nI n)) 2 (σ 0 2 + nI n * wd s)) 7 (σ 0 7 + nI n)) σ' → IV (σ' 0) (t + 1) nc nj → K (σ 0 2 + nI n * wd s) h') : hK h x = 7 ∧ V_X6_melt x (nI c) (nI s) (nI n) h K := by
  have h6 := I.n6
  obtain ⟨⟨d, B⟩, -⟩ := id I
  have G := ga_melt I.wf (nI c) (nI s) (nI n)
  refine ⟨C.1.kx, k_melt C I.c0 h6 _ _ _ ?_⟩
  unfold sp_melt at G ⊢
  rw [if_neg (fun z => z.elim (nbadC B hc) (nbadS hs)), if_neg (small1 (v := 99) (N := 99) rfl h1 h2 (by decide)), ix_nI (by omega), ix_nI (by omega)] at G ⊢
  by_cases z : nI n ≤ σ 0 (8 + 29 * c + s)
  · rw [if_pos z] at G ⊢
    refine oc_did rfl (fun h' σ' f c' a => hdid z h' σ' c' a ?_)
    rw [a.1]
    have eo : ∀ y, y ≠ 8 + 29 * c + s → y ≠ 2 → y ≠ 7 → ur (ur (ur (σ 0) (8 + 29 * c + s) (σ 0 (8 + 29 * c + s) - nI n)) 2 (σ 0 2 + nI n * wd s)) 7 (σ 0 7 + nI n) y = σ 0 y := fun y a b d => by rw [ur_n d, ur_n b, ur_n a]
    exact I.low (G _ rfl _ rfl) ((eo 0 (by omega) (by decide) (by decide)).trans I.c0) (by omega) (eo 1 (by omega) (by decide) (by decide)) (fun y hy => eo y (by omega) (by omega) (by omega)) (xc_melt I.2.1 (by omega) hs rfl)
  · rw [if_neg z]
    exact oc_no (fun h' f c => hno z h' c)
theorem a_meltBox (C : CR h x σ k) (I : IV (σ 0) t nc nj) (hno : boxN (σ 0) = 0 → ∀ h', CR h' x σ k → K (-5) h') (hdid : ¬ boxN (σ 0) = 0 → ∀ h' σ', CR h' x σ' (rk k) → Af σ k (mbR (σ 0)) σ' → IV (σ' 0) (t + 1) nc nj → K (boxM (σ 0) - boxM (σ 0) / 50) h') : hK h x = 7 ∧ V_X6_meltBox x h K := by
  have h6 := I.n6
  have G := ga_meltBox I.wf
  refine ⟨C.1.kx, k_meltBox C ?_⟩
  unfold sp_meltBox at G ⊢
  by_cases z : boxN (σ 0) = 0
  · rw [if_pos z]
    exact oc_no (fun h' f c => hno z h' c)
  · rw [if_neg z] at G ⊢
    refine oc_did (ρ' := mbR (σ 0)) rfl (fun h' σ' f c' a => hdid z h' σ' c' a ?_)
    rw [a.1]
    have eo : ∀ y, ¬ (182 ≤ y ∧ y < 211) → y ≠ 5 → y ≠ 2 → y ≠ 7 → mbR (σ 0) y = σ 0 y := fun y a b d f => by rw [mbR_e, if_neg a, if_neg b, if_neg d, if_neg f]
    exact I.low (G _ rfl _ rfl) ((eo 0 (by omega) (by decide) (by decide) (by decide)).trans I.c0) (by omega) (eo 1 (by omega) (by decide) (by decide) (by decide)) (fun y hy => eo y (by omega) (by omega) (by omega) (by omega)) (xc_meltBox I.2.1 rfl)
theorem a_pass (C : CR h x σ k) (I : IV (σ 0) t nc nj) {m : Nat} (h1 : 1 ≤ m) (h2 : m ≤ 30) (hdid : ∀ h' σ', CR h' x σ' (rk k) → Af σ k (ur (σ 0) 3 (σ 0 3 + nI m)) σ' → IV (σ' 0) (t + 1) nc nj → K (σ 0 3 + nI m) h') : hK h x = 7 ∧ V_X6_pass x (nI m) h K := by
  have h6 := I.n6
  have G := ga_pass I.wf (nI m)
  refine ⟨C.1.kx, k_pass C _ ?_⟩
  unfold sp_pass at G ⊢
  rw [if_neg (small1 (v := 30) (N := 30) rfl h1 h2 (by decide))] at G ⊢
  refine oc_did rfl (fun h' σ' f c' a => hdid h' σ' c' a ?_)
  rw [a.1]
  exact I.low (G _ rfl _ rfl) ((ur_n (by decide)).trans I.c0) (by omega) (ur_n (by decide)) (fun y hy => ur_n (by omega)) (xc_at I.2.1 (Or.inr rfl))
theorem a_passX (C : CR h x σ k) (hK0 : ∀ h', CR h' x σ k → K (-2) h') : hK h x = 7 ∧ V_X6_pass x 31 h K := by
  refine ⟨C.1.kx, k_pass C _ ?_⟩
  unfold sp_pass
  rw [if_pos (Or.inr (by decide))]
  exact oc_no (fun h' f c => hK0 h' c)
theorem a_order (C : CR h x σ k) (I : IV (σ 0) t nc nj) {ty c m dd : Nat} (hty : ty ≤ 60) (h5 : σ 5 0 = nI ty) (hF : FF (σ 6) ty) (hc : c < nc) (hm1 : 10 ≤ m) (hm2 : m ≤ 150) (hd : dd ≤ 9999) (hwide : (lay (σ 6) (nI m) ty).1.2.2.2 = true → ∀ h', CR h' x σ k → K (-4) h') (hfull : nj = 12 → ∀ h', CR h' x σ k → K (-3) h')
    (hdid : nj ≠ 12 → ∀ h' σ', CR h' x σ' (rk k) → Af σ k (ordR (σ 0) nj (nI c) (nI m) (nI dd) (σ 6) ty) σ' → IV (σ' 0) (t + 1) nc (nj + 1) → K (nI nj) h') : hK h x = 7 ∧ V_X6_order x (nI c) (nI m) (nI dd) h K := by
  have h6 := I.n6
  obtain ⟨⟨d, B⟩, -⟩ := id I
  have G := ga_order B.1 B.2.1 B.2.2.1 B.2.2.2.1 B.2.2.2.2.1 B.2.2.2.2.2.1 B.2.2.2.2.2.2.1 B.2.2.2.2.2.2.2.1 B.2.2.2.2.2.2.2.2 hty (nI c) (nI m) (nI dd) (σ 6)
  refine ⟨C.1.kx, k_order C I.c0 h6 I.j1 I.n12 hty h5 _ _ _ ?_⟩
  unfold sp_order at G ⊢
  have l1 : ¬ (nI m < (10 : Int32) ∨ (150 : Int32) < nI m) := by
    rintro (z | z)
    · have := (nI_ltI (a := m) (b := 10) (by omega) (by decide)).mp z; omega
    · have := (nI_ltI (a := 150) (b := m) (by decide) (by omega)).mp z; omega
  have l2 : ¬ (nI dd < (0 : Int32) ∨ (9999 : Int32) < nI dd) := by
    rintro (z | z)
    · exact cn0 (by omega) z
    · have := (nI_ltI (a := 9999) (b := dd) (by decide) (by omega)).mp z; omega
  rw [if_neg (nbadC B hc), if_neg l1, if_neg l2, hF.flt0] at G ⊢
  show OC h x σ k K (sp_ord (σ 0) nj (nI c) (nI m) (nI dd) (σ 6) ty)
  have G' : GA (sp_ord (σ 0) nj (nI c) (nI m) (nI dd) (σ 6) ty) t := G
  unfold sp_ord at G' ⊢
  by_cases z : (lay (σ 6) (nI m) ty).1.2.2.2 = true
  · rw [if_pos z]
    exact oc_no (fun h' f c => hwide z h' c)
  · rw [if_neg z] at G' ⊢
    by_cases z2 : nj = 12
    · rw [if_pos z2]
      exact oc_no (fun h' f c => hfull z2 h' c)
    · rw [if_neg z2] at G' ⊢
      refine oc_did rfl (fun h' σ' f c' a => hdid z2 h' σ' c' a ?_)
      rw [a.1]
      exact iv_order I hty (by have := I.n12; omega) rfl (G' _ rfl _ rfl)
theorem a_orderX (C : CR h x σ k) (I : IV (σ 0) t nc nj) {ty c : Nat} (hty : ty ≤ 60) (h5 : σ 5 0 = nI ty) (hc : c < nc) (hK0 : ∀ h', CR h' x σ k → K (-2) h') : hK h x = 7 ∧ V_X6_order x (nI c) 9 0 h K := by
  obtain ⟨⟨d, B⟩, -⟩ := id I
  refine ⟨C.1.kx, k_order C I.c0 I.n6 I.j1 I.n12 hty h5 _ _ _ ?_⟩
  unfold sp_order
  rw [if_neg (nbadC B hc), if_pos (Or.inl (by decide))]
  exact oc_no (fun h' f c => hK0 h' c)
end ACTS
