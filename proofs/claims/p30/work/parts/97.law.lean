/-! the law -/
section LAW
variable {hh h : Hp} {x k t nc nj : Nat} {σ : Nat → Nat → Int32} {K : Int32 → Hp → Prop} {C80 : Nat → Int32 → Hp → Prop}
theorem lg0 (v : Int64) : lg_cmp v v = 0 := by simp [lg_cmp]
theorem lw_437 (I : IV (σ 0) t nc nj) {e : Nat} (hC : ∀ h', CR h' x σ k → C80 x (nI (e + 1)) h') : ∀ (d j n : Nat) (h : Hp), j + d = nj → d < n → CR h x σ k → V_L_law_437 K C80 n x (nI e) (nI j) h := by
  obtain ⟨⟨d0, B⟩, -⟩ := id I
  have h12 := I.n12
  intro d
  induction d with
  | zero =>
    intro j n h h1 h2 C
    obtain ⟨n, rfl⟩ : ∃ m, n = m + 1 := ⟨n - 1, by omega⟩
    obtain rfl : j = nj := by omega
    refine u_count (Qh.rf C) B 1 (fun h1 q1 => ?_)
    rw [cv_1, I.j1, nI_1]
    exact ⟨fun _ => hC h1 q1.2, fun z => absurd (Int32.le_refl _) z⟩
  | succ d ih =>
    intro j n h h1 h2 C
    obtain ⟨n, rfl⟩ : ∃ m, n = m + 1 := ⟨n - 1, by omega⟩
    refine u_count (Qh.rf C) B 1 (fun h1 q1 => ?_)
    rw [cv_1, I.j1, nle (by omega) (by omega)]
    refine ⟨fun z => absurd z (by omega), fun _ => w_sound (Qh.rf q1.2) I (by omega) (fun h2 q2 => ⟨fun _ => ?_, fun z => absurd z (by decide)⟩)⟩
    rw [nI_1]
    exact ih (j + 1) n h2 (by omega) (by omega) q2.2
theorem lw_413 (C : CR h x σ k) (I : IV (σ 0) t nc nj) {e : Nat} (hC : ∀ h', CR h' x σ k → C80 x (nI (e + 1)) h') : V_L_law_413 K C80 x (nI e) 1 h :=
  ⟨fun z => absurd z (by decide), fun _ => w_kept (Qh.rf C) I (fun h1 q1 => ⟨fun z => absurd z (by decide), fun _ => w_accounts (Qh.rf q1.2) I (fun h2 q2 => ⟨fun _ => ⟨nj + 1, lw_437 I hC nj 0 (nj + 1) h2 (by omega) (by omega) q2.2⟩, fun z => absurd z (by decide)⟩)⟩)⟩
theorem lw_327N {e : Nat} {a4 a6 : Int32} {a7 : Int64} (h1 : V_L_law_413 K C80 x (nI e) 1 h) : V_L_law_327 K C80 x (nI e) a4 a6 a7 1 0 h :=
  ⟨fun _ => ⟨fun z => absurd z (by decide), fun _ => ⟨fun _ => h1, fun z => absurd rfl z⟩⟩, fun _ => ⟨fun z => absurd z (by decide), fun _ => ⟨fun _ => h1, fun z => absurd rfl z⟩⟩⟩
theorem pw_413 (P : Pw x t h) {e : Nat} (hC : ∀ h', Pw x t h' → C80 x (nI (e + 1)) h') : V_L_law_413 K C80 x (nI e) 1 h := by
  obtain ⟨σ', k', t', nc', nj', ty', a, b, c, d, f, g⟩ := P
  exact lw_413 a b (fun h' c' => hC h' ⟨σ', k', t', nc', nj', ty', c', b, c, d, f, g⟩)
theorem lw_327 {ρ : Row} (I : IV ρ t nc nj) (h0 : 0 < nc) (hk5 : k ≤ 5) (P : Po x ρ k t h) {e : Nat} {a4 : Int32} (hC : ∀ h', Pw x t h' → C80 x (nI (e + 1)) h') : V_L_law_327 K C80 x (nI e) a4 (nI k) (DG ρ nc nj) 1 1 h := by
  have key : V_L_law_339 K C80 x (nI e) a4 (nI k) (DG ρ nc nj) 1 1 (nI (if k = 5 then 4 else k)) h := by
    obtain ⟨σ', k', t', nc', nj', ty', c, i, h5, hty, h0', ht', cs⟩ := P
    obtain ⟨⟨d', B'⟩, -⟩ := id i
    have pw : ∀ h', CR h' x σ' k' → Pw x t h' := fun h' c' => ⟨σ', k', t', nc', nj', ty', c', i, h5, hty, h0', ht'⟩
    have c413 : ∀ h', CR h' x σ' k' → V_L_law_413 K C80 x (nI e) 1 h' := fun h' c' => pw_413 (pw h' c') hC
    refine ⟨fun z => absurd z (by decide), fun _ => ⟨fun z => absurd z (by decide), fun _ => ⟨fun _ => c413 h c, fun _ => u_count (Qh.rf c) B' 14 (fun h1 q1 => ?_)⟩⟩⟩
    have hk' := q1.hk
    rw [cv_14, hk'.1, nI_eq (by omega) (by omega), show nI k = (5 : Int32) ↔ k = 5 from q5 (by omega)]
    rcases cs with ⟨e0, ek⟩ | ⟨ek, el⟩
    · have n1 : nc' = nc := (nI_eq (by have := i.n6; omega) (by have := I.n6; omega)).mp (i.c0.symm.trans (by rw [e0]; exact I.c0))
      have n2 : nj' = nj := (nI_eq (by have := i.n12; omega) (by have := I.n12; omega)).mp (i.j1.symm.trans (by rw [e0]; exact I.j1))
      refine ⟨fun z => absurd ek z, fun _ => ⟨fun _ => c413 h1 q1.2, fun _ => w_digest (Qh.rf q1.2) B' (fun h2 q2 => ?_)⟩⟩
      rw [e0, n1, n2, lg0]
      exact ⟨fun _ => c413 h2 q2.2, fun z => absurd rfl z⟩
    · have c387 : ∀ h', CR h' x σ' k' → V_L_law_387 K C80 x (nI e) (DG ρ nc nj) (nI (if k = 5 then 4 else k)) h' := by
        intro h' c' z0
        have hr := rk_pos k
        refine ⟨c'.1.kx, k_undo c' z0 (fun w => by omega) (fun k1 e1 h2 f cc => ?_)⟩
        have e2 : k1 = if k = 5 then 4 else k := by
          rw [ek] at e1
          unfold rk at e1
          by_cases w : k = 5
          · rw [if_pos w] at e1 ⊢; omega
          · rw [if_neg w] at e1 ⊢; omega
        have e3 : k1 = rk k - 1 := by omega
        rw [← e2]
        refine ⟨fun w => absurd rfl w, fun _ => ?_⟩
        have c2 : CR h2 x (fun f => if f = 0 then ρ else if f = 2 then (fun _ => nI k1) else σ' f) k1 := cc _ (fun y hy => by
          rw [if_pos rfl, e3]; exact (el y hy).symm) rfl (fun f f0 f2 => by
          show (if f = 0 then ρ else if f = 2 then (fun _ => nI k1) else σ' f) = σ' f
          rw [if_neg f0, if_neg f2])
        obtain ⟨⟨d, B⟩, -⟩ := id I
        refine w_digest (σ := fun f => if f = 0 then ρ else if f = 2 then (fun _ => nI k1) else σ' f) (Qh.rf c2) B (fun h3 q3 => ?_)
        show (¬ lg_cmp (DG ρ nc nj) (DG ρ nc nj) = 0 → _) ∧ _
        rw [lg0]
        refine ⟨fun w => absurd rfl w, fun _ => ?_⟩
        exact pw_413 ⟨_, k1, t, nc, nj, ty', q3.2, I, h5, hty, h0, by omega⟩ hC
      refine ⟨fun _ => c387 h1 q1.2, fun _ => ⟨fun _ => c413 h1 q1.2, fun _ => w_digest (Qh.rf q1.2) B' (fun h2 q2 => ⟨fun _ => c413 h2 q2.2, fun _ => c387 h2 q2.2⟩)⟩⟩
  have e5 : nI k = (5 : Int32) ↔ k = 5 := q5 (by omega)
  unfold V_L_law_327
  rw [e5]
  refine ⟨fun w => ?_, fun w => ?_⟩
  · rw [if_neg w] at key; exact key
  · rw [if_pos w] at key; exact key
/-- where the law's loop is, before its step e -/
def Lw (x e : Nat) (h : Hp) : Prop := ∃ σ k t nc nj ty, CR h x σ k ∧ IV (σ 0) t nc nj ∧ σ 5 0 = nI ty ∧ ty ≤ 60 ∧ t ≤ 2 * e ∧ (e = 0 → nc = 0 ∧ σ 0 2 = 0) ∧ (e = 1 → nc = 0 ∧ ∃ p, 11000 ≤ p ∧ p ≤ 20000 ∧ σ 0 2 = nI p) ∧ (e = 2 → (∀ s, s < 29 → σ 0 (8 + s) = 0) ∧ ∃ p, 11000 ≤ p ∧ p ≤ 20000 ∧ σ 0 2 = nI p) ∧ (2 ≤ e → 0 < nc)
theorem Pw.lw {e : Nat} (P : Pw x t h) (ht : t ≤ 2 * e) (he : 2 ≤ e) : Lw x (e + 1) h := by
  obtain ⟨σ', k', t', nc', nj', ty', a, b, c, d, f, g⟩ := P
  exact ⟨σ', k', t', nc', nj', ty', a, b, c, d, by omega, fun z => by omega, fun z => by omega, fun z => by omega, fun _ => f⟩
theorem f9_sum : sm 29 (fun s => fount (nI 9) s * wd s) = nI 1044 := by decide +kernel
theorem lw_150 (C : CR h x σ k) (I : IV (σ 0) t nc nj) {ty : Nat} (h5 : σ 5 0 = nI ty) (hty : ty ≤ 60) {e : Nat} (he : e < 26) (ht : t ≤ 2 * e) (st0 : e = 0 → nc = 0 ∧ σ 0 2 = 0) (st1 : e = 1 → nc = 0 ∧ ∃ p, 11000 ≤ p ∧ p ≤ 20000 ∧ σ 0 2 = nI p) (st2 : e = 2 → (∀ s, s < 29 → σ 0 (8 + s) = 0) ∧ ∃ p, 11000 ≤ p ∧ p ≤ 20000 ∧ σ 0 2 = nI p) (h0 : 2 ≤ e → 0 < nc)
    {s : Nat} (hs : s < 17) (a3 a4 : Int32) {one : Int32} (ho : one = 0 ∨ (one = 1 ∧ s ≠ 12 ∧ 3 ≤ e)) (hC : ∀ h', Lw x (e + 1) h' → C80 x (nI (e + 1)) h') : V_L_law_150 K C80 x (nI e) a3 a4 (nI s) (nI k) (DG (σ 0) nc nj) one h := by
  obtain ⟨⟨d, B⟩, -⟩ := id I
  have h6 := I.n6
  have hk5 : k ≤ 5 := C.2.1.2.2.1.2.2
  unfold V_L_law_150
  rw [c3 (by omega), show (7 : Int32) ≤ nI s ↔ 7 ≤ s from nI_leI (a := 7) (by decide) (by omega), show nI s = (16 : Int32) ↔ s = 16 from nI_eq (b := 16) (by omega) (by decide), q0 (by omega), q1 (by omega)]
  refine ⟨fun z3 => ?_, fun z3 => ⟨fun n0 => ⟨fun n1 => ?_, fun e1 => ?_⟩, fun e0 => ?_⟩⟩
  · have hn := h0 (by omega)
    have pC : ∀ h', Pw x t h' → C80 x (nI (e + 1)) h' := fun h' p => hC h' (p.lw ht (by omega))
    have po : ∀ h', Po x (σ 0) k t h' → V_L_law_327 K C80 x (nI e) a4 (nI k) (DG (σ 0) nc nj) 1 one h' := fun h' p => by
      rcases ho with rfl | ⟨rfl, -⟩
      · exact lw_327N (pw_413 p.w pC)
      · exact lw_327 I hn hk5 p pC
    have p12 : ∀ h', s = 12 → Pw x t h' → V_L_law_327 K C80 x (nI e) a4 (nI k) (DG (σ 0) nc nj) 1 one h' := fun h' e12 p => by
      rcases ho with rfl | ⟨-, w, -⟩
      · exact lw_327N (pw_413 p pC)
      · exact absurd e12 w
    refine ⟨fun z7 => ⟨fun n16 => ?_, fun e16 => u_count (Qh.rf C) B 11 (fun h1 q1 => ?_)⟩, fun z7 => ?_⟩
    · exact w_jobs C I (by omega) hn h5 hty (by omega) a3 a4 (fun _ h' p => po h' p) (fun e12 h' p => p12 h' e12 p)
    · have l1 := lo_lt a4 (N := 30) (by decide)
      refine w_low (N := 30) (by decide) (by decide) ?_
      rw [cv_11, show (1 : Int32) + nI (lo_ a4 30) = nI (1 + lo_ a4 30) from nI_add 1 _]
      refine a_pass q1.2 I (by omega) (by omega) (fun h2 σ' c2 a i => w_low (N := 30) (by decide) (by decide) ⟨fun w => absurd ?_ w, fun _ => a_passX c2 (fun h3 c3 => ⟨fun w => absurd rfl w, fun _ => po h3 (po_act c3 a i hn h5 hty)⟩)⟩)
      rw [← nI_add, ← Int32.add_assoc]; rfl
    · exact w_cases C I hn h5 hty (by omega) a3 a4 (fun h' p => po h' p)
  · -- e = 2
    have e2 : e = 2 := by omega
    obtain ⟨hz, p, p1, p2, p3⟩ := st2 e2
    have hn := h0 (by omega)
    have o0 : one = 0 := by rcases ho with w | ⟨-, -, w⟩ <;> omega
    subst o0
    refine a_castFount (c := 0) (n := 9) C I hn (by decide) (by decide) (fun w h' c' => ?_) (fun w h' c' => ?_) (fun h' σ' c' a i => ⟨fun w => absurd (by decide) w, fun _ => ?_⟩)
    · exfalso
      obtain ⟨u, u1, u2⟩ := anyF_iff.mp w
      rw [show 8 + 29 * 0 + u = 8 + u by omega, hz u u1, Int32.zero_add] at u2
      unfold fount at u2
      by_cases z : u < 26
      · rw [if_pos z] at u2; exact absurd u2 (by decide)
      · rw [if_neg z] at u2; exact absurd u2 (by decide)
    · exfalso
      refine w ?_
      rw [f9_sum, p3, nle (by omega) (by omega)]
      omega
    · exact lw_327N (lw_413 c' i (fun h2 c2 => hC h2 ⟨σ', _, t + 1, nc, nj, ty, c2, i, by rw [a.2.1 5 (by decide) (by decide)]; exact h5, hty, by omega, fun z => by omega, fun z => by omega, fun z => by omega, fun _ => hn⟩))
  · -- e = 1
    obtain ⟨n0', p, p1, p2, p3⟩ := st1 e1
    have o0 : one = 0 := by rcases ho with w | ⟨-, -, w⟩ <;> omega
    subst o0
    subst n0'
    refine a_addCase C I (fun w => by omega) (fun _ h' σ' c' a i => ⟨fun w => absurd rfl w, fun _ => lw_327N (lw_413 c' i (fun h2 c2 => hC h2 ⟨σ', _, t + 1, 1, nj, ty, c2, i, by rw [a.2.1 5 (by decide) (by decide)]; exact h5, hty, by omega, fun z => by omega, fun z => by omega, fun _ => ⟨fun s hs => ?_, p, p1, p2, ?_⟩, fun _ => by omega⟩))⟩)
    · rw [a.1, ur_n (by omega)]
      have := I.hz (c := 0) (Nat.le_refl 0) (by decide) hs
      rwa [show 8 + 29 * 0 + s = 8 + s by omega] at this
    · rw [a.1, ur_n (by decide)]; exact p3
  · -- e = 0
    obtain ⟨n0', p3⟩ := st0 e0
    have o0 : one = 0 := by rcases ho with w | ⟨-, -, w⟩ <;> omega
    subst o0
    subst n0'
    have l1 := lo_lt a4 (N := 9000) (by decide)
    refine w_low (N := 9000) (by decide) (by decide) ?_
    generalize lo_ a4 9000 = b at l1 ⊢
    rw [show (20000 : Int32) - nI b = nI (20000 - b) from pk_sub (a := 20000) (by omega)]
    have e2 : σ 0 2 + nI (20000 - b) = nI (20000 - b) := by rw [p3, Int32.zero_add]
    refine a_buy C I (by omega) (by omega) (fun w => absurd ?_ w) (fun _ h' σ' c' a i => ?_)
    · rw [e2]; exact (nI_leI (b := 100000) (by omega) (by decide)).mpr (by omega)
    · rw [e2]
      refine ⟨fun w => ?_, fun _ => lw_327N (lw_413 c' i (fun h2 c2 => hC h2 ⟨σ', _, t + 1, 0, nj, ty, c2, i, by rw [a.2.1 5 (by decide) (by decide)]; exact h5, hty, by omega, fun z => by omega, fun _ => ⟨rfl, 20000 - b, by omega, by omega, ?_⟩, fun z => by omega, fun z => by omega⟩))⟩
      · have := (le0 (by omega)).mp w; omega
      · rw [a.1, ur_n (by decide), ur_s]; exact e2
theorem lw_80 : ∀ (d e n : Nat) (h : Hp), e + d = 26 → d < n → Lw x e h → V_L_law_80 K n x (nI e) h := by
  intro d
  induction d with
  | zero =>
    intro e n h h1 h2 L
    obtain ⟨n, rfl⟩ : ∃ m, n = m + 1 := ⟨n - 1, by omega⟩
    obtain rfl : e = 26 := by omega
    exact ⟨fun _ => trivial, fun z => absurd (by decide) z⟩
  | succ d ih =>
    intro e n h h1 h2 L
    obtain ⟨n, rfl⟩ : ∃ m, n = m + 1 := ⟨n - 1, by omega⟩
    obtain ⟨σ, k, t, nc, nj, ty, C, I, h5, hty, ht, st0, st1, st2, h0⟩ := L
    obtain ⟨⟨d0, B⟩, -⟩ := id I
    unfold V_L_law_80
    rw [c26 (by omega), show (2 : Int32) * nI e = nI (2 * e) from pk_mul 2 e, nI_1]
    refine ⟨fun z => absurd z (by omega), fun _ => w_cell (by omega) (fun a3 => w_cell (by omega) (fun a4 => w_low (N := 17) (by decide) (by decide) ?_))⟩
    have ls := lo_lt (a3 >>> ((9 : Int32) &&& 31)) (N := 17) (by decide)
    generalize lo_ (a3 >>> ((9 : Int32) &&& 31)) 17 = s at ls ⊢
    refine u_count (Qh.rf C) B 14 (fun h3 q3 => w_digest (Qh.rf q3.2) B (fun h4 q4 => ?_))
    rw [cv_14, q3.hk.1, q12 (by omega), show nI e ≤ (2 : Int32) ↔ e ≤ 2 from nI_leI (b := 2) (by omega) (by decide)]
    have go : ∀ one, (one = 0 ∨ (one = 1 ∧ s ≠ 12 ∧ 3 ≤ e)) → V_L_law_150 K (V_L_law_80 K n) x (nI e) a3 a4 (nI s) (nI k) (DG (σ 0) nc nj) one h4 := fun one ho => lw_150 q4.2 I h5 hty (by omega) ht st0 st1 st2 h0 ls a3 a4 ho (fun h' l => ih (e + 1) n h' (by omega) (by omega) l)
    exact ⟨fun _ => go 0 (Or.inl rfl), fun z => ⟨fun _ => go 0 (Or.inl rfl), fun z2 => go 1 (Or.inr ⟨rfl, z, by omega⟩)⟩⟩
theorem iv_zero : IV (fun _ => 0) 0 0 0 := by
  have e : ∀ s, s < 29 → tS (fun _ => 0) 0 s = 0 := fun s _ => by
    unfold tS
    rw [sm_zero (fun _ _ => rfl), sm0]; rfl
  refine ⟨(WF.zero 0).bn rfl rfl (by decide) (by decide), ⟨?_, ?_⟩, fun j hj => absurd hj (Nat.not_lt_zero _)⟩
  · rw [sm_zero e]; rfl
  · rw [sm_zero (fun s hs => by rw [e s hs, Int32.zero_mul])]; rfl
theorem law_V {h0 : Hp} (hz : ∀ c, hK h0 c = 0) : V_L_law h0 K := by
  intro x nx zx h1 e1
  have I := iv_zero
  refine ⟨nx, k_clsInit nx hz e1 (fun h2 C2 z0 => ⟨C2.1.kx, k_undo C2 z0 (fun _ => ⟨fun w => absurd rfl w, fun _ => ⟨C2.1.kx, k_restore C2 ?_⟩⟩) (fun k1 e => by omega)⟩)⟩
  unfold sp_restore
  rw [if_pos rfl]
  refine oc_no (fun h3 f3 C3 => ⟨fun w => absurd rfl w, fun _ => ⟨C3.1.kx, k_order (nc := 0) (nj := 0) (t := 0) C3 rfl (by decide) rfl (by decide) (by decide) rfl _ _ _ ?_⟩⟩)
  unfold sp_order
  rw [if_pos (show badC ((fun _ _ => 0 : Nat → Nat → Int32) 0) 0 from Or.inr (by decide))]
  refine oc_no (fun h4 f4 C4 => ⟨fun w => absurd rfl w, fun _ => a_meltBox C4 I (fun _ h5 C5 => ⟨fun w => absurd rfl w, fun _ => ?_⟩) (fun w => absurd (sm_zero (fun _ _ => rfl)) w)⟩)
  obtain ⟨⟨d, B⟩, -⟩ := id I
  refine u_urgent (σ := fun _ _ => 0) (Qh.rf C5) B (fun h6 q6 => ⟨fun w => absurd rfl w, fun _ => u_pb (σ := fun _ _ => 0) (s := 0) (Qh.rf q6.2) B (by decide) (fun h7 q7 => ⟨fun w => absurd rfl w, fun _ => ⟨q7.kx, k_cast q7.2 rfl (by decide) _ _ _ ?_⟩⟩)⟩)
  unfold sp_cast
  rw [if_pos (show badC ((fun _ _ => 0 : Nat → Nat → Int32) 0) 0 ∨ badS 0 from Or.inl (Or.inr (by decide)))]
  exact oc_no (fun h8 f8 C8 => ⟨fun _ => ⟨27, Nat.le_refl _, lw_80 26 0 27 h8 rfl (by decide) ⟨fun _ _ => 0, 0, 0, 0, 0, 0, C8, I, rfl, by decide, by decide, fun _ => ⟨rfl, rfl⟩, fun z => by omega, fun z => by omega, fun z => by omega⟩⟩, fun w => absurd rfl w⟩)
end LAW
