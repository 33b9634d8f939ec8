/-! the law's start -/
theorem arr_of {s : State} {args : Array Value} {t : FieldType} (h : (Cond.arrayClass t).before args s = true) : ∃ cA, ArrOfT s cA t ∧ s.vm.findClass ("[" ++ t.toString) = some cA := by
  obtain ⟨cA, kA, comp, h1, h2, h3⟩ := Cond.arrayClass_spec h
  exact ⟨cA, fun n z => ⟨fun k h => (by cases h), kA, h2, comp, h3⟩, h1⟩
theorem over_of {s : State} {args : Array Value} {C : String} (h : (Cond.arrayOver (.object C)).before args s = true) : ∃ cA, ArrOfT s cA (.object C) ∧ va_RA s cA (.object C) := by
  obtain ⟨comp, c, kA, h1, h2, h3, h4, h5⟩ := Cond.arrayOver_spec h
  exact ⟨c, fun n z => ⟨fun k h => (by cases h), kA, h3, comp, h4⟩, kA, comp, h3, h4, h1, h5⟩
set_option maxRecDepth 20000 in
theorem nest_in : ∀ q ∈ nestT, nestW q ∈ lw_tbl := by
  intro q hq
  unfold nestT at hq
  simp only [List.mem_cons, List.not_mem_nil, or_false] at hq
  rcases hq with e | e | e | e | e | e | e | e | e | e <;> subst e
  · exact List.mem_of_getElem? (i := 32) (by decide +kernel)
  · exact List.mem_of_getElem? (i := 49) (by decide +kernel)
  · exact List.mem_of_getElem? (i := 102) (by decide +kernel)
  · exact List.mem_of_getElem? (i := 205) (by decide +kernel)
  · exact List.mem_of_getElem? (i := 231) (by decide +kernel)
  · exact List.mem_of_getElem? (i := 244) (by decide +kernel)
  · exact List.mem_of_getElem? (i := 260) (by decide +kernel)
  · exact List.mem_of_getElem? (i := 261) (by decide +kernel)
  · exact List.mem_of_getElem? (i := 417) (by decide +kernel)
  · exact List.mem_of_getElem? (i := 418) (by decide +kernel)
theorem kw_of {s : State} {args : Array Value} (ht0 : ∀ w ∈ lw_tbl, w.before args s = true) (hts : ∀ w ∈ lwG, w.before args s = true) (sz : Nat) (H0 : Heap) {b L : Nat} {xs : Nat → Int32} (hX : va_X b L xs s H0) (hbl : b < sz) : ∃ E : Ev, Kw E s ∧ E.2.2.1 = sz ∧ E.2.2.2.1 = H0 ∧ E.2.2.2.2.1 = b := by
  obtain ⟨a0, b0, k0⟩ := u_known (C := RX0) (T := TX0) (N := 2) (n := 2) hts iw_0 (hts _ ki_0)
  obtain ⟨a1, b1, k1⟩ := u_known (C := RX1) (T := TX1) (N := 4) (n := 4) hts iw_1 (hts _ ki_1)
  obtain ⟨a2, b2, k2⟩ := u_known (C := RX2) (T := TX2) (N := 9) (n := 9) hts iw_2 (hts _ ki_2)
  obtain ⟨a3, b3, k3⟩ := u_known (C := RX3) (T := TX3) (N := 4) (n := 4) hts iw_3 (hts _ ki_3)
  obtain ⟨a4, b4, k4⟩ := u_known (C := RX4) (T := TX4) (N := 8) (n := 8) hts iw_4 (hts _ ki_4)
  obtain ⟨a5, b5, k5⟩ := u_known (C := RX5) (T := TX5) (N := 11) (n := 11) hts iw_5 (hts _ ki_5)
  obtain ⟨a6, b6, k6⟩ := u_known (C := RX6) (T := TX6) (N := 9) (n := 9) hts iw_6 (hts _ ki_6)
  obtain ⟨c0, d0, e0⟩ := arr_of (hts _ ka_0)
  obtain ⟨c1, d1, e1⟩ := arr_of (hts _ ka_1)
  have o1 : (Cond.arrayOver (.object RX1)).before args s = true := ht0 _ (List.mem_of_getElem? (i := 54) (by decide +kernel))
  have o5 : (Cond.arrayOver (.object RX5)).before args s = true := ht0 _ (List.mem_of_getElem? (i := 99) (by decide +kernel))
  obtain ⟨c2, d2, e2⟩ := over_of o1
  obtain ⟨c3, d3, e3⟩ := over_of o5
  refine ⟨((fun k => match k with
    | 0 => a0
    | 1 => a1
    | 2 => a2
    | 3 => a3
    | 4 => a4
    | 5 => a5
    | _ => a6, fun k => match k with
    | 0 => b0
    | 1 => b1
    | 2 => b2
    | 3 => b3
    | 4 => b4
    | 5 => b5
    | _ => b6), (fun k => match k with
    | 0 => c0
    | 1 => c1
    | 2 => c2
    | _ => c3), sz, H0, b, L, xs), ⟨⟨fun c q hq => ?_, fun k q hq => ?_⟩, fun q hq => ?_, va_AO.of o1, va_AO.of o5, hX, hbl⟩, rfl, rfl, rfl⟩
  · match c, hq with
    | 0, hq => cases hq; exact k0
    | 1, hq => cases hq; exact k1
    | 2, hq => cases hq; exact k2
    | 3, hq => cases hq; exact k3
    | 4, hq => cases hq; exact k4
    | 5, hq => cases hq; exact k5
    | 6, hq => cases hq; exact k6
    | c + 7, hq => simp [cls] at hq
  · match k, hq with
    | 0, hq => cases hq; exact ⟨d0, e0⟩
    | 1, hq => cases hq; exact ⟨d1, e1⟩
    | 2, hq => cases hq; exact ⟨d2, e2⟩
    | 3, hq => cases hq; exact ⟨d3, e3⟩
    | k + 4, hq => simp at hq
  · exact va_Nw.of rfl (ht0 _ (nest_in q hq))
/-- the heap as it is before anything is made -/
def hp0 : Hp := (fun _ _ => 0, fun _ _ => 0, fun _ => 0, fun _ => 0)
theorem rep0 (E : Ev) (h : E.2.2.1 = E.2.2.2.1.size) : Rep E hp0 E.2.2.2.1 := ⟨rfl, by rw [h]; exact Nat.le_refl _, fun _ _ => rfl, fun c hc => absurd rfl hc⟩
set_option maxHeartbeats 4000000 in
set_option maxRecDepth 100000 in
/-- THE LAW, from its entry -/
theorem whole_start {p : Program} {e : Env} {s : State} {m : MethodId} {below : List Frame} {meth : Method} {c : Code} (l : Launch) (hflags : l.flags = flags0) {b L : Nat} {xs : Nat → Int32} (hL : L ≤ 260) (C0 : lw_At p s m meth c b L xs) : W p l e room_1 s m #[Value.ref b] below meth c s.heap [] 0 0 (lw_Z below #[Value.ref b] s) (entryFrame m ([Value.ref b] : List Value).toArray 13) := by
  obtain ⟨hx, hb, hr, hml, hown, hts, hX, hbl, hlocks, hgv⟩ := id C0
  have htG : ∀ w ∈ lwG, w.before #[Value.ref b] s = true := fun w hw => hts w (List.mem_filter.mp hw).1
  obtain ⟨E, hKw, hsz, hH0, hB⟩ := kw_of hts htG s.heap.size s.heap hX hbl
  subst hB
  have hC : Cx E (p, l, e, room_1, s, m, #[Value.ref E.2.2.2.2.1], below, meth, c, lw_Z below #[Value.ref E.2.2.2.2.1] s) l RL cL_law 13 room_1 := ⟨hx, hb, hml, hown, htG, hKw, hlocks, rfl, rfl⟩
  have hQ : LQ E (p, l, e, room_1, s, m, #[Value.ref E.2.2.2.2.1], below, meth, c, lw_Z below #[Value.ref E.2.2.2.2.1] s) := ⟨rfl, rfl, rfl, hr, hsz⟩
  have hR := rep0 E (by rw [hsz, hH0])
  rw [hH0] at hR
  rw [lg_entry_eq]
  exact ok_L_law_0 (K := fun _ _ => True) hC hQ hp0 (law_V (fun _ => rfl)) s.heap [] _ hR (fun q hq => by cases hq) (ent_LR [rv (sb E)] 13 (fun v hv => by rw [List.mem_singleton.mp hv]; rfl) (Nat.le_of_ble_eq_true rfl))
set_option maxHeartbeats 4000000 in
theorem lw_walk (l : Launch) (hflags : l.flags = flags0) (b : Addr) (xs : List Int32) : MetFree l x (headSpec (Jvm.Cond.code x code maxLocals ret :: tables_1) room_1) (lw_P b xs) (fun _ _ _ _ _ => True) lw_Q := by
  refine MetFree.of_bodyS (code := code) (maxLocals := maxLocals) (ret := ret) (by decide) ?_ ?_
  · intro args s m h hn
    obtain ⟨meth, c, h1, h2, h3, h4, h5, h6, -, -⟩ := Cond.code_spec hn (atoms_spec (ws := Jvm.Cond.code x code maxLocals ret :: tables_1) h _ List.mem_cons_self)
    exact ⟨meth, c, h1, h2, h3, h4, h5, h6⟩
  · intro p e s m args below meth c s₁ B hml0 hP _
    obtain ⟨rfl, hx, hbd, hgv⟩ := hP
    obtain ⟨scr, harrAt, hlist, hof, hsmall⟩ := hx
    obtain ⟨hcb, hkn, -, -⟩ := State.arrayAt?_spec harrAt
    have hown : s.vm.findClass R_law = some m.cls := findClass_of_methodNamed B.named
    have hts0 : ∀ c ∈ (Jvm.Cond.code x code maxLocals ret :: tables_1), c.before #[Value.ref b] s = true := atoms_spec (ws := Jvm.Cond.code x code maxLocals ret :: tables_1) B.pre
    have hts : ∀ w ∈ lw_tbl, w.before #[Value.ref b] s = true := k2_hts_sels lw_privs (fun w hw => hts0 w (List.mem_cons_of_mem _ hw)) lw_privs_ok
    have hml : c.maxLocals = 13 := B.maxLocals_eq (hts0 _ List.mem_cons_self)
    have X₀ : Stand p l e room_1 s m #[Value.ref b] below meth c s₁ [] 0 0 := Stand.of_body B
    have hh0 : s₁.heap = s.heap := by rw [B.state]; rfl
    have hsz : scr.slots.size = xs.length := by rw [← Array.length_toList, hlist, List.length_map]
    have hval : ∀ j : Nat, j < xs.length → scr.slots[j]? = some (.int (xs.getD j 0)) := fun j hj => by
      rw [← Array.getElem?_toList, hlist]
      simp [hj]
    have hbl : b < s.heap.size := (Array.getElem?_eq_some_iff.mp hcb).1
    have hX : va_X b xs.length (fun j => xs.getD j 0) s s.heap := ⟨scr, hcb, hof, hkn, hsz, hval⟩
    have K : W p l e room_1 s m #[Value.ref b] below meth c s₁.heap [] 0 0 (lw_Z below #[Value.ref b] s) (entryFrame m ([Value.ref b] : List Value).toArray 13) := by
      rw [hh0]
      exact whole_start l hflags hbd ⟨B.exec, B.bytes, B.returns, hml, hown, hts, hX, hbl, B.notSynchronized, hgv⟩
    obtain ⟨t, a1, o, b1, b2, b3⟩ := K s₁ rfl X₀
    exact ⟨t, o, a1, b1, b2, b3⟩
theorem lw_pre_spec {args : Array Value} {s : State} (h : (Jvm.Cond.and given_1 narrow_1).before args s = true) (hr : rest_1_c.before args s = true) : ∃ (b : Addr) (xs : List Int32), lw_P b xs args s := by
  have hs := flat_of_before _ h
  have hq := flat_of_before _ hr
  have hc : (Cond.count 1).before args s = true := hs _ (by decide +kernel)
  have harr : (Cond.arrayOf (.arg 0) .int).before args s = true := hs _ (by decide +kernel)
  have hle : (Cond.le (.length (.arg 0)) (.int 260)).before args s = true := hs _ (by decide +kernel)
  have hlen : (Cond.isInt (.length (.arg 0))).before args s = true := hq _ (by decide +kernel)
  have hall : (Cond.all (.arg 0) (.isInt (.elem (.arg 0) (.index 0)))).before args s = true := hq _ (by decide +kernel)
  obtain ⟨b, xs, hb, hx⟩ := State.ints_of_pre rfl harr hlen hall
  have hsm : xs.length < 2 ^ 31 := hx.choose_spec.2.2.2
  have hev : (Term.length (.arg 0)).eval args s none [] s = some (.int xs.length.toInt32) := hx.length_eval hb
  have hv := Cond.le_ints hev (show (Term.int 260).eval args s none [] s = some (.int 260) from rfl)
  have hd : xs.length.toInt32 ≤ 260 := by
    simpa [Cond.before, Cond.holds, hv] using hle
  have hN : xs.length ≤ 260 := (Int32.ofNat_le_ofNat hsm (by decide)).mp (show Int32.ofNat xs.length ≤ Int32.ofNat 260 from hd)
  exact ⟨b, xs, Cond.one_arg hc (show args[0]? = some (.ref b) from hb), hx, hN, h⟩
theorem lw_comes (l : Launch) (hflags : l.flags = flags0) : Comes l x (Jvm.Cond.code x code maxLocals ret :: tables_1) room_1 (fun tb e args s => Calls_1 tb e args s ∧ rest_1 tb e args s ∧ Pre_1 tb e args s)
    (fun _ _ args s o t => lw_Q args s o t) := by
  intro p e ha hc hk s m args below hf hfit hheap happ hpre
  obtain ⟨b, xs, hP⟩ := lw_pre_spec hpre.2.2 hpre.2.1
  obtain ⟨k, o, h1, h2, h3, hQ⟩ := lw_walk l hflags b xs p e ha hc hk s m args below hf ((Spec.applies_iff_loose hf).mp happ).1 hP trivial
  exact ⟨k, o, h1, h2, h3, hQ⟩
theorem lw_frame {s t : State} {o : Outcome} {args : Array Value} (h : Framed s o t [] 600000 7302250) :
    Framed s o t (fieldLocs frame_1_writes args s ++ arrayLocs frame_1_arrays args s ++ staticLocs frame_1_statics s) 600000 7302250 := h
theorem lw_limb (L : Cond) (hL : ∀ (args : Array Value) (s t : State), L.after args s (.returned (some (.int 1))) t = true) :
    ArmFor flags0 classFile x code maxLocals ret World_1 tables_1 room_1 Calls_1 rest_1 Pre_1
      (fun tb e a s o t => postC L tb e a s o t ∧ Framed s o t (fieldLocs frame_1_writes a s ++ arrayLocs frame_1_arrays a s ++ staticLocs frame_1_statics s) 600000 7302250) := by
  intro l hflags _ _ p e ha hc hk s m args below hf hfit hheap happ hpre
  obtain ⟨k, o, h1, h2, h3, rfl, hF⟩ := lw_comes l hflags p e ha hc hk s m args below hf hfit hheap happ hpre
  exact ⟨k, _, h1, h2, h3, hL args s _, lw_frame hF⟩
theorem i_vc : Claimed_1_1 ∧ Claimed_1_2 := ⟨lw_limb limb_1_1 (fun args s t => by simp [limb_1_1, Cond.after, Cond.holds, Cond.value]), lw_limb limb_1_2 (fun args s t => Cond.after_iff.mpr (by
  first | (rw [show limb_1_2 = Cond.eq .result (.int 1) from rfl, Cond.eq_ints (x := 1) (y := 1) rfl rfl]; simp; done) | (simp [limb_1_2, Cond.value, Term.eval]; done)))⟩
