theorem tw_nw : ∀ w ∈ NW, w ∈ lw_tbl := by
  have h : [152, 176, 275, 278, 284, 364, 394, 411, 432, 449, 464].map (fun i => lw_tbl[i]?) = NW.map some := by decide +kernel
  intro w hw
  have h1 : some w ∈ NW.map some := List.mem_map.mpr ⟨w, hw, rfl⟩
  rw [← h] at h1
  obtain ⟨i, -, hi⟩ := List.mem_map.mp h1
  exact List.mem_of_getElem? hi
theorem whole_start {p : Program} {e : Env} {s : State} {m : MethodId} {below : List Frame} {meth : Method} {c : Code} (l : Launch) (hflags : l.flags = flags0) {b L : Nat} {xs : Nat → Int32} (hL : L ≤ 3072) (C0 : lw_At p s m meth c b L xs) : W p l e room_1 s m #[Value.ref b] below meth c s.heap [] 0 0 (lw_Z below #[Value.ref b] s) (entryFrame m ([Value.ref b] : List Value).toArray 4) := by
  obtain ⟨hx, hb, hr, hml, hown, hts0, hX, hbl, hlocks, hgv⟩ := id C0
  have hts : ∀ w ∈ TW, w.before #[Value.ref b] s = true := fun w hw => hts0 w (List.mem_filter.mp hw).1
  have hD : ∀ k : Nat, ∃ x : ClassId × (Nat → Nat), ∀ q : vw_C, vwCl[k]? = some q → u_Kn s q.1 q.2.1 q.2.2 x.1 x.2 := by
    intro k
    match k with
    | 0 => exact ⟨(_, _), fun q hq => by cases hq; exact (u_known (C := RX0) (T := TX0) (N := 4) (n := 4) hts okX0.2 (hts _ win_X0)).choose_spec.choose_spec⟩
    | 1 => exact ⟨(_, _), fun q hq => by cases hq; exact (u_known (C := RX1) (T := TX1) (N := 13) (n := 13) hts okX1.2 (hts _ win_X1)).choose_spec.choose_spec⟩
    | 2 => exact ⟨(_, _), fun q hq => by cases hq; exact (u_known (C := RX2) (T := TX2) (N := 4) (n := 4) hts okX2.2 (hts _ win_X2)).choose_spec.choose_spec⟩
    | 3 => exact ⟨(_, _), fun q hq => by cases hq; exact (u_known (C := RX3) (T := TX3) (N := 3) (n := 3) hts okX3.2 (hts _ win_X3)).choose_spec.choose_spec⟩
    | 4 => exact ⟨(_, _), fun q hq => by cases hq; exact (u_known (C := RX4) (T := TX4) (N := 2) (n := 2) hts okX4.2 (hts _ win_X4)).choose_spec.choose_spec⟩
    | 5 => exact ⟨(_, _), fun q hq => by cases hq; exact (u_known (C := RX5) (T := TX5) (N := 7) (n := 7) hts okX5.2 (hts _ win_X5)).choose_spec.choose_spec⟩
    | 6 => exact ⟨(_, _), fun q hq => by cases hq; exact (u_known (C := RX6) (T := TX6) (N := 8) (n := 8) hts okX6.2 (hts _ win_X6)).choose_spec.choose_spec⟩
    | 7 => exact ⟨(_, _), fun q hq => by cases hq; exact (u_known (C := RX7) (T := TX7) (N := 4) (n := 4) hts okX7.2 (hts _ win_X7)).choose_spec.choose_spec⟩
    | 8 => exact ⟨(_, _), fun q hq => by cases hq; exact (u_known (C := RX8) (T := TX8) (N := 3) (n := 3) hts okX8.2 (hts _ win_X8)).choose_spec.choose_spec⟩
    | 9 => exact ⟨(_, _), fun q hq => by cases hq; exact (u_known (C := RX9) (T := TX9) (N := 6) (n := 6) hts okX9.2 (hts _ win_X9)).choose_spec.choose_spec⟩
    | 10 => exact ⟨(_, _), fun q hq => by cases hq; exact (u_known (C := RX10) (T := TX10) (N := 2) (n := 2) hts okX10.2 (hts _ win_X10)).choose_spec.choose_spec⟩
    | 11 => exact ⟨(_, _), fun q hq => by cases hq; exact (u_known (C := RX11) (T := TX11) (N := 17) (n := 17) hts okX11.2 (hts _ win_X11)).choose_spec.choose_spec⟩
    | 12 => exact ⟨(_, _), fun q hq => by cases hq; exact (u_known (C := RX12) (T := TX12) (N := 49) (n := 49) hts okX12.2 (hts _ win_X12)).choose_spec.choose_spec⟩
    | k + 13 => exact ⟨(0, fun _ => 0), fun q hq => by simp [vwCl] at hq⟩
  obtain ⟨g, hg⟩ := Classical.axiomOfChoice hD
  have hao : va_AO "RiverRanks$Stems" s := va_AO.of (A := #[Value.ref b]) (hts0 _ (List.mem_of_getElem? (i := 362) (by decide +kernel)))
  have hKK : ∀ k : Nat, ∃ cA : ClassId, ∀ ty : FieldType, ([.int, .byte, .char, .boolean, .long, .object "RiverRanks$Stems"] : List FieldType)[k]? = some ty → ArrOfT s cA ty ∧ va_RA s cA ty := by
    have prim : ∀ ty : FieldType, (Cond.arrayClass ty).before #[Value.ref b] s = true → ∃ (cA : ClassId) (kA : Class) (comp : ClassId), s.vm.findClass ("[" ++ ty.toString) = some cA ∧ s.vm.classes[cA]? = some kA ∧ kA.kind = .array comp ty := fun ty h => Cond.arrayClass_spec h
    intro k
    match k with
    | 0 => obtain ⟨cA, kA, comp, h1, h2, h3⟩ := prim .int (hts _ wa_int); exact ⟨cA, fun ty h => by cases h; exact ⟨fun n z => ⟨fun k h => (by cases h), kA, h2, comp, h3⟩, h1⟩⟩
    | 1 => obtain ⟨cA, kA, comp, h1, h2, h3⟩ := prim .byte (hts _ wa_byte); exact ⟨cA, fun ty h => by cases h; exact ⟨fun n z => ⟨fun k h => (by cases h), kA, h2, comp, h3⟩, h1⟩⟩
    | 2 => obtain ⟨cA, kA, comp, h1, h2, h3⟩ := prim .char (hts _ wa_char); exact ⟨cA, fun ty h => by cases h; exact ⟨fun n z => ⟨fun k h => (by cases h), kA, h2, comp, h3⟩, h1⟩⟩
    | 3 => obtain ⟨cA, kA, comp, h1, h2, h3⟩ := prim .boolean (hts _ wa_boolean); exact ⟨cA, fun ty h => by cases h; exact ⟨fun n z => ⟨fun k h => (by cases h), kA, h2, comp, h3⟩, h1⟩⟩
    | 4 => obtain ⟨cA, kA, comp, h1, h2, h3⟩ := prim .long (hts _ wa_long); exact ⟨cA, fun ty h => by cases h; exact ⟨fun n z => ⟨fun k h => (by cases h), kA, h2, comp, h3⟩, h1⟩⟩
    | 5 =>
      obtain ⟨comp, cA, kA, hcomp, hidx, hkA, hkindA, hnameA⟩ := Cond.arrayOver_spec (va_AO.use (A := #[Value.ref b]) hao)
      exact ⟨cA, fun ty h => by cases h; exact ⟨fun n z => ⟨fun k h => (by cases h), kA, hkA, comp, hkindA⟩, kA, comp, hkA, hkindA, hcomp, hnameA⟩⟩
    | k + 6 => exact ⟨0, fun ty h => by simp at h⟩
  obtain ⟨K, hK⟩ := Classical.axiomOfChoice hKK
  have hKa : va_K (fun k => (g k).1, fun k => (g k).2) vwCl (tyM K) s := by
    refine ⟨fun k q hq => hg k q hq, fun k q hq => ?_⟩
    match k, hq with
    | 0, hq => cases hq; exact hK 0 _ rfl
    | 1, hq => cases hq; exact hK 1 _ rfl
    | 2, hq => cases hq; exact hK 2 _ rfl
    | 3, hq => cases hq; exact hK 3 _ rfl
    | 4, hq => cases hq; exact hK 4 _ rfl
    | 5, hq => cases hq; exact hK 5 _ rfl
    | k + 6, hq => simp [tyM] at hq
  have hN : NWS s := ⟨fun w hw => va_Nw.of (A := #[Value.ref b]) (NW_ok w hw) (hts0 w (tw_nw w hw)), hao⟩
  have hl := lv_entry ([.ref b]) (n := 4) (Nat.le_of_ble_eq_true rfl)
  rw [lg_entry_eq]
  exact law_begin l hL ⟨hx, hb, hml, hown, hts, hKa, hr, hlocks⟩ hN rfl hX hbl (pure_law _ L (fun j => in_32 _) hL) s.heap [] _ (by show s.heap.size = s.heap.size + 0; rfl) (fun k q h => by simp [wsC, cs_0] at h) va_S.rf hl
set_option maxHeartbeats 4000000 in
theorem lw_walk (l : Launch) (hflags : l.flags = flags0) (b : Addr) (xs : List Int32) : MetFree l x (headSpec (Jvm.Cond.code x code maxLocals ret :: tables_1) room_1) (lw_P b xs) (fun _ _ _ _ _ => True) lw_Q := by
  refine MetFree.of_bodyS (code := code) (maxLocals := maxLocals) (ret := ret) (by decide) ?_ ?_
  · intro args s m h hn
    obtain ⟨meth, c, h1, h2, h3, h4, h5, h6, -, -⟩ := Cond.code_spec hn (atoms_spec (ws := Jvm.Cond.code x code maxLocals ret :: tables_1) h _ List.mem_cons_self)
    exact ⟨meth, c, h1, h2, h3, h4, h5, h6⟩
  · intro p e s m args below meth c s₁ B hml0 hP _
    obtain ⟨rfl, hx, hbd, hgv⟩ := hP
    obtain ⟨scr, harrAt, hlist, hof, hsmall⟩ := hx
    obtain ⟨hcb, hkn, -, -⟩ := State.arrayAt?_spec harrAt
    have hown : s.vm.findClass R_law = some m.cls := findClass_of_methodNamed B.named
    have hts0 : ∀ c ∈ (Jvm.Cond.code x code maxLocals ret :: tables_1), c.before #[Value.ref b] s = true := atoms_spec (ws := Jvm.Cond.code x code maxLocals ret :: tables_1) B.pre
    have hts : ∀ w ∈ lw_tbl, w.before #[Value.ref b] s = true := k2_hts_sels lw_privs (fun w hw => hts0 w (List.mem_cons_of_mem _ hw)) lw_privs_ok
    have hml : c.maxLocals = 4 := B.maxLocals_eq (hts0 _ List.mem_cons_self)
    have X₀ : Stand p l e room_1 s m #[Value.ref b] below meth c s₁ [] 0 0 := Stand.of_body B
    have hh0 : s₁.heap = s.heap := by rw [B.state]; rfl
    have hsz : scr.slots.size = xs.length := by rw [← Array.length_toList, hlist, List.length_map]
    have hval : ∀ j : Nat, j < xs.length → scr.slots[j]? = some (.int (xs.getD j 0)) := fun j hj => by
      rw [← Array.getElem?_toList, hlist]
      simp [hj]
    have hbl : b < s.heap.size := (Array.getElem?_eq_some_iff.mp hcb).1
    have hX : va_X b xs.length (fun j => xs.getD j 0) s s.heap := ⟨scr, hcb, hof, hkn, hsz, hval⟩
    have K : W p l e room_1 s m #[Value.ref b] below meth c s₁.heap [] 0 0 (lw_Z below #[Value.ref b] s) (entryFrame m ([Value.ref b] : List Value).toArray 4) := by
      rw [hh0]
      exact whole_start l hflags hbd ⟨B.exec, B.bytes, B.returns, hml, hown, hts, hX, hbl, B.notSynchronized, hgv⟩
    obtain ⟨t, a1, o, b1, b2, b3⟩ := K s₁ rfl X₀
    exact ⟨t, o, a1, b1, b2, b3⟩
theorem lw_pre_spec {args : Array Value} {s : State} (h : (Jvm.Cond.and given_1 narrow_1).before args s = true) (hr : rest_1_c.before args s = true) : ∃ (b : Addr) (xs : List Int32), lw_P b xs args s := by
  have hs := flat_of_before _ h
  have hq := flat_of_before _ hr
  have hc : (Cond.count 1).before args s = true := hs _ (by decide +kernel)
  have harr : (Cond.arrayOf (.arg 0) .int).before args s = true := hs _ (by decide +kernel)
  have hle : (Cond.le (.length (.arg 0)) (.int 3072)).before args s = true := hs _ (by decide +kernel)
  have hlen : (Cond.isInt (.length (.arg 0))).before args s = true := hq _ (by decide +kernel)
  have hall : (Cond.all (.arg 0) (.isInt (.elem (.arg 0) (.index 0)))).before args s = true := hq _ (by decide +kernel)
  obtain ⟨b, xs, hb, hx⟩ := State.ints_of_pre rfl harr hlen hall
  have hsm : xs.length < 2 ^ 31 := hx.choose_spec.2.2.2
  have hev : (Term.length (.arg 0)).eval args s none [] s = some (.int xs.length.toInt32) := hx.length_eval hb
  have hv := Cond.le_ints hev (show (Term.int 3072).eval args s none [] s = some (.int 3072) from rfl)
  have hd : xs.length.toInt32 ≤ 3072 := by
    simpa [Cond.before, Cond.holds, hv] using hle
  have hN : xs.length ≤ 3072 := (Int32.ofNat_le_ofNat hsm (by decide)).mp (show Int32.ofNat xs.length ≤ Int32.ofNat 3072 from hd)
  exact ⟨b, xs, Cond.one_arg hc (show args[0]? = some (.ref b) from hb), hx, hN, h⟩
theorem lw_comes (l : Launch) (hflags : l.flags = flags0) : Comes l x (Jvm.Cond.code x code maxLocals ret :: tables_1) room_1 (fun tb e args s => Calls_1 tb e args s ∧ rest_1 tb e args s ∧ Pre_1 tb e args s)
    (fun _ _ args s o t => lw_Q args s o t) := by
  intro p e ha hc hk s m args below hf hfit hheap happ hpre
  obtain ⟨b, xs, hP⟩ := lw_pre_spec hpre.2.2 hpre.2.1
  obtain ⟨k, o, h1, h2, h3, hQ⟩ := lw_walk l hflags b xs p e ha hc hk s m args below hf ((Spec.applies_iff_loose hf).mp happ).1 hP trivial
  exact ⟨k, o, h1, h2, h3, hQ⟩
theorem lw_frame {s t : State} {o : Outcome} {args : Array Value} (h : Framed s o t [] 127 11322) :
    Framed s o t (fieldLocs frame_1_writes args s ++ arrayLocs frame_1_arrays args s ++ staticLocs frame_1_statics s) 127 11322 := h
theorem lw_limb (L : Cond) (hL : ∀ (args : Array Value) (s t : State), L.after args s (.returned (some (.int 1))) t = true) :
    ArmFor flags0 classFile x code maxLocals ret World_1 tables_1 room_1 Calls_1 rest_1 Pre_1
      (fun tb e a s o t => postC L tb e a s o t ∧ Framed s o t (fieldLocs frame_1_writes a s ++ arrayLocs frame_1_arrays a s ++ staticLocs frame_1_statics s) 127 11322) := by
  intro l hflags _ _ p e ha hc hk s m args below hf hfit hheap happ hpre
  obtain ⟨k, o, h1, h2, h3, rfl, hF⟩ := lw_comes l hflags p e ha hc hk s m args below hf hfit hheap happ hpre
  exact ⟨k, _, h1, h2, h3, hL args s _, lw_frame hF⟩
theorem i_vc : Claimed_1_1 ∧ Claimed_1_2 := ⟨lw_limb limb_1_1 (fun args s t => by simp [limb_1_1, Cond.after, Cond.holds, Cond.value]), lw_limb limb_1_2 (fun args s t => Cond.after_iff.mpr (by
  first | (rw [show limb_1_2 = Cond.eq .result (.int 1) from rfl, Cond.eq_ints (x := 1) (y := 1) rfl rfl]; simp; done) | (simp [limb_1_2, Cond.value, Term.eval]; done)))⟩
