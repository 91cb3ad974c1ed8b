/-! making the objects: a world that grows; .inr 2 is a field that holds null, the array kinds 6, 7, 8 are the array of Stems with 0, 1, 2 places filled -/
def fvC (B : Nat) (f : Nat → Int) (j : Nat) (t : Nat ⊕ Nat) : Value := match t with
  | .inl k => .ref (B + k)
  | .inr 0 => .int (Int32.ofInt (f j))
  | .inr 1 => .long (Int64.ofInt (f j))
  | .inr _ => .null
def fvsC (B : Nat) (f : Nat → Int) : Nat → List (Nat ⊕ Nat) → List Value
  | _, [] => []
  | j, t :: ts => fvC B f j t :: fvsC B f (j + 1) ts
theorem fvsC_at (B : Nat) (f : Nat → Int) : ∀ (ts : List (Nat ⊕ Nat)) (j k : Nat), (fvsC B f j ts)[k]? = (ts[k]?).map (fvC B f (j + k))
  | [], _, _ => by simp [fvsC]
  | t :: ts, j, 0 => by simp [fvsC]
  | t :: ts, j, k + 1 => by
    have h := fvsC_at B f ts (j + 1) k
    simp only [fvsC, List.getElem?_cons_succ]
    rw [h, show j + 1 + k = j + (k + 1) by omega]
theorem fvsC_len (B : Nat) (f : Nat → Int) : ∀ (ts : List (Nat ⊕ Nat)) (j : Nat), (fvsC B f j ts).length = ts.length
  | [], _ => rfl
  | t :: ts, j => by simp [fvsC, fvsC_len B f ts (j + 1)]
theorem fvC_ne {B : Nat} {f : Nat → Int} {k j : Nat} {v : Int} (h : j ≠ k) (t : Nat ⊕ Nat) : fvC B (fun q => if q = k then v else f q) j t = fvC B f j t := by
  rcases t with t | t
  · rfl
  · rcases t with _ | _ | t <;> simp [fvC, h]
/-- a field becomes a number -/
theorem fvsC_set {B : Nat} {f : Nat → Int} {ts : List (Nat ⊕ Nat)} {k : Nat} {t : Nat ⊕ Nat} {v : Int} (ht : ts[k]? = some t) : (fvsC B f 0 ts).set k (fvC B (fun q => if q = k then v else f q) k t) = fvsC B (fun q => if q = k then v else f q) 0 ts := by
  apply List.ext_getElem?
  intro q
  rw [List.getElem?_set, fvsC_at, fvsC_at, fvsC_len]
  by_cases hq : k = q
  · subst hq
    have hl := (List.getElem?_eq_some_iff.mp ht).1
    simp only [if_true, hl, ht, Option.map_some, Nat.zero_add]
  · simp only [hq, if_false, Nat.zero_add]
    cases ts[q]? with
    | none => rfl
    | some u => simp only [Option.map_some]; rw [fvC_ne (Ne.symm hq)]
/-- a field becomes a reference -/
theorem fvsC_ref {B : Nat} {f : Nat → Int} {ts : List (Nat ⊕ Nat)} {k j : Nat} (hk : k < ts.length) : (fvsC B f 0 ts).set k (.ref (B + j)) = fvsC B f 0 (ts.set k (.inl j)) := by
  apply List.ext_getElem?
  intro q
  rw [List.getElem?_set, fvsC_at, fvsC_at, fvsC_len, List.getElem?_set]
  by_cases hq : k = q
  · subst hq
    simp [hk, fvC]
  · simp [hq]
theorem fvsC_B {B : Nat} {f : Nat → Int} : ∀ (ts : List (Nat ⊕ Nat)) (j : Nat), ts.all (fun t => t.isRight) = true → fvsC B f j ts = fvsC 0 f j ts
  | [], _, _ => rfl
  | .inl k :: ts, _, h => by simp at h
  | .inr k :: ts, j, h => by
    have h' : ts.all (fun t => t.isRight) = true := by simpa using h
    simp only [fvsC]
    rw [fvsC_B ts (j + 1) h']
    congr 1
    rcases k with _ | _ | k <;> rfl
theorem fvsC_eq {B : Nat} {f : Nat → Int} : ∀ (ts : List (Nat ⊕ Nat)) (j : Nat), ts.all (fun t => match t with | .inl _ => true | .inr k => k < 2) = true → fvsC B f j ts = fvs B f j ts
  | [], _, _ => rfl
  | .inl k :: ts, j, h => by
    simp only [List.all_cons, Bool.true_and] at h
    simp only [fvsC, fvs]
    rw [fvsC_eq ts (j + 1) h]
    rfl
  | .inr k :: ts, j, h => by
    simp only [List.all_cons, Bool.and_eq_true, decide_eq_true_eq] at h
    simp only [fvsC, fvs]
    rw [fvsC_eq ts (j + 1) h.2]
    congr 1
    rcases k with _ | _ | k
    · rfl
    · rfl
    · omega
def arCC (B : Nat) (f : Nat → Int) (k : Nat) : (Nat → Int32) ⊕ (Nat → Int64) ⊕ (Nat → UInt32) ⊕ (Nat → UInt64) ⊕ (Nat → Option Nat) :=
  if k < 6 then arC B f k else .inr (.inr (.inr (.inr (fun j => if j < k - 6 then some (B + (37 + 7 * j)) else none))))
def cellC (B : Nat) (K : Nat → ClassId) (f : Nat → Int) (t : Sh) : va_E := match t with
  | .inl (k, n) => .inl (K (min k 5), n, arCC B f k)
  | .inr (c, ts) => .inr (c, fvsC B f 0 ts)
def wsC (B : Nat) (K : Nat → ClassId) (M : Mem) (S : List Sh) : va_W := (List.range S.length).map (fun i => (B + i, cellC B K (M i) (S.getD i (.inl (9, 0)))))
def GE (B : Nat) : Nat → Prop := fun q => B ≤ q
theorem wsC_len (B : Nat) (K : Nat → ClassId) (M : Mem) (S : List Sh) : (wsC B K M S).length = S.length := by simp [wsC]
theorem wsC_at {B : Nat} {K : Nat → ClassId} {M : Mem} {S : List Sh} {i : Nat} {t : Sh} (h : S[i]? = some t) : (wsC B K M S)[i]? = some (B + i, cellC B K (M i) t) := by
  have hl := (List.getElem?_eq_some_iff.mp h).1
  unfold wsC
  rw [List.getElem?_map, List.getElem?_range hl]
  simp [List.getD_eq_getElem?_getD, h]
theorem wsC_of {B : Nat} {K : Nat → ClassId} {M : Mem} {S : List Sh} {k : Nat} {q : Nat × va_E} (h : (wsC B K M S)[k]? = some q) : k < S.length ∧ q.1 = B + k := by
  have hk : k < S.length := by rw [← wsC_len B K M]; exact (List.getElem?_eq_some_iff.mp h).1
  rw [wsC_at (List.getElem?_eq_getElem hk)] at h
  exact ⟨hk, by rw [← Option.some.inj h]⟩
theorem wsC_D (B : Nat) (K : Nat → ClassId) (M : Mem) (S : List Sh) : va_D (GE B) (wsC B K M S) := by
  refine ⟨fun i j p q hi hj e => ?_, fun k q hk => ?_⟩
  · have h1 := wsC_of hi
    have h2 := wsC_of hj
    omega
  · have h1 := wsC_of hk
    show B ≤ q.1
    omega
theorem wsC_push {B : Nat} {K : Nat → ClassId} {M : Mem} {S : List Sh} {t : Sh} : wsC B K M (S ++ [t]) = wsC B K M S ++ [(B + S.length, cellC B K (M S.length) t)] := by
  unfold wsC
  rw [List.length_append, List.length_singleton, List.range_succ, List.map_append, List.map_singleton]
  congr 1
  · apply List.map_congr_left
    intro i hi
    have hi : i < S.length := List.mem_range.mp hi
    simp [List.getD_eq_getElem?_getD, List.getElem?_append_left hi]
  · simp [List.getD_eq_getElem?_getD]
theorem wsC_set {B : Nat} {K : Nat → ClassId} {M M' : Mem} {S : List Sh} {i : Nat} {t : Sh} (hi : i < S.length) (hM : ∀ d, d ≠ i → M' d = M d) : (wsC B K M S).set i (B + i, cellC B K (M' i) t) = wsC B K M' (S.set i t) := by
  apply List.ext_getElem?
  intro k
  rw [List.getElem?_set, wsC_len]
  by_cases hk : i = k
  · subst hk
    rw [if_pos rfl, if_pos hi, wsC_at (t := t) (by simp [hi])]
  · rw [if_neg hk]
    rcases Nat.lt_or_ge k S.length with q | q
    · rw [wsC_at (List.getElem?_eq_getElem q), wsC_at (t := S[k]) (by rw [List.getElem?_set_ne hk, List.getElem?_eq_getElem q]), hM k (Ne.symm hk)]
    · rw [List.getElem?_eq_none (by rw [wsC_len]; exact q), List.getElem?_eq_none (by rw [wsC_len, List.length_set]; exact q)]
def NW : List Cond := [.methodLinkNest RX11 9 yX10_init "RiverRanks", .methodLinkNest RX6 11 yX5_init "RiverRanks", .methodLinkNest RX11 27 yX5_init "RiverRanks", .methodLinkNest RX11 41 yX1_init "RiverRanks", .methodLinkNest RX1 44 yX2_init "RiverRanks", .methodLinkNest RX11 48 yX9_init "RiverRanks", .methodLinkNest RX11 55 yX3_init "RiverRanks", .methodLinkNest RX11 62 yX0_init "RiverRanks", .methodLinkNest RX11 69 yX8_init "RiverRanks", .methodLinkNest RX11 76 yX4_init "RiverRanks", .methodLinkNest RX11 83 yX7_init "RiverRanks"]
def GC (p : Program) (l : Launch) (e : Env) (R : Room) (s : State) (m : MethodId) (args : Array Value) (below : List Frame) (meth : Method) (c : Code) (B : Nat) (D : va_G) (K : Nat → ClassId) (nL nc ns : Nat) (Z : State → Prop) (S : List Sh) (M : Mem) (pc : Nat) (lv : List (Nat × Value)) (sk : List Value) : Prop :=
  ∀ (H : Heap) (locs : List Loc) (ls : Array Slot), H.size = B + S.length → va_P D vwCl (wsC B K M S) H → va_S (GE B) s.heap H locs → lv_has ls nL lv → W p l e R s m args below meth c H locs nc ns Z (F0 m pc ls sk)
section
variable {p : Program} {l : Launch} {e : Env} {R : Room} {s : State} {m : MethodId} {args : Array Value} {below : List Frame} {meth : Method} {c : Code} {B : Nat} {D : va_G} {K : Nat → ClassId} {cc : ByteArray} {nL nc ns : Nat} {own : String} {ret : Option FieldType} {Z : State → Prop} {S : List Sh} {M : Mem} {pc : Nat} {lv : List (Nat × Value)} {sk : List Value}
theorem gc_aload_n (h : Cx p s m args meth c D K cc nL own ret) {k : Fin 4} {x : Nat} {i : Nat} (j : Nat) (d : decode cc pc = .ok (.aload_n k, 1)) (hi : (k : Nat) = i) (hl : lv[j]? = some (i, .ref x)) (kk : GC p l e R s m args below meth c B D K nL nc ns Z S M (pc + 1) lv (.ref x :: sk)) : GC p l e R s m args below meth c B D K nL nc ns Z S M pc lv sk :=
  fun H locs ls hz hP hS hv => lv_aload_n h.1 h.2.1 d hi (lv_at hv j hl) (kk H locs ls hz hP hS hv)
theorem gc_iconst (h : Cx p s m args meth c D K cc nL own ret) {n : Int} (d : decode cc pc = .ok (.iconst n, 1)) (kk : GC p l e R s m args below meth c B D K nL nc ns Z S M (pc + 1) lv (J n :: sk)) : GC p l e R s m args below meth c B D K nL nc ns Z S M pc lv sk :=
  fun H locs ls hz hP hS hv => lv_iconst h.1 h.2.1 d rfl (kk H locs ls hz hP hS hv)
theorem gc_bipush (h : Cx p s m args meth c D K cc nL own ret) {n : Int} (d : decode cc pc = .ok (.bipush n, 2)) (hn : (Int8.ofInt n).toInt32 = Int32.ofInt n) (kk : GC p l e R s m args below meth c B D K nL nc ns Z S M (pc + 2) lv (J n :: sk)) : GC p l e R s m args below meth c B D K nL nc ns Z S M pc lv sk :=
  fun H locs ls hz hP hS hv => lv_bipush h.1 h.2.1 d hn (kk H locs ls hz hP hS hv)
theorem gc_sipush (h : Cx p s m args meth c D K cc nL own ret) {n : Int} (d : decode cc pc = .ok (.sipush n, 3)) (hn : (Int16.ofInt n).toInt32 = Int32.ofInt n) (kk : GC p l e R s m args below meth c B D K nL nc ns Z S M (pc + 3) lv (J n :: sk)) : GC p l e R s m args below meth c B D K nL nc ns Z S M pc lv sk :=
  fun H locs ls hz hP hS hv => lv_sipush h.1 h.2.1 d hn (kk H locs ls hz hP hS hv)
theorem gc_lconst (h : Cx p s m args meth c D K cc nL own ret) {k : Fin 2} {n : Int} (d : decode cc pc = .ok (.lconst k, 1)) (hn : Int64.ofNat (k : Nat) = Int64.ofInt n) (kk : GC p l e R s m args below meth c B D K nL nc ns Z S M (pc + 1) lv (JL n :: sk)) : GC p l e R s m args below meth c B D K nL nc ns Z S M pc lv sk :=
  fun H locs ls hz hP hS hv => lv_lconst h.1 h.2.1 d hn (kk H locs ls hz hP hS hv)
theorem gc_dup (h : Cx p s m args meth c D K cc nL own ret) {v : Value} (d : decode cc pc = .ok (.dup, 1)) (hc : v.category = 1) (kk : GC p l e R s m args below meth c B D K nL nc ns Z S M (pc + 1) lv (v :: v :: sk)) : GC p l e R s m args below meth c B D K nL nc ns Z S M pc lv (v :: sk) :=
  fun H locs ls hz hP hS hv => lv_dup h.1 h.2.1 d hc (kk H locs ls hz hP hS hv)
theorem gc_astore_n (h : Cx p s m args meth c D K cc nL own ret) {k : Fin 4} {x : Nat} {i : Nat} (lv' : List (Nat × Value)) (d : decode cc pc = .ok (.astore_n k, 1)) (hi : (k : Nat) = i) (hn : i < nL) (hl : (i, Value.ref x) :: lv.filter (fun q => !(q.1 == i) && !(q.1 + 1 == i && q.2.category == 2)) = lv') (kk : GC p l e R s m args below meth c B D K nL nc ns Z S M (pc + 1) lv' sk) : GC p l e R s m args below meth c B D K nL nc ns Z S M pc lv (.ref x :: sk) :=
  fun H locs ls hz hP hS hv => lv_astore_n h.1 h.2.1 d hi hv hn hl (fun ls' hv' => kk H locs ls' hz hP hS hv')
theorem gc_obj (h : Cx p s m args meth c D K cc nL own ret) {idx x : Nat} (hw : Cond.methodLink own idx objectInit ∈ TW ∧ Cond.instanceMethod objectInit ∈ TW ∧ Cond.code objectInit ⟨#[0xb1]⟩ 1 none ∈ TW) (hfr : 1 ≤ R.frames) (hlo : (sk.map fun v => v.category).sum + 12 ≤ R.locals) (d : decode cc pc = .ok (.invokespecial idx, 3)) (kk : GC p l e R s m args below meth c B D K nL nc ns Z S M (pc + 3) lv sk) : GC p l e R s m args below meth c B D K nL nc ns Z S M pc lv (.ref x :: sk) :=
  fun H locs ls hz hP hS hv => W.objInit h.1 h.2.1 h.2.2.2.1 (h.2.2.2.2.1 _ hw.1) (h.2.2.2.2.1 _ hw.2.1) (h.2.2.2.2.1 _ hw.2.2) rfl (hv.1.trans h.2.2.1.symm) rfl d hfr (by show 2 * 0 + _ + 12 ≤ _; omega) (kk H locs ls hz hP hS hv)
theorem gc_grow {S : List Sh} {H H1 : Heap} {locs : List Loc} {t : Sh} (hz : H.size = B + S.length) (hP : va_P D vwCl (wsC B K M S) H) (hS : va_S (GE B) s.heap H locs) (z1 : H1.size = H.size + 1) (o1 : ∀ q, q < H.size → H1[q]? = H[q]?) (h1 : va_at D vwCl (B + S.length, cellC B K (M S.length) t) H1) : H1.size = B + (S ++ [t]).length ∧ va_P D vwCl (wsC B K M (S ++ [t])) H1 ∧ va_S (GE B) s.heap H1 locs := by
  refine ⟨by simp; omega, ?_, ⟨Nat.le_trans hS.1 (by omega), fun x h1 h2 => (o1 x (Nat.lt_of_lt_of_le h1 hS.1)).trans (hS.2.1 x h1 h2), hS.2.2⟩⟩
  rw [wsC_push]
  refine (hP.kept (fun k x hx => o1 x.1 ((hP k x hx).lt))).app (fun k x hx => ?_)
  have hz : k < 1 := (List.getElem?_eq_some_iff.mp hx).1
  rw [show k = 0 by omega] at hx
  cases hx
  exact h1
theorem gc_new (h : Cx p s m args meth c D K cc nL own ret) {C : String} {T : u_T} {N ci idx : Nat} {fs : List (Nat ⊕ Nat)} {ty : Nat → FieldType} (k : Nat) (S' : List Sh) (hC : vwCl[ci]? = some (C, T, N) ∧ ∀ w ∈ u_ws C T N, w ∈ TW) (hT : (∀ k, k < N → parseFieldDescriptor (T k).2.2.1 = some (ty k)) ∧ ∀ a, a < N → ∀ b, b < N → a ≠ b → (T a).2.1 ≠ (T b).2.1) (hw : Cond.classLink own idx C ∈ TW ∧ Cond.instantiable C N ∈ TW ∧ Cond.initialized C ∈ TW) (hk : S.length = k) (hS' : S ++ [.inr (ci, fs)] = S') (hM : M k = fun _ => 0) (hr : fs.all (fun t => t.isRight) = true) (hfs : ∀ j, j < N → defaultValue (ty j) = vp_V (fvsC 0 (fun _ => 0) 0 fs) j) (hnc : nc + 1 ≤ R.cells) (hns : ns + N ≤ R.slots) (d : decode cc pc = .ok (.new idx, 3)) (kk : GC p l e R s m args below meth c B D K nL (nc + 1) (ns + N) Z S' M (pc + 3) lv (.ref (B + k) :: sk)) : GC p l e R s m args below meth c B D K nL nc ns Z S M pc lv sk := by
  subst hk
  subst hS'
  intro H locs ls hz hP hS hv
  have hKn := h.2.2.2.2.2.1.1 ci _ hC.1
  refine W.newcK h.1 h.2.1 h.2.2.2.1 (h.2.2.2.2.1 _ hw.1) (h.2.2.2.2.1 _ hw.2.1) (h.2.2.2.2.1 _ hw.2.2) rfl d hnc hns hKn.2.1 hz fun H1 kC hkC e1 z1 o1 => ?_
  obtain ⟨g1, g2, g3⟩ := gc_grow (D := D) (K := K) (M := M) (s := s) (t := .inr (ci, fs)) (locs := locs) hz hP hS (z1.trans (by rw [hz])) (fun q hq => o1 q (by rw [← hz]; exact hq)) ⟨_, hC.1, (u_born ty h.2.2.2.2.1 hC.2 hKn hkC e1 hT.1).to (fun j hj => by rw [hM, fvsC_B fs 0 hr]; exact hfs j hj)⟩
  exact kk H1 locs ls g1 g2 g3 hv
theorem gc_newa (h : Cx p s m args meth c D K cc nL own ret) {atype : ArrayType} {n : Int} (t N k : Nat) (S' : List Sh) (ht : t < 5) (hty : (tyM K)[t]? = some (K t, newarray.typeOf atype)) (hw : Cond.arrayClass (newarray.typeOf atype) ∈ TW) (hz0 : ∀ cA : ClassId, vp_cell cA (N, arC B (fun _ => 0) t) = arrV cA N (fun _ => defaultValue (newarray.typeOf atype))) (hra : ∀ (cA : ClassId), va_RA s (K t) (newarray.typeOf atype) → s.vm.findClass ("[" ++ (newarray.typeOf atype).toString) = some cA → cA = K t) (hk : S.length = k) (hS' : S ++ [.inl (t, N)] = S') (hM : M k = fun _ => 0) (hn : ¬ Int32.ofInt n < 0) (hN : (Int32.ofInt n).toNatClampNeg = N) (hb : N * componentBytes (newarray.typeOf atype) ≤ 536870912) (hnc : nc + 1 ≤ R.cells) (hns : ns + N ≤ R.slots) (d : decode cc pc = .ok (.newarray atype, 2)) (kk : GC p l e R s m args below meth c B D K nL (nc + 1) (ns + N) Z S' M (pc + 2) lv (.ref (B + k) :: sk)) : GC p l e R s m args below meth c B D K nL nc ns Z S M pc lv (J n :: sk) := by
  subst hk
  subst hS'
  intro H locs ls hz hP hS hv
  refine va_newaK h.1 h.2.1 (h.2.2.2.2.1 _ hw) rfl d rfl hn hN hb hnc hns hz fun H1 cA e1 z1 o1 hAr hNm => ?_
  have hcA : cA = K t := hra cA (h.2.2.2.2.2.1.2 t _ hty).2 hNm
  obtain ⟨g1, g2, g3⟩ := gc_grow (D := D) (K := K) (M := M) (s := s) (t := .inl (t, N)) (locs := locs) hz hP hS (z1.trans (by rw [hz])) (fun q hq => o1 q (by rw [← hz]; exact hq)) (by
    show H1[B + S.length]? = some (vp_cell (K (min t 5)) (N, arCC B (M S.length) t))
    rw [show min t 5 = t by omega, hM]
    unfold arCC
    rw [if_pos (by omega), hz0, ← hcA]
    exact e1)
  exact kk H1 locs ls g1 g2 g3 hv
theorem gc_anew (h : Cx p s m args meth c D K cc nL own ret) {idx : Nat} {n : Int} (k : Nat) (S' : List Sh) (hw : Cond.classLink own idx "RiverRanks$Stems" ∈ TW) (hao : va_AO "RiverRanks$Stems" s) (hk : S.length = k) (hS' : S ++ [.inl (6, 3)] = S') (hn : ¬ Int32.ofInt n < 0) (hN : (Int32.ofInt n).toNatClampNeg = 3) (hnc : nc + 1 ≤ R.cells) (hns : ns + 3 ≤ R.slots) (d : decode cc pc = .ok (.anewarray idx, 3)) (kk : GC p l e R s m args below meth c B D K nL (nc + 1) (ns + 3) Z S' M (pc + 3) lv (.ref (B + k) :: sk)) : GC p l e R s m args below meth c B D K nL nc ns Z S M pc lv (J n :: sk) := by
  subst hk
  subst hS'
  intro H locs ls hz hP hS hv
  refine W.anew h.1 h.2.1 h.2.2.2.1 (h.2.2.2.2.1 _ hw) (va_AO.use hao) rfl d rfl hn (by rw [hN]; omega) hnc (by rw [hN]; exact hns) fun cA kA comp f1 f2 f3 f4 => ?_
  rw [hN]
  generalize hH1 : H.push ({ cls := cA, slots := Array.replicate 3 .null, vm := .none } : Cell) = H1
  have z1 : H1.size = H.size + 1 := by rw [← hH1, Array.size_push]
  have e1 : H1[H.size]? = some (arrV cA 3 (fun _ => .null)) := by rw [← hH1, Array.getElem?_push_size, ← arrV_new]
  have o1 : ∀ q : Nat, q < H.size → H1[q]? = H[q]? := fun q hq => by rw [← hH1, Array.getElem?_push, if_neg (Nat.ne_of_lt hq)]
  have hcA : cA = K 5 := by
    obtain ⟨kA', comp', r1, r2, r3, r4⟩ := (h.2.2.2.2.2.1.2 5 _ rfl).2
    exact Option.some.inj (f1.symm.trans r4)
  obtain ⟨g1, g2, g3⟩ := gc_grow (D := D) (K := K) (M := M) (s := s) (t := .inl (6, 3)) (locs := locs) hz hP hS z1 o1 (by
    show H1[B + S.length]? = some (vp_cell (K 5) (3, .inr (.inr (.inr (.inr (fun j => if j < 0 then some (B + (37 + 7 * j)) else none))))))
    rw [vp_cell_q, ← hcA, ← hz, e1]
    congr 2)
  have g4 := kk H1 locs ls g1 g2 g3 hv
  rw [← hz] at g4
  exact g4
theorem gc_upd {a k : Nat} {t0 t : Sh} {M' : Mem} {H H1 : Heap} {locs : List Loc} (hz : H.size = B + S.length) (hP : va_P D vwCl (wsC B K M S) H) (hS : va_S (GE B) s.heap H locs) (ha : S[a]? = some t0) (z : H1.size = H.size) (oq : ∀ q, q ≠ B + a → H1[q]? = H[q]?) (hM : ∀ d, d ≠ a → M' d = M d) (he : va_at D vwCl (B + a, cellC B K (M' a) t) H1) : H1.size = B + (S.set a t).length ∧ va_P D vwCl (wsC B K M' (S.set a t)) H1 ∧ va_S (GE B) s.heap H1 (locs ++ [⟨B + a, k⟩]) := by
  have hal := (List.getElem?_eq_some_iff.mp ha).1
  refine ⟨by rw [List.length_set, z]; exact hz, ?_, hS.put z oq (Nat.le_add_right B a)⟩
  rw [← wsC_set hal hM]
  exact hP.set (wsC_D B K M S) (wsC_at ha) he oq
theorem gc_aast (h : Cx p s m args meth c D K cc nL own ret) {x : Int} {fs : List (Nat ⊕ Nat)} (a k j : Nat) (S' : List Sh) (ha : S[a]? = some (.inl (6 + j, 3))) (hk : S[k]? = some (.inr (9, fs))) (hj : j < 3) (hx : x = j) (hkj : k = 37 + 7 * j) (hS' : S.set a (.inl (if j = 2 then 5 else 7 + j, 3)) = S') (d : decode cc pc = .ok (.aastore, 1)) (kk : GC p l e R s m args below meth c B D K nL nc ns Z S' M (pc + 1) lv sk) : GC p l e R s m args below meth c B D K nL nc ns Z S M pc lv (.ref (B + k) :: J x :: .ref (B + a) :: sk) := by
  subst hS'
  subst hx
  intro H locs ls hz hP hS hv
  have hcl : (Int32.ofInt (j : Int)).toNatClampNeg = j := by rw [clamp32 (n := 3) (by omega) (by omega) (by omega)]; omega
  have h0 : ¬ Int32.ofInt (j : Int) < 0 := nn32 ⟨by omega, by omega⟩ (by omega)
  have e0 : cellC B K (M a) (.inl (6 + j, 3)) = .inl (K 5, 3, .inr (.inr (.inr (.inr (fun q => if q < j then some (B + (37 + 7 * q)) else none))))) := by
    simp only [cellC, arCC]
    rw [if_neg (by omega), show min (6 + j) 5 = 5 by omega, show 6 + j - 6 = j by omega]
  have hA := hP a _ (wsC_at ha)
  rw [e0] at hA
  have hA : H[B + a]? = some (vp_cell (K 5) (3, .inr (.inr (.inr (.inr (fun q => if q < j then some (B + (37 + 7 * q)) else none)))))) := hA
  have hcls := (h.2.2.2.2.2.1.1 9 _ rfl).2
  obtain ⟨r1, hr1, cellV, g1, g2, g3, -⟩ := hP k _ (wsC_at hk)
  obtain ⟨kA, comp, k1, k2, k3, -⟩ := (h.2.2.2.2.2.1.2 5 _ rfl).2
  have hcomp : comp = D.1 9 := Option.some.inj (k3.symm.trans hcls.1)
  subst hcomp
  obtain ⟨kC, hkC, -⟩ := hcls.2
  refine W.aast h.1 h.2.1 hA (fun q h => by cases h) (fun h => by cases h) k1 k2 rfl hkC ⟨h0, by show _ < (arrV _ _ _).slots.size; rw [arrV_size, hcl]; exact hj⟩ g1 (fun q h => by rw [g3] at h; cases h) (by rw [g2]; exact hkC) (by rw [g2]; exact va_assign hcls) rfl rfl d fun H1 e1 z oq => ?_
  rw [hcl] at e1
  obtain ⟨q1, q2, q3⟩ := gc_upd (D := D) (K := K) (M := M) (M' := M) (s := s) (k := (Int32.ofInt (j : Int)).toNatClampNeg) (t := .inl (if j = 2 then 5 else 7 + j, 3)) hz hP hS ha z oq (fun _ _ => rfl) (by
    show H1[B + a]? = some (vp_cell (K (min (if j = 2 then 5 else 7 + j) 5)) (3, arCC B (M a) (if j = 2 then 5 else 7 + j)))
    rw [e1, vp_cell_q, arrV_store]
    rcases (show j = 0 ∨ j = 1 ∨ j = 2 by omega) with q | q | q
    · subst q; subst hkj; rfl
    · subst q; subst hkj; rfl
    · subst q; subst hkj; rfl)
  exact kk H1 _ ls q1 q2 q3 hv
theorem gc_cast (h : Cx p s m args meth c D K cc nL own ret) {x v : Int} {n : Nat} (a j : Nat) (ha : S[a]? = some (.inl (2, n))) (hn : n ≤ 65536) (hj : j < n) (hx : x = j) (hv0 : narrow .char (J v) = J v) (d : decode cc pc = .ok (.castore, 1)) (kk : GC p l e R s m args below meth c B D K nL nc ns Z S (st M a j v) (pc + 1) lv sk) : GC p l e R s m args below meth c B D K nL nc ns Z S M pc lv (J v :: J x :: .ref (B + a) :: sk) := by
  subst hx
  intro H locs ls hz hP hS hv
  have hin : vp_in (Int32.ofInt (j : Int)) n := vin32 (by omega) (by omega) (by omega)
  have hcl : (Int32.ofInt (j : Int)).toNatClampNeg = j := by rw [clamp32 (n := n) (by omega) (by omega) (by omega)]; omega
  have hA : H[B + a]? = some (vp_cell (K 2) (n, .inl (fun j => Int32.ofInt (M a j)))) := hP a _ (wsC_at ha)
  refine W.cast h.1 h.2.1 hA ((h.2.2.2.2.2.1.2 2 _ rfl).1 n (fun j => .int (Int32.ofInt (M a j)))) (fun q => by cases q) (by show ¬ (_ < 0 ∨ (arrV _ _ _).slots.size ≤ _); rw [arrV_size]; exact hin) rfl rfl d fun H1 e1 z oq => ?_
  rw [hcl, hv0] at e1
  obtain ⟨q1, q2, q3⟩ := gc_upd (D := D) (K := K) (M := M) (M' := st M a j v) (s := s) (k := (Int32.ofInt (j : Int)).toNatClampNeg) (t := .inl (2, n)) hz hP hS ha z oq (fun d hd => st_ne hd) (by
    show H1[B + a]? = some (vp_cell (K 2) (n, .inl (fun q => Int32.ofInt (st M a j v a q))))
    rw [e1, vp_cell_i, vp_cell_i, arrV_store, st_at]
    congr 2
    funext q
    by_cases hq : q = j
    · subst hq; simp [updV]
    · simp [updV, hq])
  have e2 : S.set a (.inl (2, n)) = S := by
    apply List.ext_getElem?
    intro q
    by_cases hq : a = q
    · subst hq; rw [ha]; simp [(List.getElem?_eq_some_iff.mp ha).1]
    · rw [List.getElem?_set_ne hq]
  rw [e2] at q1 q2
  exact kk H1 _ ls q1 q2 q3 hv
theorem gc_putr (h : Cx p s m args meth c D K cc nL own ret) (hin : meth.name = "<init>") {T : u_T} {N ci idx i j : Nat} {fs : List (Nat ⊕ Nat)} {ty0 : Nat → FieldType} {ty : FieldType} (S' : List Sh) (hC : vwCl[ci]? = some (own, T, N) ∧ ∀ w ∈ u_ws own T N, w ∈ TW) (hT : (∀ k, k < N → parseFieldDescriptor (T k).2.2.1 = some (ty0 k)) ∧ ∀ a, a < N → ∀ b, b < N → a ≠ b → (T a).2.1 ≠ (T b).2.1) (hs : S[i]? = some (.inr (ci, fs))) (k : Nat) (hk : k < N) (hl : k < fs.length) (hfin : (T k).2.2.2 = true) (hdecl : (T k).1 = own) (hty : parseFieldDescriptor (T k).2.2.1 = some ty) (hnr : narrow ty (.ref (B + j)) = .ref (B + j)) (hft : fits ty (.ref (B + j)) = true) (hw : Cond.fieldLink own idx (T k).1 (T k).2.1 (T k).2.2.1 ∈ TW) (hS' : S.set i (.inr (ci, fs.set k (.inl j))) = S') (d : decode cc pc = .ok (.putfield idx, 3)) (kk : GC p l e R s m args below meth c B D K nL nc ns Z S' M (pc + 3) lv sk) : GC p l e R s m args below meth c B D K nL nc ns Z S M pc lv (.ref (B + j) :: .ref (B + i) :: sk) := by
  subst hS'
  intro H locs ls hz hP hS hv
  have hts := h.2.2.2.2.1
  have hap := va_apart (own := own) (s := s) hts hC.2 ty0 hT.1 hT.2 h.2.2.2.2.2.1 hC.1
  obtain ⟨r, h1, cell, q1, q2, q3, q4⟩ := hP i _ (wsC_at hs)
  have hr : r = (own, T, N) := Option.some.inj (h1.symm.trans hC.1)
  subst hr
  obtain ⟨hSl, hfc, kC, hkC, hkind⟩ := h.2.2.2.2.2.1.1 ci _ hC.1
  obtain ⟨cf, kf, fi, f, hi, hsl⟩ := hSl k hk
  have hlay := hts _ (hC.2 _ (u_in_lay hk))
  unfold u_lay at hlay
  rw [if_pos hfin] at hlay
  have hst := (u_facts hfc hkC (u_lays hts hC.2 hk) hi).1
  have hcf : m.cls = cf := by
    obtain ⟨_, _, c', _, _, _, -, -, hf', -, -, -, hown2, -⟩ := Cond.laysFinal_spec hlay
    have e1 : c' = cf := by have := hi.symm.trans hf'; simp at this; exact this.1.symm
    rw [hdecl] at hown2
    rw [← e1]; exact Option.some.inj (h.2.2.2.1.symm.trans hown2)
  have h6 := u_fits hfc hkC hkind (Or.inr hlay) hi hty hnr hft
  refine W.putFinK h.1 h.2.1 h.2.2.2.1 (hts _ hw) hi hst hcf hin (by rw [q2]; exact h6) q1 q3 (by rw [hsl]; exact k2_hasslot (q4 k hk)) rfl rfl d fun H1 e1 z oq => ?_
  rw [hsl] at e1 ⊢
  obtain ⟨z1, z2, z3⟩ := gc_upd (D := D) (K := K) (M := M) (M' := M) (s := s) (k := D.2 ci k) (t := .inr (ci, fs.set k (.inl j))) hz hP hS hs z oq (fun _ _ => rfl) (by
    refine ⟨_, hC.1, t_OB.to (V := updV (vp_V (fvsC B (M i) 0 fs)) k (.ref (B + j))) ⟨_, e1, q2, q3, t_set q4 hap hk (.ref (B + j))⟩ (fun q _ => ?_)⟩
    rw [vp_updV_set (by rw [fvsC_len]; exact hl), fvsC_ref hl])
  exact kk H1 _ ls z1 z2 z3 hv
theorem gc_putn (h : Cx p s m args meth c D K cc nL own ret) {T : u_T} {N ci idx i : Nat} {fs : List (Nat ⊕ Nat)} {ty0 : Nat → FieldType} {ty : FieldType} {v : Int} {t : Nat ⊕ Nat} {w : Value} (hC : vwCl[ci]? = some (own, T, N) ∧ ∀ w ∈ u_ws own T N, w ∈ TW) (hT : (∀ k, k < N → parseFieldDescriptor (T k).2.2.1 = some (ty0 k)) ∧ ∀ a, a < N → ∀ b, b < N → a ≠ b → (T a).2.1 ≠ (T b).2.1) (hs : S[i]? = some (.inr (ci, fs))) (k : Nat) (hk : k < N) (hf : fs[k]? = some t) (hfin : (T k).2.2.2 = false) (hty : parseFieldDescriptor (T k).2.2.1 = some ty) (hw0 : ∀ g : Nat → Int, g k = v → fvC B g k t = w) (hnr : narrow ty w = w) (hft : fits ty w = true) (hw : Cond.fieldLink own idx (T k).1 (T k).2.1 (T k).2.2.1 ∈ TW) (d : decode cc pc = .ok (.putfield idx, 3)) (kk : GC p l e R s m args below meth c B D K nL nc ns Z S (st M i k v) (pc + 3) lv sk) : GC p l e R s m args below meth c B D K nL nc ns Z S M pc lv (w :: .ref (B + i) :: sk) := by
  intro H locs ls hz hP hS hv
  have hts := h.2.2.2.2.1
  have hap := va_apart (own := own) (s := s) hts hC.2 ty0 hT.1 hT.2 h.2.2.2.2.2.1 hC.1
  obtain ⟨r, h1, cell, q1, q2, q3, q4⟩ := hP i _ (wsC_at hs)
  have hr : r = (own, T, N) := Option.some.inj (h1.symm.trans hC.1)
  subst hr
  obtain ⟨hSl, hfc, kC, hkC, hkind⟩ := h.2.2.2.2.2.1.1 ci _ hC.1
  obtain ⟨cf, kf, fi, f, hi, hsl⟩ := hSl k hk
  have hlay := hts _ (hC.2 _ (u_in_lay hk))
  unfold u_lay at hlay
  rw [if_neg (by rw [hfin]; decide)] at hlay
  have hst := (u_facts hfc hkC (u_lays hts hC.2 hk) hi).1
  have h6 := u_store hfc hkC hkind hlay hi hty hnr hft
  have hl := (List.getElem?_eq_some_iff.mp hf).1
  refine W.putK h.1 h.2.1 (f := f) ⟨h.2.2.2.1, hts _ hw, ⟨_, _, _, hi⟩, hst⟩ (by rw [q2]; exact h6) q1 q3 (by rw [hsl]; exact k2_hasslot (q4 k hk)) rfl rfl d fun H1 e1 z oq => ?_
  rw [hsl] at e1 ⊢
  obtain ⟨z1, z2, z3⟩ := gc_upd (D := D) (K := K) (M := M) (M' := st M i k v) (s := s) (k := D.2 ci k) (t := .inr (ci, fs)) hz hP hS hs z oq (fun d hd => st_ne hd) (by
    refine ⟨_, hC.1, t_OB.to (V := updV (vp_V (fvsC B (M i) 0 fs)) k w) ⟨_, e1, q2, q3, t_set q4 hap hk w⟩ (fun q _ => ?_)⟩
    rw [vp_updV_set (by rw [fvsC_len]; exact hl), ← hw0 (fun q => if q = k then v else M i q) (by simp), fvsC_set hf, st_at])
  have e2 : S.set i (.inr (ci, fs)) = S := by
    apply List.ext_getElem?
    intro q
    by_cases hq : i = q
    · subst hq; rw [hs]; simp [(List.getElem?_eq_some_iff.mp hs).1]
    · rw [List.getElem?_set_ne hq]
  rw [e2] at z1 z2
  exact kk H1 _ ls z1 z2 z3 hv
theorem gc_getr (h : Cx p s m args meth c D K cc nL own ret) {C : String} {T : u_T} {N ci idx i j : Nat} {fs : List (Nat ⊕ Nat)} (hC : vwCl[ci]? = some (C, T, N) ∧ ∀ w ∈ u_ws C T N, w ∈ TW) (hs : S[i]? = some (.inr (ci, fs))) (k : Nat) (hk : k < N) (hf : fs[k]? = some (.inl j)) (hw : Cond.fieldLink own idx (T k).1 (T k).2.1 (T k).2.2.1 ∈ TW) (d : decode cc pc = .ok (.getfield idx, 3)) (kk : GC p l e R s m args below meth c B D K nL nc ns Z S M (pc + 3) lv (.ref (B + j) :: sk)) : GC p l e R s m args below meth c B D K nL nc ns Z S M pc lv (.ref (B + i) :: sk) :=
  fun H locs ls hz hP hS hv => va_get h.1 h.2.1 h.2.2.2.2.1 hC.2 h.2.2.2.1 h.2.2.2.2.2.1 hP i (fs := fvsC B (M i) 0 fs) (by rw [wsC_at hs]; rfl) hC.1 k hk (h.2.2.2.2.1 _ hw) (fun _ q => q) (v := .ref (B + j)) (by rw [fvsC_at, hf]; rfl) d (kk H locs ls hz hP hS hv)
/-! contracts of constructors -/
def NWS (U : State) : Prop := (∀ w ∈ NW, va_Nw w U) ∧ va_AO "RiverRanks$Stems" U
def WC (B : Nat) (D : va_G) (K : Nat → ClassId) (S : List Sh) (M : Mem) (U : State) : Prop := U.heap.size = B + S.length ∧ va_P D vwCl (wsC B K M S) U.heap ∧ va_K D vwCl (tyM K) U ∧ NWS U
theorem NW_ok : ∀ w ∈ NW, w.onTables = true := by decide +kernel
theorem NW_warm {u U : State} (hW : u.WarmedH U.vm) (h : ∀ w ∈ NW, va_Nw w u) : ∀ w ∈ NW, va_Nw w U := by
  intro w hw
  have h1 := h w hw
  simp only [NW, List.mem_cons, List.not_mem_nil, or_false] at hw
  rcases hw with rfl | rfl | rfl | rfl | rfl | rfl | rfl | rfl | rfl | rfl | rfl <;> exact va_Nw.warmM hW h1
theorem NWS_warm {u U : State} (hW : u.WarmedH U.vm) (h : NWS u) : NWS U := ⟨NW_warm hW h.1, va_AO.moved hW.alike h.2⟩
theorem WC_blind {av : List Value} : FrameBlind (va_Pc av (fun U => WC B D K S M U)) := fun a U g mk q => ⟨q.1, q.2.1, q.2.2.1, va_K.moved (u := U) (U := U.calling g mk a) (Vm.Alike.refl U.vm) q.2.2.2.1, ⟨fun w hw => va_Nw.same (u := U) (NW_ok w hw) rfl (q.2.2.2.2.1 w hw), va_AO.moved (u := U) (U := U.calling g mk a) (Vm.Alike.refl U.vm) q.2.2.2.2.2⟩⟩
abbrev rmC (fr lo mc ms : Nat) : Room := { frames := fr, cells := mc, slots := ms, locals := lo }
abbrev QC (B : Nat) (D : va_G) (K : Nat → ClassId) (S : List Sh) (M : Mem) : Array Value → State → Outcome → State → Prop := va_Qv (fun _ : Unit => True) (fun _ t => WC B D K S M t) (GE B)
def CtC (l : Launch) (y : MethodName) (cc : ByteArray) (mL fr lo mc ms : Nat) (B : Nat) (D : va_G) (K : Nat → ClassId) (av : List Value) (S : List Sh) (M : Mem) (S' : List Sh) (M' : Mem) : Prop := Met l y (.code y cc mL none :: TW) (rmC fr lo mc ms) (va_Pc av (fun U => WC B D K S M U)) (QC B D K S' M') mc ms (GE B)
theorem ct_c {y : MethodName} {mL fr lo mc ms : Nat} {av : List Value} {S' : List Sh} {M' : Mem} (hy : plainName y.cls = true) (hnm : y.name = "<init>") (hn : (lg_sl av).length ≤ mL)
    (body : ∀ (p : Program) (e : Env) (s : State) (m : MethodId) (args : Array Value) (below : List Frame) (meth : Method) (c : Code), Cx p s m args meth c D K cc mL y.cls none → meth.name = "<init>" → NWS s → GC p l e (rmC fr lo mc ms) s m args below meth c B D K mL 0 0 (MQ below (QC B D K S' M') args s mc ms (GE B)) S M 0 (lv_args 0 av) []) : CtC l y cc mL fr lo mc ms B D K av S M S' M' := by
  refine Met.ofW (cc := cc) (maxL := mL) (ret := none) hy rfl ?_
  intro p e s m args below meth c s₁ Bd hml hv
  obtain ⟨rfl, hz, hP, hK, hN⟩ := hv
  have hts := atoms_spec (ws := .code y cc mL none :: TW) Bd.pre
  rw [lg_entry_eq]
  exact body p e s m av.toArray below meth c ⟨Bd.exec, Bd.bytes, hml, findClass_of_methodNamed Bd.named, fun w hw => hts w (List.mem_cons_of_mem _ hw), hK, Bd.returns, Bd.notSynchronized⟩ ((name_of_methodNamed Bd.named Bd.method).1.trans hnm) hN s.heap [] _ hz hP va_S.rf (lv_entry av hn)
theorem gc_ret (h : Cx p s m args meth c D K cc nL own none) (hN : NWS s) (d : decode cc pc = .ok (.return_, 1)) : GC p l e R s m args below meth c B D K nL nc ns (MQ below (QC B D K S M) args s nc ns (GE B)) S M pc lv [] :=
  fun H locs ls hz hP hS _ => W.vret h.1 h.2.1 h.2.2.2.2.2.2.1 (fun t ht hW => ⟨⟨(), rfl, trivial, by rw [ht]; exact hz, by rw [ht]; exact hP, va_K.moved hW.alike h.2.2.2.2.2.1, NWS_warm hW hN⟩, hS.F ht⟩) hS.2.2 d h.2.2.2.2.2.2.2
/-- what the call of a constructor needs of the tables -/
def YC (y : MethodName) (cc : ByteArray) (mL : Nat) (n : Nat) : Prop := (Cond.instanceMethod y ∈ TW ∧ Cond.initialized y.cls ∈ TW ∧ Cond.code y cc mL none ∈ TW) ∧ y.name = "<init>" ∧ y.cls ≠ "java/lang/invoke/MethodHandle" ∧ y.cls ≠ "java/lang/invoke/VarHandle" ∧ (parseMethodDescriptor y.desc).map (fun d => d.parameters.length) = some n
theorem YC.gi {y : MethodName} {cy : ByteArray} {mL n : Nat} (h : YC y cy mL n) : GoodIn TW (.code y cy mL none :: TW) := tw_GI (fun w hm => by
  rcases List.mem_cons.mp hm with rfl | q
  · exact h.1.2.2
  · exact q)
theorem gc_back {R : Room} {H : Heap} {locs : List Loc} {ls : Array Slot} {mc ms : Nat} {S' : List Sh} {M' : Mem} {a : Array Value} {sk0 : List Value} (hN : NWS s) (hS : va_S (GE B) s.heap H locs) (hv : lv_has ls nL lv) (hr : va_Run p l e R s m args below meth c H locs nc ns mc ms (F0 m pc ls sk0) sk (QC B D K S' M' a) (GE B)) (kk : GC p l e R s m args below meth c B D K nL (nc + mc) (ns + ms) Z S' M' (pc + 3) lv sk) : W p l e R s m args below meth c H locs nc ns Z (F0 m pc ls sk0) := by
  refine va_callv hr hS (fun q _ z => z) (fun q z => z) (fun _ t H1 locs1 ht _ _ hB _ _ hS1 => ?_)
  have h1 := hB.1
  have h2 := hB.2.1
  rw [ht] at h1 h2
  exact kk H1 locs1 ls h1 h2 hS1 hv
theorem gc_callN (h : Cx p s m args meth c D K cc nL own ret) (hN : NWS s) {y : MethodName} {cy : ByteArray} {mL n idx fr lo mc ms i : Nat} {host : String} {S' : List Sh} {M' : Mem} (As : List Value) (ct : CtC l y cy mL fr lo mc ms B D K (.ref (B + i) :: As) S M S' M') (yo : YC y cy mL n) (hw : Cond.methodLinkNest own idx y host ∈ NW) (hn : As.length = n) (hR : fr + 1 ≤ R.frames ∧ 8 + (mL + 11) + lo ≤ R.locals ∧ nc + mc ≤ R.cells ∧ ns + ms ≤ R.slots) {sk0 : List Value} (hst : sk0 = As.reverse ++ .ref (B + i) :: sk) (hcat : (sk.map fun v => v.category).sum ≤ 8) (d : decode cc pc = .ok (.invokespecial idx, 3)) (kk : GC p l e R s m args below meth c B D K nL (nc + mc) (ns + ms) Z S' M' (pc + 3) lv sk) : GC p l e R s m args below meth c B D K nL nc ns Z S M pc lv sk0 := by
  subst hst
  intro H locs ls hz hP hS hv
  exact gc_back hN hS hv (va_runIN (As := As) (rest := sk) ⟨h.1, h.2.1, h.2.2.1, h.2.2.2.1, h.2.2.2.2.1⟩ ct ⟨va_cnB (host := host) n h.2.2.2.2.1 yo.gi rfl rfl rfl (hN.1 _ hw) (h.2.2.2.2.1 _ yo.1.2.1) yo.2.2 ⟨hR.1, hR.2.1⟩, yo.2.1, h.2.2.2.2.1 _ yo.1.1⟩ ⟨WC_blind, fun U hU hW => ⟨rfl, by rw [hU]; exact hz, by rw [hU]; exact hP, va_K.moved hW.alike h.2.2.2.2.2.1, NWS_warm hW hN⟩⟩ rfl hn hv.1 rfl (lv_room hcat) d ⟨hR.2.2.1, hR.2.2.2⟩) kk
theorem gc_callI (h : Cx p s m args meth c D K cc nL own ret) (hN : NWS s) {y : MethodName} {cy : ByteArray} {mL n idx fr lo mc ms i : Nat} {S' : List Sh} {M' : Mem} (As : List Value) (ct : CtC l y cy mL fr lo mc ms B D K (.ref (B + i) :: As) S M S' M') (yo : YC y cy mL n) (hw : Cond.methodLink own idx y ∈ TW) (hn : As.length = n) (hR : fr + 1 ≤ R.frames ∧ 8 + (mL + 11) + lo ≤ R.locals ∧ nc + mc ≤ R.cells ∧ ns + ms ≤ R.slots) {sk0 : List Value} (hst : sk0 = As.reverse ++ .ref (B + i) :: sk) (hcat : (sk.map fun v => v.category).sum ≤ 8) (d : decode cc pc = .ok (.invokespecial idx, 3)) (kk : GC p l e R s m args below meth c B D K nL (nc + mc) (ns + ms) Z S' M' (pc + 3) lv sk) : GC p l e R s m args below meth c B D K nL nc ns Z S M pc lv sk0 := by
  subst hst
  intro H locs ls hz hP hS hv
  exact gc_back hN hS hv (va_runI (As := As) (rest := sk) ⟨h.1, h.2.1, h.2.2.1, h.2.2.2.1, h.2.2.2.2.1⟩ ct (cwI n h.2.2.2.2.1 yo.gi rfl rfl rfl (h.2.2.2.2.1 _ yo.1.2.1) (h.2.2.2.2.1 _ hw) (h.2.2.2.2.1 _ yo.1.1) yo.2.1 yo.2.2 ⟨hR.1, hR.2.1⟩) ⟨WC_blind, fun U hU hW => ⟨rfl, by rw [hU]; exact hz, by rw [hU]; exact hP, va_K.moved hW.alike h.2.2.2.2.2.1, NWS_warm hW hN⟩⟩ rfl hn hv.1 rfl (lv_room hcat) d ⟨hR.2.2.1, hR.2.2.2⟩) kk
end
