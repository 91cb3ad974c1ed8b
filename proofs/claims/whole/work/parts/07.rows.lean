section
variable {p : Program} {l : Launch} {e : Env} {R : Room} {s : State} {m : MethodId} {args : Array Value} {below : List Frame} {meth : Method} {c : Code} {B : Nat} {D : va_G} {K : Nat → ClassId} {cc : ByteArray} {nL nc ns : Nat} {own : String} {ret : Option FieldType} {Z : State → Prop} {M : Mem} {pc : Nat} {lv : List (Nat × Value)} {sk : List Value}
/-! fields -/
theorem g_getr (h : Cx p s m args meth c D K cc nL own ret) {C : String} {T : u_T} {N ci idx i j : Nat} {fs : List (Nat ⊕ Nat)} (hC : vwCl[ci]? = some (C, T, N) ∧ ∀ w ∈ u_ws C T N, w ∈ TW) (hs : shp i = .inr (ci, fs)) (k : Nat) (hk : k < N) (hf : fs[k]? = some (.inl j)) (hw : Cond.fieldLink own idx (T k).1 (T k).2.1 (T k).2.2.1 ∈ TW) (d : decode cc pc = .ok (.getfield idx, 3)) (kk : G p l e R s m args below meth c B D K nL nc ns Z M (pc + 3) lv (.ref (B + j) :: sk)) : G p l e R s m args below meth c B D K nL nc ns Z M pc lv (.ref (B + i) :: sk) :=
  fun H locs ls hP hS hv => va_get h.1 h.2.1 h.2.2.2.2.1 hC.2 h.2.2.2.1 h.2.2.2.2.2.1 hP i (fs := fvs B (M i) 0 fs) (by rw [wsM_at (shp_ltO hs), cellE_o hs]) hC.1 k hk (h.2.2.2.2.1 _ hw) (fun _ q => q) (v := .ref (B + j)) (by rw [fvs_at, hf]; rfl) d (kk H locs ls hP hS hv)
theorem g_geti (h : Cx p s m args meth c D K cc nL own ret) {C : String} {T : u_T} {N ci idx i : Nat} {fs : List (Nat ⊕ Nat)} (hC : vwCl[ci]? = some (C, T, N) ∧ ∀ w ∈ u_ws C T N, w ∈ TW) (hs : shp i = .inr (ci, fs)) (k : Nat) (hk : k < N) (hf : fs[k]? = some (.inr 0)) (hw : Cond.fieldLink own idx (T k).1 (T k).2.1 (T k).2.2.1 ∈ TW) (d : decode cc pc = .ok (.getfield idx, 3)) (kk : G p l e R s m args below meth c B D K nL nc ns Z M (pc + 3) lv (J (M i k) :: sk)) : G p l e R s m args below meth c B D K nL nc ns Z M pc lv (.ref (B + i) :: sk) :=
  fun H locs ls hP hS hv => va_get h.1 h.2.1 h.2.2.2.2.1 hC.2 h.2.2.2.1 h.2.2.2.2.2.1 hP i (fs := fvs B (M i) 0 fs) (by rw [wsM_at (shp_ltO hs), cellE_o hs]) hC.1 k hk (h.2.2.2.2.1 _ hw) (fun _ q => q) (v := J (M i k)) (by rw [fvs_at, hf, Nat.zero_add]; rfl) d (kk H locs ls hP hS hv)
theorem g_getl (h : Cx p s m args meth c D K cc nL own ret) {C : String} {T : u_T} {N ci idx i : Nat} {fs : List (Nat ⊕ Nat)} (hC : vwCl[ci]? = some (C, T, N) ∧ ∀ w ∈ u_ws C T N, w ∈ TW) (hs : shp i = .inr (ci, fs)) (k : Nat) (hk : k < N) (hf : fs[k]? = some (.inr 1)) (hw : Cond.fieldLink own idx (T k).1 (T k).2.1 (T k).2.2.1 ∈ TW) (d : decode cc pc = .ok (.getfield idx, 3)) (kk : G p l e R s m args below meth c B D K nL nc ns Z M (pc + 3) lv (JL (M i k) :: sk)) : G p l e R s m args below meth c B D K nL nc ns Z M pc lv (.ref (B + i) :: sk) :=
  fun H locs ls hP hS hv => va_get h.1 h.2.1 h.2.2.2.2.1 hC.2 h.2.2.2.1 h.2.2.2.2.2.1 hP i (fs := fvs B (M i) 0 fs) (by rw [wsM_at (shp_ltO hs), cellE_o hs]) hC.1 k hk (h.2.2.2.2.1 _ hw) (fun _ q => q) (v := JL (M i k)) (by rw [fvs_at, hf, Nat.zero_add]; rfl) d (kk H locs ls hP hS hv)
theorem wsM_put {i ci k : Nat} {t : Nat ⊕ Nat} {fs : List (Nat ⊕ Nat)} {v : Int} (hs : shp i = .inr (ci, fs)) (hf : fs[k]? = some t) : (wsM B K M).set i (B + i, .inr (ci, (fvs B (M i) 0 fs).set k (fv B (fun q => if q = k then v else M i q) k t))) = wsM B K (st M i k v) := by
  rw [fvs_set hf, ← wsM_set (M := M) (M' := st M i k v) (shp_ltO hs) (fun d hd => st_ne hd), cellE_o hs, st_at]
theorem g_puti (h : Cx p s m args meth c D K cc nL own ret) {C : String} {T : u_T} {N ci idx i : Nat} {fs : List (Nat ⊕ Nat)} {ty0 : Nat → FieldType} (hC : vwCl[ci]? = some (C, T, N) ∧ ∀ w ∈ u_ws C T N, w ∈ TW) (hT : (∀ k, k < N → parseFieldDescriptor (T k).2.2.1 = some (ty0 k)) ∧ ∀ a, a < N → ∀ b, b < N → a ≠ b → (T a).2.1 ≠ (T b).2.1) (hs : shp i = .inr (ci, fs)) (k : Nat) (hk : k < N) (hf : fs[k]? = some (.inr 0)) (hfin : (T k).2.2.2 = false) (hty : parseFieldDescriptor (T k).2.2.1 = some .int) (hw : Cond.fieldLink own idx (T k).1 (T k).2.1 (T k).2.2.1 ∈ TW) {v : Int} (d : decode cc pc = .ok (.putfield idx, 3)) (kk : G p l e R s m args below meth c B D K nL nc ns Z (st M i k v) (pc + 3) lv sk) : G p l e R s m args below meth c B D K nL nc ns Z M pc lv (J v :: .ref (B + i) :: sk) :=
  fun H locs ls hP hS hv => va_put h.1 h.2.1 h.2.2.2.2.1 hC.2 ty0 hT.1 hT.2 h.2.2.2.1 h.2.2.2.2.2.1 hP (wsM_D B K M) hS i (fs := fvs B (M i) 0 fs) (by rw [wsM_at (shp_ltO hs), cellE_o hs]) hC.1 k hk (h.2.2.2.2.1 _ hw) (fun _ q => q) hfin (v := J v) hty rfl rfl (by rw [fvs_len]; exact (List.getElem?_eq_some_iff.mp hf).1) d (fun H1 locs1 hP1 _ hS1 => by
    have e := wsM_put (B := B) (K := K) (M := M) (v := v) hs hf
    simp only [fv, if_true] at e
    rw [e] at hP1
    exact kk H1 locs1 ls hP1 hS1 hv)
theorem g_putz (h : Cx p s m args meth c D K cc nL own ret) {C : String} {T : u_T} {N ci idx i : Nat} {fs : List (Nat ⊕ Nat)} {ty0 : Nat → FieldType} (hC : vwCl[ci]? = some (C, T, N) ∧ ∀ w ∈ u_ws C T N, w ∈ TW) (hT : (∀ k, k < N → parseFieldDescriptor (T k).2.2.1 = some (ty0 k)) ∧ ∀ a, a < N → ∀ b, b < N → a ≠ b → (T a).2.1 ≠ (T b).2.1) (hs : shp i = .inr (ci, fs)) (k : Nat) (hk : k < N) (hf : fs[k]? = some (.inr 0)) (hfin : (T k).2.2.2 = false) (hty : parseFieldDescriptor (T k).2.2.1 = some .boolean) (hw : Cond.fieldLink own idx (T k).1 (T k).2.1 (T k).2.2.1 ∈ TW) {v : Int} (hz : v = 0 ∨ v = 1) (d : decode cc pc = .ok (.putfield idx, 3)) (kk : G p l e R s m args below meth c B D K nL nc ns Z (st M i k v) (pc + 3) lv sk) : G p l e R s m args below meth c B D K nL nc ns Z M pc lv (J v :: .ref (B + i) :: sk) :=
  fun H locs ls hP hS hv => va_put h.1 h.2.1 h.2.2.2.2.1 hC.2 ty0 hT.1 hT.2 h.2.2.2.1 h.2.2.2.2.2.1 hP (wsM_D B K M) hS i (fs := fvs B (M i) 0 fs) (by rw [wsM_at (shp_ltO hs), cellE_o hs]) hC.1 k hk (h.2.2.2.2.1 _ hw) (fun _ q => q) hfin (v := J v) hty (by rcases hz with rfl | rfl <;> rfl) (by rcases hz with rfl | rfl <;> rfl) (by rw [fvs_len]; exact (List.getElem?_eq_some_iff.mp hf).1) d (fun H1 locs1 hP1 _ hS1 => by
    have e := wsM_put (B := B) (K := K) (M := M) (v := v) hs hf
    simp only [fv, if_true] at e
    rw [e] at hP1
    exact kk H1 locs1 ls hP1 hS1 hv)
theorem g_putl (h : Cx p s m args meth c D K cc nL own ret) {C : String} {T : u_T} {N ci idx i : Nat} {fs : List (Nat ⊕ Nat)} {ty0 : Nat → FieldType} (hC : vwCl[ci]? = some (C, T, N) ∧ ∀ w ∈ u_ws C T N, w ∈ TW) (hT : (∀ k, k < N → parseFieldDescriptor (T k).2.2.1 = some (ty0 k)) ∧ ∀ a, a < N → ∀ b, b < N → a ≠ b → (T a).2.1 ≠ (T b).2.1) (hs : shp i = .inr (ci, fs)) (k : Nat) (hk : k < N) (hf : fs[k]? = some (.inr 1)) (hfin : (T k).2.2.2 = false) (hty : parseFieldDescriptor (T k).2.2.1 = some .long) (hw : Cond.fieldLink own idx (T k).1 (T k).2.1 (T k).2.2.1 ∈ TW) {v : Int} (d : decode cc pc = .ok (.putfield idx, 3)) (kk : G p l e R s m args below meth c B D K nL nc ns Z (st M i k v) (pc + 3) lv sk) : G p l e R s m args below meth c B D K nL nc ns Z M pc lv (JL v :: .ref (B + i) :: sk) :=
  fun H locs ls hP hS hv => va_put h.1 h.2.1 h.2.2.2.2.1 hC.2 ty0 hT.1 hT.2 h.2.2.2.1 h.2.2.2.2.2.1 hP (wsM_D B K M) hS i (fs := fvs B (M i) 0 fs) (by rw [wsM_at (shp_ltO hs), cellE_o hs]) hC.1 k hk (h.2.2.2.2.1 _ hw) (fun _ q => q) hfin (v := JL v) hty rfl rfl (by rw [fvs_len]; exact (List.getElem?_eq_some_iff.mp hf).1) d (fun H1 locs1 hP1 _ hS1 => by
    have e := wsM_put (B := B) (K := K) (M := M) (v := v) hs hf
    simp only [fv, if_true] at e
    rw [e] at hP1
    exact kk H1 locs1 ls hP1 hS1 hv)
/-! arrays -/
def lenS (t : Sh) : Nat := match t with
  | .inl q => q.2
  | .inr _ => 0
theorem shp_len_le : ∀ i, i < 127 → lenS (shp i) ≤ 65536 := by decide +kernel
theorem shp_n {i k n : Nat} (hs : shp i = .inl (k, n)) (hk : k ≠ 9) : n ≤ 70000 := by
  have h := shp_len_le i (shp_ltA hs hk)
  rw [hs] at h
  exact Nat.le_trans h (by omega)
theorem ofInt_upd {f : Nat → Int} {k : Nat} {v : Int} : (fun j => Int32.ofInt ((fun q => if q = k then v else f q) j)) = upd (fun j => Int32.ofInt (f j)) k (Int32.ofInt v) := by
  funext j
  by_cases h : j = k
  · simp [upd, h]
  · simp [upd, h]
theorem wsM_ast {i k n j : Nat} {v : Int} (hs : shp i = .inl (k, n)) (hk : k < 4) : (wsM B K M).set i (B + i, .inl (K k, n, .inl (upd (fun j => Int32.ofInt (M i j)) j (Int32.ofInt v)))) = wsM B K (st M i j v) := by
  rw [← wsM_set (M := M) (M' := st M i j v) (shp_ltA hs (by omega)) (fun d hd => st_ne hd), cellE_i hs hk, st_at, ofInt_upd]
theorem g_iald (h : Cx p s m args meth c D K cc nL own ret) {i n : Nat} {x : Int} (hs : shp i = .inl (0, n)) (h0 : 0 ≤ x) (h1 : x < n) (d : decode cc pc = .ok (.iaload, 1)) (kk : G p l e R s m args below meth c B D K nL nc ns Z M (pc + 1) lv (J (M i x.toNat) :: sk)) : G p l e R s m args below meth c B D K nL nc ns Z M pc lv (J x :: .ref (B + i) :: sk) :=
  fun H locs ls hP hS hv => va_iald h.1 h.2.1 h.2.2.2.2.2.1 hP i 0 (cA := K 0) (n := n) (f := fun j => Int32.ofInt (M i j)) (by rw [wsM_at (shp_ltA hs (by omega)), cellE_i hs (by omega)]) rfl (vin32 h0 h1 (shp_n hs (by omega))) d (by rw [clamp32 h0 h1 (shp_n hs (by omega))]; exact kk H locs ls hP hS hv)
theorem g_bald (h : Cx p s m args meth c D K cc nL own ret) {i n : Nat} {x : Int} (hs : shp i = .inl (1, n)) (h0 : 0 ≤ x) (h1 : x < n) (d : decode cc pc = .ok (.baload, 1)) (kk : G p l e R s m args below meth c B D K nL nc ns Z M (pc + 1) lv (J (M i x.toNat) :: sk)) : G p l e R s m args below meth c B D K nL nc ns Z M pc lv (J x :: .ref (B + i) :: sk) :=
  fun H locs ls hP hS hv => va_bald h.1 h.2.1 h.2.2.2.2.2.1 hP i 1 (cA := K 1) (n := n) (f := fun j => Int32.ofInt (M i j)) (by rw [wsM_at (shp_ltA hs (by omega)), cellE_i hs (by omega)]) rfl (vin32 h0 h1 (shp_n hs (by omega))) d (by rw [clamp32 h0 h1 (shp_n hs (by omega))]; exact kk H locs ls hP hS hv)
theorem g_zald (h : Cx p s m args meth c D K cc nL own ret) {i n : Nat} {x : Int} (hs : shp i = .inl (3, n)) (h0 : 0 ≤ x) (h1 : x < n) (d : decode cc pc = .ok (.baload, 1)) (kk : G p l e R s m args below meth c B D K nL nc ns Z M (pc + 1) lv (J (M i x.toNat) :: sk)) : G p l e R s m args below meth c B D K nL nc ns Z M pc lv (J x :: .ref (B + i) :: sk) :=
  fun H locs ls hP hS hv => va_zald h.1 h.2.1 h.2.2.2.2.2.1 hP i 3 (cA := K 3) (n := n) (f := fun j => Int32.ofInt (M i j)) (by rw [wsM_at (shp_ltA hs (by omega)), cellE_i hs (by omega)]) rfl (vin32 h0 h1 (shp_n hs (by omega))) d (by rw [clamp32 h0 h1 (shp_n hs (by omega))]; exact kk H locs ls hP hS hv)
theorem g_cald (h : Cx p s m args meth c D K cc nL own ret) {i n : Nat} {x : Int} (hs : shp i = .inl (2, n)) (h0 : 0 ≤ x) (h1 : x < n) (d : decode cc pc = .ok (.caload, 1)) (kk : G p l e R s m args below meth c B D K nL nc ns Z M (pc + 1) lv (J (M i x.toNat) :: sk)) : G p l e R s m args below meth c B D K nL nc ns Z M pc lv (J x :: .ref (B + i) :: sk) :=
  fun H locs ls hP hS hv => va_cald h.1 h.2.1 h.2.2.2.2.2.1 hP i 2 (cA := K 2) (n := n) (f := fun j => Int32.ofInt (M i j)) (by rw [wsM_at (shp_ltA hs (by omega)), cellE_i hs (by omega)]) rfl (vin32 h0 h1 (shp_n hs (by omega))) d (by rw [clamp32 h0 h1 (shp_n hs (by omega))]; exact kk H locs ls hP hS hv)
theorem g_lald (h : Cx p s m args meth c D K cc nL own ret) {i n : Nat} {x : Int} (hs : shp i = .inl (4, n)) (h0 : 0 ≤ x) (h1 : x < n) (d : decode cc pc = .ok (.laload, 1)) (kk : G p l e R s m args below meth c B D K nL nc ns Z M (pc + 1) lv (JL (M i x.toNat) :: sk)) : G p l e R s m args below meth c B D K nL nc ns Z M pc lv (J x :: .ref (B + i) :: sk) :=
  fun H locs ls hP hS hv => va_lald h.1 h.2.1 h.2.2.2.2.2.1 hP i 4 (cA := K 4) (n := n) (f := fun j => Int64.ofInt (M i j)) (by rw [wsM_at (shp_ltA hs (by omega)), cellE_l hs]) rfl (vin32 h0 h1 (shp_n hs (by omega))) d (by rw [clamp32 h0 h1 (shp_n hs (by omega))]; exact kk H locs ls hP hS hv)
theorem g_aald (h : Cx p s m args meth c D K cc nL own ret) {i n : Nat} {x : Int} (hs : shp i = .inl (5, n)) (h0 : 0 ≤ x) (h1 : x < n) (d : decode cc pc = .ok (.aaload, 1)) (kk : G p l e R s m args below meth c B D K nL nc ns Z M (pc + 1) lv (.ref (B + (37 + 7 * x.toNat)) :: sk)) : G p l e R s m args below meth c B D K nL nc ns Z M pc lv (J x :: .ref (B + i) :: sk) :=
  fun H locs ls hP hS hv => va_aldq h.1 h.2.1 h.2.2.2.2.2.1 hP i 5 (cA := K 5) (n := n) (C := "RiverRanks$Stems") (f := fun j => some (B + (37 + 7 * j))) (by rw [wsM_at (shp_ltA hs (by omega)), cellE_q hs]) rfl (vin32 h0 h1 (shp_n hs (by omega))) d (by rw [clamp32 h0 h1 (shp_n hs (by omega))]; exact kk H locs ls hP hS hv)
theorem g_iast (h : Cx p s m args meth c D K cc nL own ret) {i n : Nat} {x v : Int} (hs : shp i = .inl (0, n)) (h0 : 0 ≤ x) (h1 : x < n) (d : decode cc pc = .ok (.iastore, 1)) (kk : G p l e R s m args below meth c B D K nL nc ns Z (st M i x.toNat v) (pc + 1) lv sk) : G p l e R s m args below meth c B D K nL nc ns Z M pc lv (J v :: J x :: .ref (B + i) :: sk) :=
  fun H locs ls hP hS hv => va_iast h.1 h.2.1 h.2.2.2.2.2.1 hP (wsM_D B K M) hS i 0 (cA := K 0) (n := n) (f := fun j => Int32.ofInt (M i j)) (by rw [wsM_at (shp_ltA hs (by omega)), cellE_i hs (by omega)]) rfl (vin32 h0 h1 (shp_n hs (by omega))) d (fun H1 locs1 hP1 _ hS1 => by
    rw [clamp32 h0 h1 (shp_n hs (by omega)), wsM_ast hs (by omega)] at hP1
    exact kk H1 locs1 ls hP1 hS1 hv)
theorem nar_byte (a : Int) : vp_nar .byte (Int32.ofInt (bByte a)) = Int32.ofInt (bByte a) := by
  unfold bByte
  rw [Int32.ofInt_toInt, vp_nar_byte]
  simp
theorem g_bast (h : Cx p s m args meth c D K cc nL own ret) {i n : Nat} {x v : Int} (hs : shp i = .inl (1, n)) (h0 : 0 ≤ x) (h1 : x < n) (d : decode cc pc = .ok (.bastore, 1)) (kk : G p l e R s m args below meth c B D K nL nc ns Z (st M i x.toNat (bByte v)) (pc + 1) lv sk) : G p l e R s m args below meth c B D K nL nc ns Z M pc lv (J (bByte v) :: J x :: .ref (B + i) :: sk) :=
  fun H locs ls hP hS hv => va_bast h.1 h.2.1 h.2.2.2.2.2.1 hP (wsM_D B K M) hS i 1 (cA := K 1) (n := n) (f := fun j => Int32.ofInt (M i j)) (by rw [wsM_at (shp_ltA hs (by omega)), cellE_i hs (by omega)]) rfl (vin32 h0 h1 (shp_n hs (by omega))) d (fun H1 locs1 hP1 _ hS1 => by
    rw [clamp32 h0 h1 (shp_n hs (by omega)), nar_byte, wsM_ast hs (by omega)] at hP1
    exact kk H1 locs1 ls hP1 hS1 hv)
theorem nar_z {v : Int} (hz : v = 0 ∨ v = 1) : vp_nar .boolean (Int32.ofInt v) = Int32.ofInt v := by rcases hz with rfl | rfl <;> rfl
theorem g_zast (h : Cx p s m args meth c D K cc nL own ret) {i n : Nat} {x v : Int} (hs : shp i = .inl (3, n)) (h0 : 0 ≤ x) (h1 : x < n) (hz : v = 0 ∨ v = 1) (d : decode cc pc = .ok (.bastore, 1)) (kk : G p l e R s m args below meth c B D K nL nc ns Z (st M i x.toNat v) (pc + 1) lv sk) : G p l e R s m args below meth c B D K nL nc ns Z M pc lv (J v :: J x :: .ref (B + i) :: sk) :=
  fun H locs ls hP hS hv => va_zast h.1 h.2.1 h.2.2.2.2.2.1 hP (wsM_D B K M) hS i 3 (cA := K 3) (n := n) (f := fun j => Int32.ofInt (M i j)) (by rw [wsM_at (shp_ltA hs (by omega)), cellE_i hs (by omega)]) rfl (vin32 h0 h1 (shp_n hs (by omega))) d (fun H1 locs1 hP1 _ hS1 => by
    rw [clamp32 h0 h1 (shp_n hs (by omega)), nar_z hz, wsM_ast hs (by omega)] at hP1
    exact kk H1 locs1 ls hP1 hS1 hv)
theorem ofInt_updL {f : Nat → Int} {k : Nat} {v : Int} : (fun j => Int64.ofInt ((fun q => if q = k then v else f q) j)) = vp_updL (fun j => Int64.ofInt (f j)) k (Int64.ofInt v) := by
  funext j
  by_cases h : j = k
  · simp [vp_updL, h]
  · simp [vp_updL, h]
theorem wsM_lst {i n j : Nat} {v : Int} (hs : shp i = .inl (4, n)) : (wsM B K M).set i (B + i, .inl (K 4, n, .inr (.inl (vp_updL (fun j => Int64.ofInt (M i j)) j (Int64.ofInt v))))) = wsM B K (st M i j v) := by
  rw [← wsM_set (M := M) (M' := st M i j v) (shp_ltA hs (by omega)) (fun d hd => st_ne hd), cellE_l hs, st_at, ofInt_updL]
theorem g_last (h : Cx p s m args meth c D K cc nL own ret) {i n : Nat} {x v : Int} (hs : shp i = .inl (4, n)) (h0 : 0 ≤ x) (h1 : x < n) (d : decode cc pc = .ok (.lastore, 1)) (kk : G p l e R s m args below meth c B D K nL nc ns Z (st M i x.toNat v) (pc + 1) lv sk) : G p l e R s m args below meth c B D K nL nc ns Z M pc lv (JL v :: J x :: .ref (B + i) :: sk) :=
  fun H locs ls hP hS hv => va_last h.1 h.2.1 h.2.2.2.2.2.1 hP (wsM_D B K M) hS i 4 (cA := K 4) (n := n) (f := fun j => Int64.ofInt (M i j)) (by rw [wsM_at (shp_ltA hs (by omega)), cellE_l hs]) rfl (vin32 h0 h1 (shp_n hs (by omega))) d (fun H1 locs1 hP1 _ hS1 => by
    rw [clamp32 h0 h1 (shp_n hs (by omega)), wsM_lst hs] at hP1
    exact kk H1 locs1 ls hP1 hS1 hv)
theorem g_alen (h : Cx p s m args meth c D K cc nL own ret) {i k n : Nat} (hs : shp i = .inl (k, n)) (hk : k < 4) (d : decode cc pc = .ok (.arraylength, 1)) (kk : G p l e R s m args below meth c B D K nL nc ns Z M (pc + 1) lv (J n :: sk)) : G p l e R s m args below meth c B D K nL nc ns Z M pc lv (.ref (B + i) :: sk) :=
  fun H locs ls hP hS hv => by
    have ht : ∃ ty, (tyM K)[k]? = some (K k, ty) := by
      rcases k with _ | _ | _ | _ | k
      · exact ⟨_, rfl⟩
      · exact ⟨_, rfl⟩
      · exact ⟨_, rfl⟩
      · exact ⟨_, rfl⟩
      · omega
    obtain ⟨ty, ht⟩ := ht
    exact va_alen h.1 h.2.1 h.2.2.2.2.2.1 hP i k (cA := K k) (x := (n, .inl (fun j => Int32.ofInt (M i j)))) (by rw [wsM_at (shp_ltA hs (by omega)), cellE_i hs hk]) ht (v := Int32.ofInt n) (Int32.ofInt_eq_ofNat.symm) d (kk H locs ls hP hS hv)
theorem nn32 {x : Int} (h : inR x) (h0 : 0 ≤ x) : ¬ Int32.ofInt x < 0 := by rw [show (0 : Int32) = Int32.ofInt 0 from rfl, lt32 h in0]; omega
theorem wsM_cpy {i a x y t n na : Nat} (hs : shp i = .inl (0, n)) (_ : shp a = .inl (0, na)) : (wsM B K M).set i (B + i, .inl (K 0, n, .inl (va_cpy (fun j => Int32.ofInt (M a j)) (fun j => Int32.ofInt (M i j)) x y t))) = wsM B K (cpy M a x i y t) := by
  rw [← wsM_set (M := M) (M' := cpy M a x i y t) (shp_ltA hs (by omega)) (fun d hd => cpy_ne hd), cellE_i hs (by omega), cpy_at]
  congr 6
  funext j
  unfold va_cpy
  by_cases hj : y ≤ j ∧ j < y + t <;> simp [hj]
/-- System.arraycopy between int arrays -/
theorem g_copy (h : Cx p s m args meth c D K cc nL own ret) {idx a i na n : Nat} {x y t : Int} (ha : shp a = .inl (0, na)) (hs : shp i = .inl (0, n)) (hx0 : 0 ≤ x) (hy0 : 0 ≤ y) (ht0 : 0 ≤ t) (h1 : x + t ≤ na) (h2 : y + t ≤ n) (hw : Cond.methodLink own idx arraycopyName ∈ TW ∧ Cond.native arraycopyName ∈ TW ∧ Cond.static arraycopyName ∈ TW ∧ Cond.initialized "java/lang/System" ∈ TW) (hfr : 1 ≤ R.frames) (hlo : (sk.map fun v => v.category).sum + (nativeFrameWords "java/lang/System" "arraycopy" 5 + 11) ≤ R.locals) (d : decode cc pc = .ok (.invokestatic idx, 3)) (kk : G p l e R s m args below meth c B D K nL nc ns Z (cpy M a x.toNat i y.toNat t.toNat) (pc + 3) lv sk) : G p l e R s m args below meth c B D K nL nc ns Z M pc lv (J t :: J y :: .ref (B + i) :: J x :: .ref (B + a) :: sk) :=
  fun H locs ls hP hS hv => by
    have hna := shp_len_le a (shp_ltA ha (by omega))
    have hn := shp_len_le i (shp_ltA hs (by omega))
    rw [ha] at hna
    rw [hs] at hn
    simp only [lenS] at hna hn
    have ex : (Int32.ofInt x).toNatClampNeg = x.toNat := clamp32 (n := 70000) hx0 (by omega) (by omega)
    have ey : (Int32.ofInt y).toNatClampNeg = y.toNat := clamp32 (n := 70000) hy0 (by omega) (by omega)
    have et : (Int32.ofInt t).toNatClampNeg = t.toNat := clamp32 (n := 70000) ht0 (by omega) (by omega)
    refine va_copyi h.1 h.2.1 (h.2.2.1.trans hv.1.symm) h.2.2.2.1 (h.2.2.2.2.1 _ hw.1) (h.2.2.2.2.1 _ hw.2.1) (h.2.2.2.2.1 _ hw.2.2.1) (h.2.2.2.2.1 _ hw.2.2.2) h.2.2.2.2.2.1 hP (wsM_D B K M) hS a i 0 0 (c0 := K 0) (c1 := K 0) (n0 := na) (n1 := n) (f := fun j => Int32.ofInt (M a j)) (g := fun j => Int32.ofInt (M i j)) (ty := .int) (by rw [wsM_at (shp_ltA ha (by omega)), cellE_i ha (by omega)]) (by rw [wsM_at (shp_ltA hs (by omega)), cellE_i hs (by omega)]) rfl rfl rfl (nn32 ⟨by omega, by omega⟩ hx0) (nn32 ⟨by omega, by omega⟩ hy0) (nn32 ⟨by omega, by omega⟩ ht0) (by rw [ex, et]; omega) (by rw [ey, et]; omega) (fun _ _ => rfl) hfr hlo d (fun H1 locs1 hP1 _ hS1 => ?_)
    rw [ex, ey, et, wsM_cpy hs ha] at hP1
    exact kk H1 locs1 ls hP1 hS1 hv
theorem g_max (h : Cx p s m args meth c D K cc nL own ret) {idx : Nat} {a b : Int} (ha : inR a) (hb : inR b) (hw : Cond.methodLink own idx Lib.Math.max.name ∈ TW ∧ Cond.static Lib.Math.max.name ∈ TW ∧ Cond.initialized "java/lang/Math" ∈ TW ∧ Cond.code Lib.Math.max.name Lib.Math.max.code 2 (some .int) ∈ TW) (hfr : 1 ≤ R.frames) (hlo : (sk.map fun v => v.category).sum + 13 ≤ R.locals) (hnc : nc ≤ R.cells) (hns : ns ≤ R.slots) (d : decode cc pc = .ok (.invokestatic idx, 3)) (kk : G p l e R s m args below meth c B D K nL nc ns Z M (pc + 3) lv (J (max a b) :: sk)) : G p l e R s m args below meth c B D K nL nc ns Z M pc lv (J b :: J a :: sk) :=
  fun H locs ls hP hS hv => va_mmax h.1 h.2.1 (h.2.2.1.trans hv.1.symm) h.2.2.2.1 (h.2.2.2.2.1 _ hw.1) (h.2.2.2.2.1 _ hw.2.1) (h.2.2.2.2.1 _ hw.2.2.1) (h.2.2.2.2.1 _ hw.2.2.2) hfr hlo hnc hns d (by
    have := kk H locs ls hP hS hv
    have e : (if Int32.ofInt a < Int32.ofInt b then Int32.ofInt b else Int32.ofInt a) = Int32.ofInt (max a b) := by
      by_cases q : a < b
      · rw [if_pos ((lt32 ha hb).mpr q), show max a b = b by omega]
      · rw [if_neg (fun z => q ((lt32 ha hb).mp z)), show max a b = a by omega]
    rw [e]
    exact this)
theorem g_min (h : Cx p s m args meth c D K cc nL own ret) {idx : Nat} {a b : Int} (ha : inR a) (hb : inR b) (hw : Cond.methodLink own idx Lib.Math.min.name ∈ TW ∧ Cond.static Lib.Math.min.name ∈ TW ∧ Cond.initialized "java/lang/Math" ∈ TW ∧ Cond.code Lib.Math.min.name Lib.Math.min.code 2 (some .int) ∈ TW) (hfr : 1 ≤ R.frames) (hlo : (sk.map fun v => v.category).sum + 13 ≤ R.locals) (hnc : nc ≤ R.cells) (hns : ns ≤ R.slots) (d : decode cc pc = .ok (.invokestatic idx, 3)) (kk : G p l e R s m args below meth c B D K nL nc ns Z M (pc + 3) lv (J (min a b) :: sk)) : G p l e R s m args below meth c B D K nL nc ns Z M pc lv (J b :: J a :: sk) :=
  fun H locs ls hP hS hv => va_mmin h.1 h.2.1 (h.2.2.1.trans hv.1.symm) h.2.2.2.1 (h.2.2.2.2.1 _ hw.1) (h.2.2.2.2.1 _ hw.2.1) (h.2.2.2.2.1 _ hw.2.2.1) (h.2.2.2.2.1 _ hw.2.2.2) hfr hlo hnc hns d (by
    have := kk H locs ls hP hS hv
    have e : (if Int32.ofInt b < Int32.ofInt a then Int32.ofInt b else Int32.ofInt a) = Int32.ofInt (min a b) := by
      by_cases q : b < a
      · rw [if_pos ((lt32 hb ha).mpr q), show min a b = b by omega]
      · rw [if_neg (fun z => q ((lt32 hb ha).mp z)), show min a b = a by omega]
    rw [e]
    exact this)
/-! switches -/
theorem g_tabIn (h : Cx p s m args meth c D K cc nL own ret) {x dflt lo hi off : Int} {offs : Array Int} {len : Nat} (k : Int) (tgt : Nat) (hx : inR x) (ek : x = k) (d : decode cc pc = .ok (.tableswitch dflt lo hi offs, len)) (h1 : ¬ k < lo) (h2 : ¬ hi < k) (ho : offs[(k - lo).toNat]? = some off) (ht : (pc : Int) + off = (tgt : Int)) (kk : G p l e R s m args below meth c B D K nL nc ns Z M tgt lv sk) : G p l e R s m args below meth c B D K nL nc ns Z M pc lv (J x :: sk) := by
  subst ek
  exact fun H locs ls hP hS hv => lv_tableIn h.1 h.2.1 d (by rw [to32 hx]; exact h1) (by rw [to32 hx]; exact h2) (by rw [to32 hx]; exact ho) ht (kk H locs ls hP hS hv)
theorem g_tabOut (h : Cx p s m args meth c D K cc nL own ret) {x dflt lo hi : Int} {offs : Array Int} {len : Nat} (tgt : Nat) (hx : inR x) (d : decode cc pc = .ok (.tableswitch dflt lo hi offs, len)) (h1 : x < lo ∨ hi < x) (ht : (pc : Int) + dflt = (tgt : Int)) (kk : G p l e R s m args below meth c B D K nL nc ns Z M tgt lv sk) : G p l e R s m args below meth c B D K nL nc ns Z M pc lv (J x :: sk) :=
  fun H locs ls hP hS hv => lv_tableOut h.1 h.2.1 d (by rw [to32 hx]; exact h1) ht (kk H locs ls hP hS hv)
theorem g_look (h : Cx p s m args meth c D K cc nL own ret) {x dflt off : Int} {ps : Array (Int × Int)} {len : Nat} (tgt : Nat) (hx : inR x) (d : decode cc pc = .ok (.lookupswitch dflt ps, len)) (hp : (ps.toList.zip (ps.toList.drop 1)).all (fun (a, next) => a.1 < next.1) = true) (ho : Op.lookupswitch.offset ps.toList dflt x = off) (ht : (pc : Int) + off = (tgt : Int)) (kk : G p l e R s m args below meth c B D K nL nc ns Z M tgt lv sk) : G p l e R s m args below meth c B D K nL nc ns Z M pc lv (J x :: sk) :=
  fun H locs ls hP hS hv => lv_lookup h.1 h.2.1 d hp (by rw [to32 hx]; exact ho) ht (kk H locs ls hP hS hv)
/-! contracts: a method over the whole world; calls; returns -/
def WP (B : Nat) (D : va_G) (K : Nat → ClassId) (M : Mem) (U : State) : Prop := va_P D vwCl (wsM B K M) U.heap ∧ va_K D vwCl (tyM K) U
theorem WP_blind {av : List Value} : FrameBlind (va_Pc av (fun U => WP B D K M U)) := fun a U g mk q => ⟨q.1, q.2.1, va_K.moved (u := U) (U := U.calling g mk a) (Vm.Alike.refl U.vm) q.2.2⟩
abbrev rmF (fr lo : Nat) : Room := { frames := fr, cells := 0, slots := 0, locals := lo }
def PI (Q : Int → Mem → Prop) : Int32 → Mem → Prop := fun r M' => ∃ v : Int, r = Int32.ofInt v ∧ inR v ∧ MR M' ∧ Q v M'
def PZ (Q : Int → Mem → Prop) : Int32 → Mem → Prop := fun r M' => ∃ v : Int, r = Int32.ofInt v ∧ (v = 0 ∨ v = 1) ∧ MR M' ∧ Q v M'
def PV (Q : Mem → Prop) : Mem → Prop := fun M' => MR M' ∧ Q M'
def CtI (l : Launch) (y : MethodName) (cc : ByteArray) (mL : Nat) (fr lo : Nat) (B : Nat) (D : va_G) (K : Nat → ClassId) (av : List Value) (M : Mem) (Q : Int → Mem → Prop) : Prop := Met l y (.code y cc mL (some .int) :: TW) (rmF fr lo) (va_Pc av (fun U => WP B D K M U)) (va_Qi (PI Q) (fun M' t => WP B D K M' t) (AA B)) 0 0 (AA B)
def CtZ (l : Launch) (y : MethodName) (cc : ByteArray) (mL : Nat) (fr lo : Nat) (B : Nat) (D : va_G) (K : Nat → ClassId) (av : List Value) (M : Mem) (Q : Int → Mem → Prop) : Prop := Met l y (.code y cc mL (some .boolean) :: TW) (rmF fr lo) (va_Pc av (fun U => WP B D K M U)) (va_Qi (PZ Q) (fun M' t => WP B D K M' t) (AA B)) 0 0 (AA B)
def CtV (l : Launch) (y : MethodName) (cc : ByteArray) (mL : Nat) (fr lo : Nat) (B : Nat) (D : va_G) (K : Nat → ClassId) (av : List Value) (M : Mem) (Q : Mem → Prop) : Prop := Met l y (.code y cc mL none :: TW) (rmF fr lo) (va_Pc av (fun U => WP B D K M U)) (va_Qv (PV Q) (fun M' t => WP B D K M' t) (AA B)) 0 0 (AA B)
abbrev ZI (below : List Frame) (args : Array Value) (s : State) (B : Nat) (D : va_G) (K : Nat → ClassId) (Q : Int → Mem → Prop) : State → Prop := MQ below (va_Qi (PI Q) (fun M' t => WP B D K M' t) (AA B)) args s 0 0 (AA B)
abbrev ZZ (below : List Frame) (args : Array Value) (s : State) (B : Nat) (D : va_G) (K : Nat → ClassId) (Q : Int → Mem → Prop) : State → Prop := MQ below (va_Qi (PZ Q) (fun M' t => WP B D K M' t) (AA B)) args s 0 0 (AA B)
abbrev ZV (below : List Frame) (args : Array Value) (s : State) (B : Nat) (D : va_G) (K : Nat → ClassId) (Q : Mem → Prop) : State → Prop := MQ below (va_Qv (PV Q) (fun M' t => WP B D K M' t) (AA B)) args s 0 0 (AA B)
theorem ct_W {y : MethodName} {mL fr lo : Nat} {av : List Value} {Qc : Array Value → State → Outcome → State → Prop} (hy : plainName y.cls = true) (hn : (lg_sl av).length ≤ mL)
    (body : ∀ (p : Program) (e : Env) (s : State) (m : MethodId) (args : Array Value) (below : List Frame) (meth : Method) (c : Code), Cx p s m args meth c D K cc mL y.cls ret → G p l e (rmF fr lo) s m args below meth c B D K mL 0 0 (MQ below Qc args s 0 0 (AA B)) M 0 (lv_args 0 av) []) :
    Met l y (.code y cc mL ret :: TW) (rmF fr lo) (va_Pc av (fun U => WP B D K M U)) Qc 0 0 (AA B) := by
  refine Met.ofW (cc := cc) (maxL := mL) (ret := ret) hy rfl ?_
  intro p e s m args below meth c s₁ Bd hml hv
  obtain ⟨rfl, hP, hK⟩ := hv
  have hts := atoms_spec (ws := .code y cc mL ret :: TW) Bd.pre
  rw [lg_entry_eq]
  exact body p e s m av.toArray below meth c ⟨Bd.exec, Bd.bytes, hml, findClass_of_methodNamed Bd.named, fun w hw => hts w (List.mem_cons_of_mem _ hw), hK, Bd.returns, Bd.notSynchronized⟩ s.heap [] _ hP va_S.rf (lv_entry av hn)
theorem ct_i {y : MethodName} {mL fr lo : Nat} {av : List Value} {Q : Int → Mem → Prop} (hy : plainName y.cls = true) (hn : (lg_sl av).length ≤ mL)
    (body : ∀ (p : Program) (e : Env) (s : State) (m : MethodId) (args : Array Value) (below : List Frame) (meth : Method) (c : Code), Cx p s m args meth c D K cc mL y.cls (some .int) → G p l e (rmF fr lo) s m args below meth c B D K mL 0 0 (ZI below args s B D K Q) M 0 (lv_args 0 av) []) : CtI l y cc mL fr lo B D K av M Q := ct_W hy hn body
theorem ct_z {y : MethodName} {mL fr lo : Nat} {av : List Value} {Q : Int → Mem → Prop} (hy : plainName y.cls = true) (hn : (lg_sl av).length ≤ mL)
    (body : ∀ (p : Program) (e : Env) (s : State) (m : MethodId) (args : Array Value) (below : List Frame) (meth : Method) (c : Code), Cx p s m args meth c D K cc mL y.cls (some .boolean) → G p l e (rmF fr lo) s m args below meth c B D K mL 0 0 (ZZ below args s B D K Q) M 0 (lv_args 0 av) []) : CtZ l y cc mL fr lo B D K av M Q := ct_W hy hn body
theorem ct_v {y : MethodName} {mL fr lo : Nat} {av : List Value} {Q : Mem → Prop} (hy : plainName y.cls = true) (hn : (lg_sl av).length ≤ mL)
    (body : ∀ (p : Program) (e : Env) (s : State) (m : MethodId) (args : Array Value) (below : List Frame) (meth : Method) (c : Code), Cx p s m args meth c D K cc mL y.cls none → G p l e (rmF fr lo) s m args below meth c B D K mL 0 0 (ZV below args s B D K Q) M 0 (lv_args 0 av) []) : CtV l y cc mL fr lo B D K av M Q := ct_W hy hn body
theorem g_reti (h : Cx p s m args meth c D K cc nL own (some .int)) {v : Int} {Q : Int → Mem → Prop} (hv : inR v) (hM : MR M) (hq : Q v M) (d : decode cc pc = .ok (.ireturn, 1)) : G p l e R s m args below meth c B D K nL 0 0 (ZI below args s B D K Q) M pc lv [J v] :=
  fun H locs ls hP hS _ => W.iret h.1 h.2.1 h.2.2.2.2.2.2.1 (fun t ht hW => ⟨⟨Int32.ofInt v, M, rfl, ⟨v, rfl, hv, hM, hq⟩, by rw [ht]; exact hP, va_K.moved hW.alike h.2.2.2.2.2.1⟩, hS.F ht⟩) hS.2.2 d h.2.2.2.2.2.2.2
theorem g_retz (h : Cx p s m args meth c D K cc nL own (some .boolean)) {v : Int} {Q : Int → Mem → Prop} (hv : v = 0 ∨ v = 1) (hM : MR M) (hq : Q v M) (d : decode cc pc = .ok (.ireturn, 1)) : G p l e R s m args below meth c B D K nL 0 0 (ZZ below args s B D K Q) M pc lv [J v] :=
  fun H locs ls hP hS _ => W.zret h.1 h.2.1 h.2.2.2.2.2.2.1 (by rcases hv with rfl | rfl <;> rfl) (fun t ht hW => ⟨⟨Int32.ofInt v, M, rfl, ⟨v, rfl, hv, hM, hq⟩, by rw [ht]; exact hP, va_K.moved hW.alike h.2.2.2.2.2.1⟩, hS.F ht⟩) hS.2.2 d h.2.2.2.2.2.2.2
theorem g_retv (h : Cx p s m args meth c D K cc nL own none) {Q : Mem → Prop} (hM : MR M) (hq : Q M) (d : decode cc pc = .ok (.return_, 1)) : G p l e R s m args below meth c B D K nL 0 0 (ZV below args s B D K Q) M pc lv [] :=
  fun H locs ls hP hS _ => W.vret h.1 h.2.1 h.2.2.2.2.2.2.1 (fun t ht hW => ⟨⟨M, rfl, ⟨hM, hq⟩, by rw [ht]; exact hP, va_K.moved hW.alike h.2.2.2.2.2.1⟩, hS.F ht⟩) hS.2.2 d h.2.2.2.2.2.2.2
theorem YV.gi {y : MethodName} {cy : ByteArray} {mL n idx : Nat} {rt : Option FieldType} (h : YV y cy mL rt n) (hw : Cond.methodLink own idx y ∈ TW) : GoodIn TW (wsV own idx y.cls y (.code y cy mL rt :: TW)) := tw_GI (fun w hm => by
  unfold wsV at hm
  simp only [List.cons_append, List.nil_append, List.mem_cons] at hm
  rcases hm with rfl | rfl | rfl | rfl | rfl | q
  · exact hw
  · exact h.1.1
  · exact h.1.2.1
  · exact h.1.2.2.1
  · exact h.1.2.2.2
  · exact q)
theorem YS.gi {y : MethodName} {cy : ByteArray} {mL n idx : Nat} {rt : Option FieldType} (h : YS y cy mL rt n) (hw : Cond.methodLink own idx y ∈ TW) : GoodIn TW (va_wsS own idx y (.code y cy mL rt :: TW)) := tw_GI (fun w hm => by
  unfold va_wsS at hm
  simp only [List.cons_append, List.nil_append, List.mem_cons] at hm
  rcases hm with rfl | rfl | rfl | rfl | q
  · exact hw
  · exact h.1.1
  · exact h.1.2.1
  · exact h.1.2.2
  · exact q)
theorem g_runV (h : Cx p s m args meth c D K cc nL own ret) {y : MethodName} {cy : ByteArray} {mL n idx fr lo i ci N : Nat} {rt : Option FieldType} {T : u_T} {fs : List (Nat ⊕ Nat)} {As : List Value} {Qc : Array Value → State → Outcome → State → Prop} {H : Heap} {locs : List Loc} {ls : Array Slot}
    (ct : Met l y (.code y cy mL rt :: TW) (rmF fr lo) (va_Pc (.ref (B + i) :: As) (fun U => WP B D K M U)) Qc 0 0 (AA B)) (yo : YV y cy mL rt n) (hw : Cond.methodLink own idx y ∈ TW) (hC : vwCl[ci]? = some (y.cls, T, N)) (hs : shp i = .inr (ci, fs)) (hn : As.length = n) (hR : fr + 1 ≤ R.frames ∧ 8 + (mL + 11) + lo ≤ R.locals ∧ nc ≤ R.cells ∧ ns ≤ R.slots) (hcat : (sk.map fun v => v.category).sum ≤ 8) (d : decode cc pc = .ok (.invokevirtual idx, 3))
    (hP : va_P D vwCl (wsM B K M) H) (hv : lv_has ls nL lv) : va_Run p l e R s m args below meth c H locs nc ns 0 0 (F0 m pc ls (As.reverse ++ .ref (B + i) :: sk)) sk (Qc (Value.ref (B + i) :: As).toArray) (AA B) :=
  va_runV (As := As) (rest := sk) ⟨h.1, h.2.1, h.2.2.1, h.2.2.2.1, h.2.2.2.2.1⟩ ct (cwV (C := y.cls) n h.2.2.2.2.1 (yo.gi hw) rfl rfl rfl ⟨rfl, yo.2⟩ ⟨hR.1, hR.2.1⟩) ⟨WP_blind, va_recv (q := (y.cls, T, N)) h.2.2.2.2.2.1 hP hC (q0 := i) (fs := fvs B (M i) 0 fs) (by rw [wsM_at (shp_ltO hs), cellE_o hs]), fun U hU hW => ⟨rfl, by show va_P D vwCl (wsM B K M) U.heap; rw [hU]; exact hP, va_K.moved hW.alike h.2.2.2.2.2.1⟩⟩ rfl hn hv.1 rfl (lv_room hcat) d ⟨hR.2.2.1, hR.2.2.2⟩
theorem g_runS (h : Cx p s m args meth c D K cc nL own ret) {y : MethodName} {cy : ByteArray} {mL n idx fr lo : Nat} {rt : Option FieldType} {As : List Value} {Qc : Array Value → State → Outcome → State → Prop} {H : Heap} {locs : List Loc} {ls : Array Slot}
    (ct : Met l y (.code y cy mL rt :: TW) (rmF fr lo) (va_Pc As (fun U => WP B D K M U)) Qc 0 0 (AA B)) (yo : YS y cy mL rt n) (hw : Cond.methodLink own idx y ∈ TW) (hn : As.length = n) (hR : fr + 1 ≤ R.frames ∧ 8 + (mL + 11) + lo ≤ R.locals ∧ nc ≤ R.cells ∧ ns ≤ R.slots) (hcat : (sk.map fun v => v.category).sum ≤ 8) (d : decode cc pc = .ok (.invokestatic idx, 3))
    (hP : va_P D vwCl (wsM B K M) H) (hv : lv_has ls nL lv) : va_Run p l e R s m args below meth c H locs nc ns 0 0 (F0 m pc ls (As.reverse ++ sk)) sk (Qc As.toArray) (AA B) :=
  va_runS (As := As) (rest := sk) ⟨h.1, h.2.1, h.2.2.1, h.2.2.2.1, h.2.2.2.2.1⟩ ct (va_cwS n h.2.2.2.2.1 (yo.gi hw) rfl rfl rfl yo.2 ⟨hR.1, hR.2.1⟩) ⟨WP_blind, fun U hU hW => ⟨rfl, by show va_P D vwCl (wsM B K M) U.heap; rw [hU]; exact hP, va_K.moved hW.alike h.2.2.2.2.2.1⟩⟩ rfl hn hv.1 rfl (lv_room hcat) d ⟨hR.2.2.1, hR.2.2.2⟩
theorem g_callVI (h : Cx p s m args meth c D K cc nL own ret) {y : MethodName} {cy : ByteArray} {mL n idx fr lo : Nat} {i ci N : Nat} {T : u_T} {fs : List (Nat ⊕ Nat)} {Q : Int → Mem → Prop} (As : List Value) (ct : CtI l y cy mL fr lo B D K (.ref (B + i) :: As) M Q) (yo : YV y cy mL (some .int) n) (hw : Cond.methodLink own idx y ∈ TW) (hC : vwCl[ci]? = some (y.cls, T, N)) (hs : shp i = .inr (ci, fs)) (hn : As.length = n) (hR : fr + 1 ≤ R.frames ∧ 8 + (mL + 11) + lo ≤ R.locals ∧ nc ≤ R.cells ∧ ns ≤ R.slots) {sk0 : List Value} (hst : sk0 = As.reverse ++ .ref (B + i) :: sk) (hcat : (sk.map fun v => v.category).sum ≤ 8) (d : decode cc pc = .ok (.invokevirtual idx, 3)) (kk : ∀ (r : Int) (M1 : Mem), inR r → MR M1 → Q r M1 → G p l e R s m args below meth c B D K nL nc ns Z M1 (pc + 3) lv (J r :: sk)) : G p l e R s m args below meth c B D K nL nc ns Z M pc lv sk0 := by
  subst hst
  intro H locs ls hP hS hv
  refine va_calli (g_runV h ct yo hw hC hs hn hR hcat d hP hv) hS (fun q _ z => z) (fun q z => z) (fun r M1 t H1 locs1 ht _ hw1 hB _ _ hS1 => ?_)
  obtain ⟨v, rfl, h1, h2, h3⟩ := hw1
  have hP1 := hB.1
  rw [ht] at hP1
  exact kk v M1 h1 h2 h3 H1 locs1 ls hP1 hS1 hv
theorem g_callSI (h : Cx p s m args meth c D K cc nL own ret) {y : MethodName} {cy : ByteArray} {mL n idx fr lo : Nat} {Q : Int → Mem → Prop} (As : List Value) (ct : CtI l y cy mL fr lo B D K As M Q) (yo : YS y cy mL (some .int) n) (hw : Cond.methodLink own idx y ∈ TW) (hn : As.length = n) (hR : fr + 1 ≤ R.frames ∧ 8 + (mL + 11) + lo ≤ R.locals ∧ nc ≤ R.cells ∧ ns ≤ R.slots) {sk0 : List Value} (hst : sk0 = As.reverse ++ sk) (hcat : (sk.map fun v => v.category).sum ≤ 8) (d : decode cc pc = .ok (.invokestatic idx, 3)) (kk : ∀ (r : Int) (M1 : Mem), inR r → MR M1 → Q r M1 → G p l e R s m args below meth c B D K nL nc ns Z M1 (pc + 3) lv (J r :: sk)) : G p l e R s m args below meth c B D K nL nc ns Z M pc lv sk0 := by
  subst hst
  intro H locs ls hP hS hv
  refine va_calli (g_runS h ct yo hw hn hR hcat d hP hv) hS (fun q _ z => z) (fun q z => z) (fun r M1 t H1 locs1 ht _ hw1 hB _ _ hS1 => ?_)
  obtain ⟨v, rfl, h1, h2, h3⟩ := hw1
  have hP1 := hB.1
  rw [ht] at hP1
  exact kk v M1 h1 h2 h3 H1 locs1 ls hP1 hS1 hv
theorem g_callVZ (h : Cx p s m args meth c D K cc nL own ret) {y : MethodName} {cy : ByteArray} {mL n idx fr lo : Nat} {i ci N : Nat} {T : u_T} {fs : List (Nat ⊕ Nat)} {Q : Int → Mem → Prop} (As : List Value) (ct : CtZ l y cy mL fr lo B D K (.ref (B + i) :: As) M Q) (yo : YV y cy mL (some .boolean) n) (hw : Cond.methodLink own idx y ∈ TW) (hC : vwCl[ci]? = some (y.cls, T, N)) (hs : shp i = .inr (ci, fs)) (hn : As.length = n) (hR : fr + 1 ≤ R.frames ∧ 8 + (mL + 11) + lo ≤ R.locals ∧ nc ≤ R.cells ∧ ns ≤ R.slots) {sk0 : List Value} (hst : sk0 = As.reverse ++ .ref (B + i) :: sk) (hcat : (sk.map fun v => v.category).sum ≤ 8) (d : decode cc pc = .ok (.invokevirtual idx, 3)) (kk : ∀ (r : Int) (M1 : Mem), (r = 0 ∨ r = 1) → MR M1 → Q r M1 → G p l e R s m args below meth c B D K nL nc ns Z M1 (pc + 3) lv (J r :: sk)) : G p l e R s m args below meth c B D K nL nc ns Z M pc lv sk0 := by
  subst hst
  intro H locs ls hP hS hv
  refine va_calli (g_runV h ct yo hw hC hs hn hR hcat d hP hv) hS (fun q _ z => z) (fun q z => z) (fun r M1 t H1 locs1 ht _ hw1 hB _ _ hS1 => ?_)
  obtain ⟨v, rfl, h1, h2, h3⟩ := hw1
  have hP1 := hB.1
  rw [ht] at hP1
  exact kk v M1 h1 h2 h3 H1 locs1 ls hP1 hS1 hv
theorem g_callSZ (h : Cx p s m args meth c D K cc nL own ret) {y : MethodName} {cy : ByteArray} {mL n idx fr lo : Nat} {Q : Int → Mem → Prop} (As : List Value) (ct : CtZ l y cy mL fr lo B D K As M Q) (yo : YS y cy mL (some .boolean) n) (hw : Cond.methodLink own idx y ∈ TW) (hn : As.length = n) (hR : fr + 1 ≤ R.frames ∧ 8 + (mL + 11) + lo ≤ R.locals ∧ nc ≤ R.cells ∧ ns ≤ R.slots) {sk0 : List Value} (hst : sk0 = As.reverse ++ sk) (hcat : (sk.map fun v => v.category).sum ≤ 8) (d : decode cc pc = .ok (.invokestatic idx, 3)) (kk : ∀ (r : Int) (M1 : Mem), (r = 0 ∨ r = 1) → MR M1 → Q r M1 → G p l e R s m args below meth c B D K nL nc ns Z M1 (pc + 3) lv (J r :: sk)) : G p l e R s m args below meth c B D K nL nc ns Z M pc lv sk0 := by
  subst hst
  intro H locs ls hP hS hv
  refine va_calli (g_runS h ct yo hw hn hR hcat d hP hv) hS (fun q _ z => z) (fun q z => z) (fun r M1 t H1 locs1 ht _ hw1 hB _ _ hS1 => ?_)
  obtain ⟨v, rfl, h1, h2, h3⟩ := hw1
  have hP1 := hB.1
  rw [ht] at hP1
  exact kk v M1 h1 h2 h3 H1 locs1 ls hP1 hS1 hv
theorem g_callVV (h : Cx p s m args meth c D K cc nL own ret) {y : MethodName} {cy : ByteArray} {mL n idx fr lo : Nat} {i ci N : Nat} {T : u_T} {fs : List (Nat ⊕ Nat)} {Q : Mem → Prop} (As : List Value) (ct : CtV l y cy mL fr lo B D K (.ref (B + i) :: As) M Q) (yo : YV y cy mL none n) (hw : Cond.methodLink own idx y ∈ TW) (hC : vwCl[ci]? = some (y.cls, T, N)) (hs : shp i = .inr (ci, fs)) (hn : As.length = n) (hR : fr + 1 ≤ R.frames ∧ 8 + (mL + 11) + lo ≤ R.locals ∧ nc ≤ R.cells ∧ ns ≤ R.slots) {sk0 : List Value} (hst : sk0 = As.reverse ++ .ref (B + i) :: sk) (hcat : (sk.map fun v => v.category).sum ≤ 8) (d : decode cc pc = .ok (.invokevirtual idx, 3)) (kk : ∀ (M1 : Mem), MR M1 → Q M1 → G p l e R s m args below meth c B D K nL nc ns Z M1 (pc + 3) lv sk) : G p l e R s m args below meth c B D K nL nc ns Z M pc lv sk0 := by
  subst hst
  intro H locs ls hP hS hv
  refine va_callv (g_runV h ct yo hw hC hs hn hR hcat d hP hv) hS (fun q _ z => z) (fun q z => z) (fun M1 t H1 locs1 ht _ hw1 hB _ _ hS1 => ?_)
  have hP1 := hB.1
  rw [ht] at hP1
  exact kk M1 hw1.1 hw1.2 H1 locs1 ls hP1 hS1 hv
theorem g_callSV (h : Cx p s m args meth c D K cc nL own ret) {y : MethodName} {cy : ByteArray} {mL n idx fr lo : Nat} {Q : Mem → Prop} (As : List Value) (ct : CtV l y cy mL fr lo B D K As M Q) (yo : YS y cy mL none n) (hw : Cond.methodLink own idx y ∈ TW) (hn : As.length = n) (hR : fr + 1 ≤ R.frames ∧ 8 + (mL + 11) + lo ≤ R.locals ∧ nc ≤ R.cells ∧ ns ≤ R.slots) {sk0 : List Value} (hst : sk0 = As.reverse ++ sk) (hcat : (sk.map fun v => v.category).sum ≤ 8) (d : decode cc pc = .ok (.invokestatic idx, 3)) (kk : ∀ (M1 : Mem), MR M1 → Q M1 → G p l e R s m args below meth c B D K nL nc ns Z M1 (pc + 3) lv sk) : G p l e R s m args below meth c B D K nL nc ns Z M pc lv sk0 := by
  subst hst
  intro H locs ls hP hS hv
  refine va_callv (g_runS h ct yo hw hn hR hcat d hP hv) hS (fun q _ z => z) (fun q z => z) (fun M1 t H1 locs1 ht _ hw1 hB _ _ hS1 => ?_)
  have hP1 := hB.1
  rw [ht] at hP1
  exact kk M1 hw1.1 hw1.2 H1 locs1 ls hP1 hS1 hv
end
