section
variable {p : Program} {l : Launch} {e : Env} {R : Room} {s : State} {m : MethodId} {args : Array Value} {below : List Frame} {meth : Method} {c : Code} {B : Nat} {D : va_G} {K : Nat → ClassId} {cc : ByteArray} {nL nc ns : Nat} {own : String} {ret : Option FieldType} {Z : State → Prop} {M : Mem} {pc : Nat} {lv : List (Nat × Value)} {sk : List Value}
theorem zi_ {x : Int} (h : x = 0 ∨ x = 1) : inR x := by rcases h with rfl | rfl <;> (unfold inR; omega)
theorem isIA_of {a k : Nat} (h : shp a = .inl (0, k)) : isIA a := by unfold isIA; rw [h]; rfl
theorem g_ialdk (k : Nat) (h : Cx p s m args meth c D K cc nL own ret) {i n : Nat} {x : Int} (hs : shp i = .inl (0, n)) (h0 : 0 ≤ x) (h1 : x < n) (hk : x.toNat = k) (d : decode cc pc = .ok (.iaload, 1)) (kk : G p l e R s m args below meth c B D K nL nc ns Z M (pc + 1) lv (J (M i k) :: sk)) : G p l e R s m args below meth c B D K nL nc ns Z M pc lv (J x :: .ref (B + i) :: sk) := by subst hk; exact g_iald h hs h0 h1 d kk
theorem g_baldk (k : Nat) (h : Cx p s m args meth c D K cc nL own ret) {i n : Nat} {x : Int} (hs : shp i = .inl (1, n)) (h0 : 0 ≤ x) (h1 : x < n) (hk : x.toNat = k) (d : decode cc pc = .ok (.baload, 1)) (kk : G p l e R s m args below meth c B D K nL nc ns Z M (pc + 1) lv (J (M i k) :: sk)) : G p l e R s m args below meth c B D K nL nc ns Z M pc lv (J x :: .ref (B + i) :: sk) := by subst hk; exact g_bald h hs h0 h1 d kk
theorem g_zaldk (k : Nat) (h : Cx p s m args meth c D K cc nL own ret) {i n : Nat} {x : Int} (hs : shp i = .inl (3, n)) (h0 : 0 ≤ x) (h1 : x < n) (hk : x.toNat = k) (d : decode cc pc = .ok (.baload, 1)) (kk : G p l e R s m args below meth c B D K nL nc ns Z M (pc + 1) lv (J (M i k) :: sk)) : G p l e R s m args below meth c B D K nL nc ns Z M pc lv (J x :: .ref (B + i) :: sk) := by subst hk; exact g_zald h hs h0 h1 d kk
theorem g_caldk (k : Nat) (h : Cx p s m args meth c D K cc nL own ret) {i n : Nat} {x : Int} (hs : shp i = .inl (2, n)) (h0 : 0 ≤ x) (h1 : x < n) (hk : x.toNat = k) (d : decode cc pc = .ok (.caload, 1)) (kk : G p l e R s m args below meth c B D K nL nc ns Z M (pc + 1) lv (J (M i k) :: sk)) : G p l e R s m args below meth c B D K nL nc ns Z M pc lv (J x :: .ref (B + i) :: sk) := by subst hk; exact g_cald h hs h0 h1 d kk
theorem g_laldk (k : Nat) (h : Cx p s m args meth c D K cc nL own ret) {i n : Nat} {x : Int} (hs : shp i = .inl (4, n)) (h0 : 0 ≤ x) (h1 : x < n) (hk : x.toNat = k) (d : decode cc pc = .ok (.laload, 1)) (kk : G p l e R s m args below meth c B D K nL nc ns Z M (pc + 1) lv (JL (M i k) :: sk)) : G p l e R s m args below meth c B D K nL nc ns Z M pc lv (J x :: .ref (B + i) :: sk) := by subst hk; exact g_lald h hs h0 h1 d kk
theorem g_aaldk (k : Nat) (h : Cx p s m args meth c D K cc nL own ret) {i n : Nat} {x : Int} (hs : shp i = .inl (5, n)) (h0 : 0 ≤ x) (h1 : x < n) (hk : 37 + 7 * x.toNat = k) (d : decode cc pc = .ok (.aaload, 1)) (kk : G p l e R s m args below meth c B D K nL nc ns Z M (pc + 1) lv (.ref (B + k) :: sk)) : G p l e R s m args below meth c B D K nL nc ns Z M pc lv (J x :: .ref (B + i) :: sk) := by subst hk; exact g_aald h hs h0 h1 d kk
theorem g_iastk (k : Nat) (h : Cx p s m args meth c D K cc nL own ret) {i n : Nat} {x v : Int} (hs : shp i = .inl (0, n)) (h0 : 0 ≤ x) (h1 : x < n) (hk : x.toNat = k) (d : decode cc pc = .ok (.iastore, 1)) (kk : G p l e R s m args below meth c B D K nL nc ns Z (st M i k v) (pc + 1) lv sk) : G p l e R s m args below meth c B D K nL nc ns Z M pc lv (J v :: J x :: .ref (B + i) :: sk) := by subst hk; exact g_iast h hs h0 h1 d kk
theorem g_zastk (k : Nat) (h : Cx p s m args meth c D K cc nL own ret) {i n : Nat} {x v : Int} (hs : shp i = .inl (3, n)) (h0 : 0 ≤ x) (h1 : x < n) (hk : x.toNat = k) (hz : v = 0 ∨ v = 1) (d : decode cc pc = .ok (.bastore, 1)) (kk : G p l e R s m args below meth c B D K nL nc ns Z (st M i k v) (pc + 1) lv sk) : G p l e R s m args below meth c B D K nL nc ns Z M pc lv (J v :: J x :: .ref (B + i) :: sk) := by subst hk; exact g_zast h hs h0 h1 hz d kk
theorem g_lastk (k : Nat) (h : Cx p s m args meth c D K cc nL own ret) {i n : Nat} {x v : Int} (hs : shp i = .inl (4, n)) (h0 : 0 ≤ x) (h1 : x < n) (hk : x.toNat = k) (d : decode cc pc = .ok (.lastore, 1)) (kk : G p l e R s m args below meth c B D K nL nc ns Z (st M i k v) (pc + 1) lv sk) : G p l e R s m args below meth c B D K nL nc ns Z M pc lv (JL v :: J x :: .ref (B + i) :: sk) := by subst hk; exact g_last h hs h0 h1 d kk
theorem g_bastk (k : Nat) (h : Cx p s m args meth c D K cc nL own ret) {i n : Nat} {x v : Int} (hs : shp i = .inl (1, n)) (h0 : 0 ≤ x) (h1 : x < n) (hk : x.toNat = k) (d : decode cc pc = .ok (.bastore, 1)) (kk : G p l e R s m args below meth c B D K nL nc ns Z (st M i k (bByte v)) (pc + 1) lv sk) : G p l e R s m args below meth c B D K nL nc ns Z M pc lv (J (bByte v) :: J x :: .ref (B + i) :: sk) := by subst hk; exact g_bast h hs h0 h1 d kk
end
theorem fil_0 (M : Mem) (a : Nat) (v : Int) : fil M a 0 v = M := by
  funext d
  by_cases h : d = a
  · subst h; rw [fil_at]; funext j; simp
  · rw [fil_ne h]
theorem fil_s (M : Mem) (a i : Nat) (v : Int) : st (fil M a i v) a i v = fil M a (i + 1) v := by
  funext d
  by_cases h : d = a
  · subst h
    rw [st_at, fil_at, fil_at]
    funext j
    by_cases h1 : j = i
    · subst h1; simp
    · by_cases h2 : j < i
      · simp [h1, h2, Nat.lt_succ_of_lt h2]
      · have h3 : ¬ j < i + 1 := by omega
        simp [h1, h2, h3]
  · rw [st_ne h, fil_ne h, fil_ne h]
set_option maxHeartbeats 4000000 in
theorem c_fill (l : Launch) (B : Nat) (D : va_G) (K : Nat → ClassId) (a n : Nat) (hs : shp a = .inl (0, n)) (v : Int) (hv : inR v) (M : Mem) (hM : MR M) : CtV l yJ7_fill_53178 cJ7_fill_53178 4 0 0 B D K [.ref (B + a), J v] M (fun M1 => M1 = fil M a n v) := by
  refine ct_v (by decide) (Nat.le_of_ble_eq_true rfl) ?_
  intro p e s m args below meth c hC
  have hC : Cx p s m args meth c D K cJ7_fill_53178 4 RJ7 none := hC
  have hn := shp_n hs (by omega)
  refine (show G p l e (rmF 0 0) s m args below meth c B D K 4 0 0 (ZV below args s B D K (fun M1 => M1 = fil M a n v)) M 0 [(0, .ref (B + a)), (1, J v)] [] from ?_)
  refine g_iconst hC dJ7_fill_53178_0 ?_
  refine g_istore_n hC [(2, J 0), (0, .ref (B + a)), (1, J v)] dJ7_fill_53178_1 rfl (by decide) rfl ?_
  refine g_aload_n hC 1 dJ7_fill_53178_2 rfl rfl ?_
  refine g_alen hC hs (by decide) dJ7_fill_53178_3 ?_
  refine g_istore_n hC [(3, J n), (2, J 0), (0, .ref (B + a)), (1, J v)] dJ7_fill_53178_4 rfl (by decide) rfl ?_
  have key : ∀ (k i : Nat), i + k = n → G p l e (rmF 0 0) s m args below meth c B D K 4 0 0 (ZV below args s B D K (fun M1 => M1 = fil M a n v)) (fil M a i v) 5 [(3, J n), (2, J i), (0, .ref (B + a)), (1, J v)] [] := by
    intro k
    induction k with
    | zero =>
      intro i hi
      refine g_iload_n hC 1 dJ7_fill_53178_5 rfl rfl ?_
      refine g_iload_n hC 0 dJ7_fill_53178_6 rfl rfl ?_
      refine g_icmp_ge hC 20 (by unfold inR; omega) (by unfold inR; omega) dJ7_fill_53178_7 rfl (fun q => ?_) (fun q => ?_)
      · exact g_retv hC (MR_fil hM hv) (by rw [show i = n by omega]) dJ7_fill_53178_20
      · exact absurd (by omega) q
    | succ k ih =>
      intro i hi
      refine g_iload_n hC 1 dJ7_fill_53178_5 rfl rfl ?_
      refine g_iload_n hC 0 dJ7_fill_53178_6 rfl rfl ?_
      refine g_icmp_ge hC 20 (by unfold inR; omega) (by unfold inR; omega) dJ7_fill_53178_7 rfl (fun q => ?_) (fun q => ?_)
      · exact absurd q (by omega)
      · refine g_aload_n hC 2 dJ7_fill_53178_10 rfl rfl ?_
        refine g_iload_n hC 1 dJ7_fill_53178_11 rfl rfl ?_
        refine g_iload_n hC 3 dJ7_fill_53178_12 rfl rfl ?_
        refine g_iastk i hC hs (by omega) (by omega) (by omega) dJ7_fill_53178_13 ?_
        rw [fil_s]
        refine g_iincv hC 1 (v := ((i + 1 : Nat) : Int)) (by omega) [(2, J ((i + 1 : Nat) : Int)), (3, J n), (0, .ref (B + a)), (1, J v)] dJ7_fill_53178_14 rfl (by decide) rfl ?_
        refine g_goto hC 5 dJ7_fill_53178_17 rfl ?_
        refine g_sub [(3, J n), (2, J ((i + 1 : Nat) : Int)), (0, .ref (B + a)), (1, J v)] [1, 0, 2, 3] rfl ?_
        exact ih (i + 1) (by omega)
  have h0 := key n 0 (by omega)
  rw [fil_0] at h0
  exact h0
