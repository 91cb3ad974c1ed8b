/-! cutting a place off: ways in turn -/
def frm (N : Nt) (U : Nat → Bool) (r : Nat) : Nat := if U r = true then N.ft r else N.hd r
def too (N : Nt) (U : Nat → Bool) (r : Nat) : Nat := if U r = true then N.hd r else N.ft r
def sst (N : Nt) (U : Nat → Bool) (s : Int × (Nat → Int)) (r : Nat) : Int × (Nat → Int) := if tb s.1 (frm N U r) = true ∧ tb s.1 (too N U r) = false then (bOr s.1 (bShl 1 (too N U r : Int)), fun p => if p = too N U r then (r : Int) else s.2 p) else s
def swp (N : Nt) (U : Nat → Bool) (s : Int × (Nat → Int)) : Nat → Int × (Nat → Int)
  | 0 => s
  | j + 1 => sst N U (swp N U s j) j
def rnd (N : Nt) (U : Nat → Bool) (s0 : Int) : Nat → Int × (Nat → Int)
  | 0 => (s0, fun _ => -1)
  | n + 1 => swp N U (rnd N U s0 n) N.R
def RIn (N : Nt) (U : Nat → Bool) (s0 : Int) (s : Int × (Nat → Int)) (t : Nat → Nat) : Prop := inR s.1 ∧ (∀ p, tb s0 p = true → tb s.1 p = true) ∧ (∀ p, tb s.1 p = true → p < N.P) ∧ ∀ p, (tb s.1 p = true → t p < cnt (tb s.1) N.P ∧ ((tb s0 p = true ∧ s.2 p = -1) ∨ (tb s0 p = false ∧ ∃ r : Nat, r < N.R ∧ s.2 p = r ∧ too N U r = p ∧ tb s.1 (frm N U r) = true ∧ t (frm N U r) < t p))) ∧ (tb s.1 p = false → s.2 p = -1)
section
variable {N : Nt} {U : Nat → Bool} {s0 : Int}
theorem too_lt (hW : Wf N) {r : Nat} (hr : r < N.R) : too N U r < N.P := by
  have := hW.2.2 r hr
  unfold too
  split <;> omega
theorem frm_lt (hW : Wf N) {r : Nat} (hr : r < N.R) : frm N U r < N.P := by
  have := hW.2.2 r hr
  unfold frm
  split <;> omega
theorem sst_no {s : Int × (Nat → Int)} {r : Nat} (h : ¬ (tb s.1 (frm N U r) = true ∧ tb s.1 (too N U r) = false)) : sst N U s r = s := by unfold sst; rw [if_neg h]
theorem sst_yes {s : Int × (Nat → Int)} {r : Nat} (h : tb s.1 (frm N U r) = true ∧ tb s.1 (too N U r) = false) : sst N U s r = (bOr s.1 (bShl 1 (too N U r : Int)), fun p => if p = too N U r then (r : Int) else s.2 p) := by unfold sst; rw [if_pos h]
theorem sst_in (hW : Wf N) {s : Int × (Nat → Int)} {r : Nat} (hr : r < N.R) (h : ∃ t, RIn N U s0 s t) : ∃ t, RIn N U s0 (sst N U s r) t := by
  by_cases hc : tb s.1 (frm N U r) = true ∧ tb s.1 (too N U r) = false
  · obtain ⟨t, h1, h2, h3, h4⟩ := h
    have htl := too_lt (U := U) hW hr
    have hP := hW.1
    rw [sst_yes hc]
    have hor : ∀ p, tb (bOr s.1 (bShl 1 (too N U r : Int))) p = true ↔ tb s.1 p = true ∨ p = too N U r := fun p => by rw [tb_or, tb_one (by omega)]; simp
    have hcn : cnt (tb (bOr s.1 (bShl 1 (too N U r : Int)))) N.P = cnt (tb s.1) N.P + 1 := cnt_add htl hc.2 (fun i _ => by rw [tb_or, tb_one (by omega)])
    refine ⟨fun p => if p = too N U r then cnt (tb s.1) N.P else t p, bOr_in _ _, fun p hp => (hor p).mpr (Or.inl (h2 p hp)), fun p hp => ?_, fun p => ⟨fun hp => ?_, fun hp => ?_⟩⟩
    · rcases (hor p).mp hp with z | z
      · exact h3 p z
      · rw [z]; exact htl
    · dsimp only at hp ⊢
      rw [hcn]
      by_cases e : p = too N U r
      · rw [if_pos e, if_pos e]
        refine ⟨by omega, Or.inr ⟨?_, r, hr, rfl, e.symm, (hor _).mpr (Or.inl hc.1), ?_⟩⟩
        · cases q : tb s0 p
          · rfl
          · have := h2 p q
            rw [e, hc.2] at this
            cases this
        · rw [if_neg (fun z => by have := hc.1; rw [z, hc.2] at this; cases this)]
          exact ((h4 _).1 hc.1).1
      · rw [if_neg e, if_neg e]
        have hp' : tb s.1 p = true := ((hor p).mp hp).resolve_right e
        obtain ⟨a1, a2⟩ := (h4 p).1 hp'
        refine ⟨by omega, ?_⟩
        rcases a2 with a2 | ⟨b1, q, b2, b3, b4, b5, b6⟩
        · exact Or.inl a2
        · refine Or.inr ⟨b1, q, b2, b3, b4, (hor _).mpr (Or.inl b5), ?_⟩
          rw [if_neg (fun z => by rw [z, hc.2] at b5; cases b5)]
          exact b6
    · dsimp only at hp ⊢
      have hne : p ≠ too N U r := fun z => by rw [(hor p).mpr (Or.inr z)] at hp; cases hp
      rw [if_neg hne]
      refine (h4 p).2 ?_
      cases q : tb s.1 p
      · rfl
      · rw [(hor p).mpr (Or.inl q)] at hp; cases hp
  · rw [sst_no hc]; exact h
theorem swp_in (hW : Wf N) {s : Int × (Nat → Int)} (h : ∃ t, RIn N U s0 s t) : ∀ j, j ≤ N.R → ∃ t, RIn N U s0 (swp N U s j) t
  | 0, _ => h
  | j + 1, hj => sst_in hW (by omega) (swp_in hW h j (by omega))
theorem rnd_in (hW : Wf N) (hi : inR s0) (hs : ∀ p, tb s0 p = true → p < N.P) : ∀ n, ∃ t, RIn N U s0 (rnd N U s0 n) t
  | 0 => ⟨fun _ => 0, hi, fun p hp => hp, hs, fun p => ⟨fun hp => ⟨cnt_pos.mpr ⟨p, hs p hp, hp⟩, Or.inl ⟨hp, rfl⟩⟩, fun _ => rfl⟩⟩
  | n + 1 => swp_in hW (rnd_in hW hi hs n) N.R (Nat.le_refl _)
theorem sst_up {s : Int × (Nat → Int)} {r p : Nat} (h : tb s.1 p = true) : tb (sst N U s r).1 p = true := by
  unfold sst
  split
  · show tb (bOr _ _) p = true
    rw [tb_or, h]; rfl
  · exact h
theorem swp_up {s : Int × (Nat → Int)} {p : Nat} (h : tb s.1 p = true) : ∀ j, tb (swp N U s j).1 p = true
  | 0 => h
  | j + 1 => sst_up (swp_up h j)
def Hlt (N : Nt) (U : Nat → Bool) (s0 : Int) (pl n : Nat) : Prop := (rnd N U s0 n).1 = (rnd N U s0 (n - 1)).1 ∨ tb (rnd N U s0 n).1 pl = true
def Hts (N : Nt) (U : Nat → Bool) (s0 : Int) (pl n : Nat) : Prop := 0 < n ∧ Hlt N U s0 pl n ∧ ∀ m, 0 < m → m < n → ¬ Hlt N U s0 pl m
theorem Hts.uniq {pl n m : Nat} (h : Hts N U s0 pl n) (k : Hts N U s0 pl m) : n = m := by
  rcases Nat.lt_trichotomy n m with z | z | z
  · exact absurd h.2.1 (k.2.2 n h.1 z)
  · exact z
  · exact absurd k.2.1 (h.2.2 m k.1 z)
/-- as long as no round halts, each brings a place -/
theorem rnd_cnt (hW : Wf N) (hi : inR s0) (hs : ∀ p, tb s0 p = true → p < N.P) {pl : Nat} : ∀ n, (∀ m, 0 < m → m ≤ n → ¬ Hlt N U s0 pl m) → n ≤ cnt (tb (rnd N U s0 n).1) N.P
  | 0, _ => by omega
  | n + 1, h => by
    have h1 := rnd_cnt hW hi hs n (fun m a b => h m a (by omega))
    have h2 := h (n + 1) (by omega) (by omega)
    obtain ⟨t, k1, k2, k3, -⟩ := rnd_in (U := U) hW hi hs n
    obtain ⟨t', j1, j2, j3, -⟩ := rnd_in (U := U) hW hi hs (n + 1)
    have := cnt_more (P := N.P) k1 j1 (fun p hp => swp_up (N := N) (U := U) hp N.R) (fun e => h2 (Or.inl e)) j3
    omega
def pst (N : Nt) (s0 : Int) (b : Nat → Int) (y : Nat × (Nat → Bool)) : Nat × (Nat → Bool) := if tb s0 y.1 = true then y else (frm N y.2 (b y.1).toNat, fun r => if r = (b y.1).toNat then !y.2 r else y.2 r)
def pw (N : Nt) (s0 : Int) (b : Nat → Int) (x : Nat × (Nat → Bool)) : Nat → Nat × (Nat → Bool)
  | 0 => x
  | i + 1 => pst N s0 b (pw N s0 b x i)
theorem pw_stay {b : Nat → Int} {x : Nat × (Nat → Bool)} {i : Nat} (h : tb s0 (pw N s0 b x i).1 = true) : ∀ j, pw N s0 b x (i + j) = pw N s0 b x i
  | 0 => rfl
  | j + 1 => by
    show pst N s0 b (pw N s0 b x (i + j)) = _
    rw [pw_stay h j]
    unfold pst
    rw [if_pos h]
theorem pw_uniq {b : Nat → Int} {x : Nat × (Nat → Bool)} {i j : Nat} (h : tb s0 (pw N s0 b x i).1 = true) (k : tb s0 (pw N s0 b x j).1 = true) : pw N s0 b x i = pw N s0 b x j := by
  rcases Nat.le_total i j with z | z
  · have := pw_stay h (j - i)
    rw [show i + (j - i) = j by omega] at this
    exact this.symm
  · have := pw_stay k (i - j)
    rw [show j + (i - j) = i by omega] at this
    exact this
def vlt (N : Nt) (pl r : Nat) : Int := (if N.ft r = pl then 1 else 0) - (if N.hd r = pl then 1 else 0)
def vlu (N : Nt) (pl : Nat) (U : Nat → Bool) : Int := sm (fun r => if U r = true then vlt N pl r else 0) N.R
theorem vlu_le (pl : Nat) : vlu N pl U ≤ N.R := by
  have := sm_le (f := fun r => if U r = true then vlt N pl r else 0) (b := 1) (n := N.R) (fun r _ => by
    unfold vlt
    (repeat' split) <;> omega)
  unfold vlu
  omega
def PIn (N : Nt) (U : Nat → Bool) (s0 : Int) (s : Int × (Nat → Int)) (t : Nat → Nat) (pl i : Nat) (y : Nat × (Nat → Bool)) : Prop := tb s.1 y.1 = true ∧ i + t y.1 ≤ t pl ∧ (∀ r, y.2 r ≠ U r → ∃ q, tb s.1 q = true ∧ tb s0 q = false ∧ s.2 q = r ∧ t y.1 < t q) ∧ vlu N pl y.2 = vlu N pl U + (if y.1 = pl then 0 else 1)
theorem PIn.here {s : Int × (Nat → Int)} {t : Nat → Nat} {pl i : Nat} {y : Nat × (Nat → Bool)} (hR : RIn N U s0 s t) (h : PIn N U s0 s t pl i y) (hn : tb s0 y.1 = false) : ∃ r : Nat, r < N.R ∧ s.2 y.1 = r ∧ y.2 r = U r ∧ too N U r = y.1 ∧ tb s.1 (frm N U r) = true ∧ t (frm N U r) < t y.1 ∧ frm N y.2 r = frm N U r := by
  obtain ⟨-, -, -, h4⟩ := hR
  obtain ⟨k1, k2, k3, k4⟩ := h
  obtain ⟨-, a2⟩ := (h4 y.1).1 k1
  rcases a2 with ⟨z, -⟩ | ⟨-, r, b2, b3, b4, b5, b6⟩
  · rw [hn] at z; cases z
  · have e : y.2 r = U r := by
      apply Classical.byContradiction
      intro hne
      obtain ⟨q, q1, q2, q3, q4⟩ := k3 r hne
      rcases ((h4 q).1 q1).2 with ⟨z, -⟩ | ⟨-, r', c2, c3, c4, -⟩
      · rw [q2] at z; cases z
      · have : r' = r := by omega
        rw [this, b4] at c4
        rw [c4] at q4
        omega
    exact ⟨r, b2, b3, e, b4, b5, b6, by unfold frm; rw [e]⟩
theorem PIn.step (hG : Good N) {s : Int × (Nat → Int)} {t : Nat → Nat} {pl i : Nat} {y : Nat × (Nat → Bool)} (hR : RIn N U s0 s t) (h : PIn N U s0 s t pl i y) (hn : tb s0 y.1 = false) : PIn N U s0 s t pl (i + 1) (pst N s0 s.2 y) := by
  obtain ⟨r, r1, r2, r3, r4, r5, r6, r7⟩ := h.here hR hn
  obtain ⟨k1, k2, k3, k4⟩ := h
  have e : pst N s0 s.2 y = (frm N U r, fun q => if q = r then !y.2 q else y.2 q) := by
    unfold pst
    rw [if_neg (by rw [hn]; simp), r2, tn, r7]
  rw [e]
  have hne : frm N U r ≠ pl := fun z => by rw [z] at r6; omega
  refine ⟨r5, by show i + 1 + t (frm N U r) ≤ t pl; omega, fun q hq => ?_, ?_⟩
  · dsimp only at hq ⊢
    by_cases z : q = r
    · exact ⟨y.1, k1, hn, by rw [z]; exact r2, r6⟩
    · rw [if_neg z] at hq
      obtain ⟨p, p1, p2, p3, p4⟩ := k3 q hq
      exact ⟨p, p1, p2, p3, by omega⟩
  · show vlu N pl (fun q => if q = r then !y.2 q else y.2 q) = vlu N pl U + (if frm N U r = pl then 0 else 1)
    rw [if_neg hne]
    have hv : vlu N pl (fun q => if q = r then !y.2 q else y.2 q) = vlu N pl y.2 + (if y.1 = pl then 1 else 0) := by
      unfold vlu
      refine sm_add (k := r) r1 (fun q _ hqr => by simp [hqr]) ?_
      simp only [↓reduceIte, r3]
      have hhf : N.hd r ≠ N.ft r := fun e => hG.2.irrefl (a := N.hd r) (Up_iff.mpr ⟨r, Ew_all r1, e.symm, Or.inl rfl⟩)
      unfold vlt
      cases q : U r
      · have e1 : N.ft r = y.1 := by rw [← r4]; unfold too; rw [if_neg (by rw [q]; simp)]
        have e2 : N.hd r ≠ pl := by
          have : frm N U r = N.hd r := by unfold frm; rw [if_neg (by rw [q]; simp)]
          rw [← this]; exact hne
        rw [e1, if_neg e2]
        simp
      · have e1 : N.hd r = y.1 := by rw [← r4]; unfold too; rw [if_pos q]
        have e2 : N.ft r ≠ pl := by
          have : frm N U r = N.ft r := by unfold frm; rw [if_pos q]
          rw [← this]; exact hne
        rw [e1, if_neg e2]
        simp
        split <;> omega
    rw [hv, k4]
    split <;> omega
/-- a way was found and used -/
def Aug (N : Nt) (s0 : Int) (pl : Nat) (U U' : Nat → Bool) : Prop := ∃ n i, Hts N U s0 pl n ∧ tb (rnd N U s0 n).1 pl = true ∧ tb s0 (pw N s0 (rnd N U s0 n).2 (pl, U) i).1 = true ∧ U' = (pw N s0 (rnd N U s0 n).2 (pl, U) i).2
def NoW (N : Nt) (s0 : Int) (pl : Nat) (U : Nat → Bool) : Prop := ∃ n, Hts N U s0 pl n ∧ tb (rnd N U s0 n).1 pl = false
theorem Aug.uniq {pl : Nat} {U' U'' : Nat → Bool} (h : Aug N s0 pl U U') (k : Aug N s0 pl U U'') : U' = U'' := by
  obtain ⟨n, i, h1, h2, h3, h4⟩ := h
  obtain ⟨m, j, k1, k2, k3, k4⟩ := k
  have e := h1.uniq k1
  subst e
  rw [h4, k4, pw_uniq h3 k3]
theorem Aug.no {pl : Nat} {U' : Nat → Bool} (h : Aug N s0 pl U U') (k : NoW N s0 pl U) : False := by
  obtain ⟨n, i, h1, h2, -⟩ := h
  obtain ⟨m, k1, k2⟩ := k
  rw [h1.uniq k1, k2] at h2
  cases h2
theorem pw_in (hG : Good N) {s : Int × (Nat → Int)} {t : Nat → Nat} {pl : Nat} (hR : RIn N U s0 s t) (hp : tb s.1 pl = true) : ∀ i, (∀ j, j < i → tb s0 (pw N s0 s.2 (pl, U) j).1 = false) → PIn N U s0 s t pl i (pw N s0 s.2 (pl, U) i)
  | 0, _ => ⟨hp, by show 0 + t pl ≤ t pl; omega, fun r hr => absurd rfl hr, by show vlu N pl U = vlu N pl U + (if pl = pl then 0 else 1); rw [if_pos rfl]; omega⟩
  | i + 1, h => (pw_in hG hR hp i (fun j hj => h j (by omega))).step hG hR (h i (by omega))
theorem Aug.vlu_aug (hG : Good N) (hi : inR s0) (hs : ∀ p, tb s0 p = true → p < N.P) {pl : Nat} (hpl : tb s0 pl = false) {U' : Nat → Bool} (h : Aug N s0 pl U U') : vlu N pl U' = vlu N pl U + 1 := by
  obtain ⟨n, i, h1, h2, h3, h4⟩ := h
  obtain ⟨t, hR⟩ := rnd_in (U := U) hG.1 hi hs n
  have key : ∀ i, tb s0 (pw N s0 (rnd N U s0 n).2 (pl, U) i).1 = true → ∃ j, (∀ m, m < j → tb s0 (pw N s0 (rnd N U s0 n).2 (pl, U) m).1 = false) ∧ tb s0 (pw N s0 (rnd N U s0 n).2 (pl, U) j).1 = true := by
    intro i
    induction i using Nat.strongRecOn with
    | ind i ih =>
      intro hi'
      by_cases z : ∃ m, m < i ∧ tb s0 (pw N s0 (rnd N U s0 n).2 (pl, U) m).1 = true
      · obtain ⟨m, m1, m2⟩ := z
        exact ih m m1 m2
      · refine ⟨i, fun m hm => ?_, hi'⟩
        cases q : tb s0 (pw N s0 (rnd N U s0 n).2 (pl, U) m).1
        · rfl
        · exact absurd ⟨m, hm, q⟩ z
  obtain ⟨j, j1, j2⟩ := key i h3
  have hP := pw_in hG hR h2 j j1
  rw [h4, pw_uniq h3 j2, hP.2.2.2, if_neg (fun e => by rw [e, hpl] at j2; cases j2)]
def Chi (N : Nt) (s0 : Int) (pl k : Nat) (V : Nat → Nat → Bool) : Prop := V 0 = (fun _ => false) ∧ ∀ i, i < k → Aug N s0 pl (V i) (V (i + 1))
theorem Chi.vlu_chi (hG : Good N) (hi : inR s0) (hs : ∀ p, tb s0 p = true → p < N.P) {pl : Nat} (hpl : tb s0 pl = false) {V : Nat → Nat → Bool} : ∀ {k : Nat}, Chi N s0 pl k V → vlu N pl (V k) = k
  | 0, h => by
    rw [h.1]
    unfold vlu
    exact sm_0 (fun r _ => by rw [if_neg (by simp)])
  | k + 1, h => by
    have h1 := Chi.vlu_chi hG hi hs hpl (k := k) ⟨h.1, fun i hi => h.2 i (by omega)⟩
    have h2 := (h.2 k (by omega)).vlu_aug hG hi hs hpl
    omega
theorem Chi.same {pl k m : Nat} {V V' : Nat → Nat → Bool} (h : Chi N s0 pl k V) (h' : Chi N s0 pl m V') : ∀ i, i ≤ k → i ≤ m → V i = V' i
  | 0, _, _ => by rw [h.1, h'.1]
  | i + 1, a, b => by
    have e := Chi.same h h' i (by omega) (by omega)
    have h1 := h.2 i (by omega)
    rw [e] at h1
    exact h1.uniq (h'.2 i (by omega))
/-- both come to the same number -/
theorem Chi.fin (hG : Good N) (hi : inR s0) (hs : ∀ p, tb s0 p = true → p < N.P) {pl k m : Nat} (hpl : tb s0 pl = false) {V V' : Nat → Nat → Bool} (h : Chi N s0 pl k V) (h1 : NoW N s0 pl (V k) ∨ k = N.R) (h' : Chi N s0 pl m V') (h2 : NoW N s0 pl (V' m)) : k = m := by
  have e := Chi.same h h'
  have vm := Chi.vlu_chi hG hi hs hpl h'
  have lm := vlu_le (N := N) (U := V' m) pl
  rcases Nat.lt_trichotomy k m with z | z | z
  · rcases h1 with y | y
    · rw [e k (by omega) (by omega)] at y
      exact ((h'.2 k z).no y).elim
    · omega
  · exact z
  · have := h.2 m z
    rw [e m (by omega) (by omega)] at this
    exact (this.no h2).elim
end
