theorem sc0 : shp 0 = .inr (11, [.inl 1, .inl 3, .inl 12, .inl 18, .inl 19, .inr 0, .inl 20, .inl 36, .inl 58, .inl 60, .inl 63, .inl 66, .inl 68, .inl 72, .inl 78, .inl 94, .inr 0]) := rfl
theorem sc1 : shp 1 = .inr (10, [.inl 2, .inr 0]) := rfl
theorem sc2 : shp 2 = .inl (1, 1600) := rfl
theorem sc3 : shp 3 = .inr (6, [.inl 4, .inl 10, .inl 11, .inr 0, .inr 0, .inr 0, .inl 1, .inr 0]) := rfl
theorem sc4 : shp 4 = .inr (5, [.inr 0, .inr 0, .inl 5, .inl 6, .inl 7, .inl 8, .inl 9]) := rfl
theorem sc5 : shp 5 = .inl (0, 30) := rfl
theorem sc6 : shp 6 = .inl (0, 30) := rfl
theorem sc7 : shp 7 = .inl (0, 30) := rfl
theorem sc8 : shp 8 = .inl (0, 30) := rfl
theorem sc9 : shp 9 = .inl (0, 30) := rfl
theorem sc10 : shp 10 = .inl (0, 20) := rfl
theorem sc11 : shp 11 = .inl (0, 10) := rfl
theorem sc12 : shp 12 = .inr (5, [.inr 0, .inr 0, .inl 13, .inl 14, .inl 15, .inl 16, .inl 17]) := rfl
theorem sc13 : shp 13 = .inl (0, 30) := rfl
theorem sc14 : shp 14 = .inl (0, 30) := rfl
theorem sc15 : shp 15 = .inl (0, 30) := rfl
theorem sc16 : shp 16 = .inl (0, 30) := rfl
theorem sc17 : shp 17 = .inl (0, 30) := rfl
theorem sc18 : shp 18 = .inl (0, 20) := rfl
theorem sc19 : shp 19 = .inl (0, 10) := rfl
theorem sc20 : shp 20 = .inr (1, [.inl 21, .inl 22, .inl 23, .inl 24, .inl 25, .inl 26, .inl 27, .inl 28, .inl 29, .inl 30, .inl 31, .inr 0, .inr 0]) := rfl
theorem sc21 : shp 21 = .inl (0, 20) := rfl
theorem sc22 : shp 22 = .inl (0, 30) := rfl
theorem sc23 : shp 23 = .inl (0, 20) := rfl
theorem sc24 : shp 24 = .inl (0, 20) := rfl
theorem sc25 : shp 25 = .inl (0, 20) := rfl
theorem sc26 : shp 26 = .inl (0, 20) := rfl
theorem sc27 : shp 27 = .inl (0, 20) := rfl
theorem sc28 : shp 28 = .inl (0, 20) := rfl
theorem sc29 : shp 29 = .inl (0, 30) := rfl
theorem sc30 : shp 30 = .inl (0, 30) := rfl
theorem sc31 : shp 31 = .inr (2, [.inl 32, .inl 33, .inl 34, .inl 35]) := rfl
theorem sc32 : shp 32 = .inl (0, 30) := rfl
theorem sc33 : shp 33 = .inl (0, 20) := rfl
theorem sc34 : shp 34 = .inl (0, 20) := rfl
theorem sc35 : shp 35 = .inl (0, 20) := rfl
theorem sc36 : shp 36 = .inl (5, 3) := rfl
theorem sc37 : shp 37 = .inr (9, [.inl 38, .inl 39, .inl 40, .inl 41, .inl 42, .inl 43]) := rfl
theorem sc38 : shp 38 = .inl (0, 20) := rfl
theorem sc39 : shp 39 = .inl (0, 20) := rfl
theorem sc40 : shp 40 = .inl (0, 30) := rfl
theorem sc41 : shp 41 = .inl (0, 30) := rfl
theorem sc42 : shp 42 = .inl (0, 30) := rfl
theorem sc43 : shp 43 = .inl (0, 30) := rfl
theorem sc44 : shp 44 = .inr (9, [.inl 45, .inl 46, .inl 47, .inl 48, .inl 49, .inl 50]) := rfl
theorem sc45 : shp 45 = .inl (0, 20) := rfl
theorem sc46 : shp 46 = .inl (0, 20) := rfl
theorem sc47 : shp 47 = .inl (0, 30) := rfl
theorem sc48 : shp 48 = .inl (0, 30) := rfl
theorem sc49 : shp 49 = .inl (0, 30) := rfl
theorem sc50 : shp 50 = .inl (0, 30) := rfl
theorem sc51 : shp 51 = .inr (9, [.inl 52, .inl 53, .inl 54, .inl 55, .inl 56, .inl 57]) := rfl
theorem sc52 : shp 52 = .inl (0, 20) := rfl
theorem sc53 : shp 53 = .inl (0, 20) := rfl
theorem sc54 : shp 54 = .inl (0, 30) := rfl
theorem sc55 : shp 55 = .inl (0, 30) := rfl
theorem sc56 : shp 56 = .inl (0, 30) := rfl
theorem sc57 : shp 57 = .inl (0, 30) := rfl
theorem sc58 : shp 58 = .inr (3, [.inr 0, .inr 0, .inl 59]) := rfl
theorem sc59 : shp 59 = .inl (0, 640) := rfl
theorem sc60 : shp 60 = .inr (0, [.inr 0, .inr 0, .inl 61, .inl 62]) := rfl
theorem sc61 : shp 61 = .inl (0, 4) := rfl
theorem sc62 : shp 62 = .inl (0, 120) := rfl
theorem sc63 : shp 63 = .inr (8, [.inr 0, .inl 64, .inl 65]) := rfl
theorem sc64 : shp 64 = .inl (0, 12) := rfl
theorem sc65 : shp 65 = .inl (0, 12) := rfl
theorem sc66 : shp 66 = .inr (4, [.inr 0, .inl 67]) := rfl
theorem sc67 : shp 67 = .inl (0, 153) := rfl
theorem sc68 : shp 68 = .inr (7, [.inl 69, .inl 70, .inl 71, .inr 0]) := rfl
theorem sc69 : shp 69 = .inl (0, 20) := rfl
theorem sc70 : shp 70 = .inl (0, 30) := rfl
theorem sc71 : shp 71 = .inl (0, 20) := rfl
theorem sc72 : shp 72 = .inr (5, [.inr 0, .inr 0, .inl 73, .inl 74, .inl 75, .inl 76, .inl 77]) := rfl
theorem sc73 : shp 73 = .inl (0, 30) := rfl
theorem sc74 : shp 74 = .inl (0, 30) := rfl
theorem sc75 : shp 75 = .inl (0, 30) := rfl
theorem sc76 : shp 76 = .inl (0, 30) := rfl
theorem sc77 : shp 77 = .inl (0, 30) := rfl
theorem sc78 : shp 78 = .inr (1, [.inl 79, .inl 80, .inl 81, .inl 82, .inl 83, .inl 84, .inl 85, .inl 86, .inl 87, .inl 88, .inl 89, .inr 0, .inr 0]) := rfl
theorem sc79 : shp 79 = .inl (0, 20) := rfl
theorem sc80 : shp 80 = .inl (0, 30) := rfl
theorem sc81 : shp 81 = .inl (0, 20) := rfl
theorem sc82 : shp 82 = .inl (0, 20) := rfl
theorem sc83 : shp 83 = .inl (0, 20) := rfl
theorem sc84 : shp 84 = .inl (0, 20) := rfl
theorem sc85 : shp 85 = .inl (0, 20) := rfl
theorem sc86 : shp 86 = .inl (0, 20) := rfl
theorem sc87 : shp 87 = .inl (0, 30) := rfl
theorem sc88 : shp 88 = .inl (0, 30) := rfl
theorem sc89 : shp 89 = .inr (2, [.inl 90, .inl 91, .inl 92, .inl 93]) := rfl
theorem sc90 : shp 90 = .inl (0, 30) := rfl
theorem sc91 : shp 91 = .inl (0, 20) := rfl
theorem sc92 : shp 92 = .inl (0, 20) := rfl
theorem sc93 : shp 93 = .inl (0, 20) := rfl
theorem sc94 : shp 94 = .inl (0, 6) := rfl
theorem sc95 : shp 95 = .inr (12, [.inl 96, .inr 0, .inr 0, .inr 0, .inr 0, .inr 0, .inr 0, .inr 0, .inr 0, .inl 97, .inl 98, .inr 0, .inl 99, .inl 100, .inr 0, .inr 0, .inl 101, .inl 102, .inl 103, .inl 104, .inl 105, .inl 106, .inl 107, .inl 108, .inl 109, .inl 110, .inl 111, .inl 112, .inl 113, .inl 114, .inl 115, .inl 116, .inl 117, .inl 118, .inl 119, .inl 120, .inl 121, .inl 122, .inr 0, .inl 123, .inl 124, .inr 0, .inr 0, .inr 0, .inr 0, .inl 125, .inr 1, .inl 126, .inr 0]) := rfl
theorem sc96 : shp 96 = .inl (0, 1600) := rfl
theorem sc97 : shp 97 = .inl (0, 6) := rfl
theorem sc98 : shp 98 = .inl (2, 35) := rfl
theorem sc99 : shp 99 = .inl (0, 183) := rfl
theorem sc100 : shp 100 = .inl (0, 183) := rfl
theorem sc101 : shp 101 = .inl (0, 20) := rfl
theorem sc102 : shp 102 = .inl (0, 20) := rfl
theorem sc103 : shp 103 = .inl (0, 20) := rfl
theorem sc104 : shp 104 = .inl (0, 20) := rfl
theorem sc105 : shp 105 = .inl (0, 20) := rfl
theorem sc106 : shp 106 = .inl (0, 20) := rfl
theorem sc107 : shp 107 = .inl (0, 30) := rfl
theorem sc108 : shp 108 = .inl (0, 20) := rfl
theorem sc109 : shp 109 = .inl (0, 20) := rfl
theorem sc110 : shp 110 = .inl (0, 30) := rfl
theorem sc111 : shp 111 = .inl (0, 30) := rfl
theorem sc112 : shp 112 = .inl (0, 90) := rfl
theorem sc113 : shp 113 = .inl (0, 90) := rfl
theorem sc114 : shp 114 = .inl (0, 90) := rfl
theorem sc115 : shp 115 = .inl (0, 90) := rfl
theorem sc116 : shp 116 = .inl (4, 20) := rfl
theorem sc117 : shp 117 = .inl (0, 20) := rfl
theorem sc118 : shp 118 = .inl (0, 30) := rfl
theorem sc119 : shp 119 = .inl (0, 183) := rfl
theorem sc120 : shp 120 = .inl (0, 30) := rfl
theorem sc121 : shp 121 = .inl (3, 30) := rfl
theorem sc122 : shp 122 = .inl (0, 20) := rfl
theorem sc123 : shp 123 = .inl (0, 24) := rfl
theorem sc124 : shp 124 = .inl (0, 3660) := rfl
theorem sc125 : shp 125 = .inl (0, 120) := rfl
theorem sc126 : shp 126 = .inl (0, 153) := rfl
def is_X5 (n : Nat) : Prop := n = 4 ∨ n = 12 ∨ n = 72
def is_X1 (n : Nat) : Prop := n = 20 ∨ n = 78
def is_X2 (n : Nat) : Prop := n = 31 ∨ n = 89
def is_X9 (n : Nat) : Prop := n = 37 ∨ n = 44 ∨ n = 51
theorem sh_X5 {n : Nat} (h : is_X5 n) : shp n = .inr (5, [.inr 0, .inr 0, .inl (n + 1), .inl (n + 2), .inl (n + 3), .inl (n + 4), .inl (n + 5)]) := by rcases h with rfl | rfl | rfl <;> rfl
theorem sh_X5_2 {n : Nat} (h : is_X5 n) : shp (n + 1) = .inl (0, 30) := by rcases h with rfl | rfl | rfl <;> rfl
theorem sh_X5_3 {n : Nat} (h : is_X5 n) : shp (n + 2) = .inl (0, 30) := by rcases h with rfl | rfl | rfl <;> rfl
theorem sh_X5_4 {n : Nat} (h : is_X5 n) : shp (n + 3) = .inl (0, 30) := by rcases h with rfl | rfl | rfl <;> rfl
theorem sh_X5_5 {n : Nat} (h : is_X5 n) : shp (n + 4) = .inl (0, 30) := by rcases h with rfl | rfl | rfl <;> rfl
theorem sh_X5_6 {n : Nat} (h : is_X5 n) : shp (n + 5) = .inl (0, 30) := by rcases h with rfl | rfl | rfl <;> rfl
theorem sh_X1 {n : Nat} (h : is_X1 n) : shp n = .inr (1, [.inl (n + 1), .inl (n + 2), .inl (n + 3), .inl (n + 4), .inl (n + 5), .inl (n + 6), .inl (n + 7), .inl (n + 8), .inl (n + 9), .inl (n + 10), .inl (n + 11), .inr 0, .inr 0]) := by rcases h with rfl | rfl <;> rfl
theorem sh_X1_0 {n : Nat} (h : is_X1 n) : shp (n + 1) = .inl (0, 20) := by rcases h with rfl | rfl <;> rfl
theorem sh_X1_1 {n : Nat} (h : is_X1 n) : shp (n + 2) = .inl (0, 30) := by rcases h with rfl | rfl <;> rfl
theorem sh_X1_2 {n : Nat} (h : is_X1 n) : shp (n + 3) = .inl (0, 20) := by rcases h with rfl | rfl <;> rfl
theorem sh_X1_3 {n : Nat} (h : is_X1 n) : shp (n + 4) = .inl (0, 20) := by rcases h with rfl | rfl <;> rfl
theorem sh_X1_4 {n : Nat} (h : is_X1 n) : shp (n + 5) = .inl (0, 20) := by rcases h with rfl | rfl <;> rfl
theorem sh_X1_5 {n : Nat} (h : is_X1 n) : shp (n + 6) = .inl (0, 20) := by rcases h with rfl | rfl <;> rfl
theorem sh_X1_6 {n : Nat} (h : is_X1 n) : shp (n + 7) = .inl (0, 20) := by rcases h with rfl | rfl <;> rfl
theorem sh_X1_7 {n : Nat} (h : is_X1 n) : shp (n + 8) = .inl (0, 20) := by rcases h with rfl | rfl <;> rfl
theorem sh_X1_8 {n : Nat} (h : is_X1 n) : shp (n + 9) = .inl (0, 30) := by rcases h with rfl | rfl <;> rfl
theorem sh_X1_9 {n : Nat} (h : is_X1 n) : shp (n + 10) = .inl (0, 30) := by rcases h with rfl | rfl <;> rfl
theorem fl_X1_10 {n : Nat} (h : is_X1 n) : is_X2 (n + 11) := by rcases h with rfl | rfl <;> simp [is_X2]
theorem sh_X2 {n : Nat} (h : is_X2 n) : shp n = .inr (2, [.inl (n + 1), .inl (n + 2), .inl (n + 3), .inl (n + 4)]) := by rcases h with rfl | rfl <;> rfl
theorem sh_X2_0 {n : Nat} (h : is_X2 n) : shp (n + 1) = .inl (0, 30) := by rcases h with rfl | rfl <;> rfl
theorem sh_X2_1 {n : Nat} (h : is_X2 n) : shp (n + 2) = .inl (0, 20) := by rcases h with rfl | rfl <;> rfl
theorem sh_X2_2 {n : Nat} (h : is_X2 n) : shp (n + 3) = .inl (0, 20) := by rcases h with rfl | rfl <;> rfl
theorem sh_X2_3 {n : Nat} (h : is_X2 n) : shp (n + 4) = .inl (0, 20) := by rcases h with rfl | rfl <;> rfl
theorem sh_X9 {n : Nat} (h : is_X9 n) : shp n = .inr (9, [.inl (n + 1), .inl (n + 2), .inl (n + 3), .inl (n + 4), .inl (n + 5), .inl (n + 6)]) := by rcases h with rfl | rfl | rfl <;> rfl
theorem sh_X9_0 {n : Nat} (h : is_X9 n) : shp (n + 1) = .inl (0, 20) := by rcases h with rfl | rfl | rfl <;> rfl
theorem sh_X9_1 {n : Nat} (h : is_X9 n) : shp (n + 2) = .inl (0, 20) := by rcases h with rfl | rfl | rfl <;> rfl
theorem sh_X9_2 {n : Nat} (h : is_X9 n) : shp (n + 3) = .inl (0, 30) := by rcases h with rfl | rfl | rfl <;> rfl
theorem sh_X9_3 {n : Nat} (h : is_X9 n) : shp (n + 4) = .inl (0, 30) := by rcases h with rfl | rfl | rfl <;> rfl
theorem sh_X9_4 {n : Nat} (h : is_X9 n) : shp (n + 5) = .inl (0, 30) := by rcases h with rfl | rfl | rfl <;> rfl
theorem sh_X9_5 {n : Nat} (h : is_X9 n) : shp (n + 6) = .inl (0, 30) := by rcases h with rfl | rfl | rfl <;> rfl
theorem st_X9 {x : Int} (h0 : 0 ≤ x) (h1 : x < 3) : is_X9 (37 + 7 * x.toNat) := by unfold is_X9; omega
/-- a cell that is an int array -/
def isIA (a : Nat) : Prop := shp a = .inl (0, lenS (shp a))
def jn {τ : Type} (J : τ) (b : τ → Prop) : Prop := b J
theorem jn_use {τ : Type} {J : τ} {b : τ → Prop} (P : τ → Prop) (h1 : P J) (h2 : ∀ k, P k → b k) : jn J b := h2 J h1
theorem jn_elim {τ : Type} {J : τ} {b : τ → Prop} {g : Prop} (P : τ → Prop) (h : jn J b) (h1 : P J) (h2 : ∀ k, P k → b k → g) : g := h2 J h1 h
def wl1 {α1 : Type} (b : (α1 → Prop) → α1 → Prop) : Nat → α1 → Prop
  | 0, _ => False
  | n + 1, x1 => b (wl1 b n) x1
theorem wl1_elim {α1 : Type} {b : (α1 → Prop) → α1 → Prop} (T : α1 → Prop) (hs : ∀ r : α1 → Prop, (∀ (y1 : α1), r y1 → T y1) → ∀ (x1 : α1), b r x1 → T x1) : ∀ (n : Nat) (x1 : α1), wl1 b n x1 → T x1
  | 0, _, h => h.elim
  | n + 1, x1, h => hs (wl1 b n) (wl1_elim T hs n) x1 h
theorem wl1_inv {α1 : Type} {b : (α1 → Prop) → α1 → Prop} (I : α1 → Prop) (μ : α1 → Nat) (hs : ∀ (r : α1 → Prop) (x1 : α1), I x1 → (∀ (y1 : α1), I y1 → μ y1 < μ x1 → r y1) → b r x1) : ∀ (n : Nat) (x1 : α1), I x1 → μ x1 < n → wl1 b n x1
  | 0, _, _, h => absurd h (Nat.not_lt_zero _)
  | n + 1, x1, hi, h => hs (wl1 b n) x1 hi (fun y1 hy hm => wl1_inv I μ hs n y1 hy (by omega))
def wl2 {α1 α2 : Type} (b : (α1 → α2 → Prop) → α1 → α2 → Prop) : Nat → α1 → α2 → Prop
  | 0, _, _ => False
  | n + 1, x1, x2 => b (wl2 b n) x1 x2
theorem wl2_elim {α1 α2 : Type} {b : (α1 → α2 → Prop) → α1 → α2 → Prop} (T : α1 → α2 → Prop) (hs : ∀ r : α1 → α2 → Prop, (∀ (y1 : α1) (y2 : α2), r y1 y2 → T y1 y2) → ∀ (x1 : α1) (x2 : α2), b r x1 x2 → T x1 x2) : ∀ (n : Nat) (x1 : α1) (x2 : α2), wl2 b n x1 x2 → T x1 x2
  | 0, _, _, h => h.elim
  | n + 1, x1, x2, h => hs (wl2 b n) (wl2_elim T hs n) x1 x2 h
theorem wl2_inv {α1 α2 : Type} {b : (α1 → α2 → Prop) → α1 → α2 → Prop} (I : α1 → α2 → Prop) (μ : α1 → α2 → Nat) (hs : ∀ (r : α1 → α2 → Prop) (x1 : α1) (x2 : α2), I x1 x2 → (∀ (y1 : α1) (y2 : α2), I y1 y2 → μ y1 y2 < μ x1 x2 → r y1 y2) → b r x1 x2) : ∀ (n : Nat) (x1 : α1) (x2 : α2), I x1 x2 → μ x1 x2 < n → wl2 b n x1 x2
  | 0, _, _, _, h => absurd h (Nat.not_lt_zero _)
  | n + 1, x1, x2, hi, h => hs (wl2 b n) x1 x2 hi (fun y1 y2 hy hm => wl2_inv I μ hs n y1 y2 hy (by omega))
def wl3 {α1 α2 α3 : Type} (b : (α1 → α2 → α3 → Prop) → α1 → α2 → α3 → Prop) : Nat → α1 → α2 → α3 → Prop
  | 0, _, _, _ => False
  | n + 1, x1, x2, x3 => b (wl3 b n) x1 x2 x3
theorem wl3_elim {α1 α2 α3 : Type} {b : (α1 → α2 → α3 → Prop) → α1 → α2 → α3 → Prop} (T : α1 → α2 → α3 → Prop) (hs : ∀ r : α1 → α2 → α3 → Prop, (∀ (y1 : α1) (y2 : α2) (y3 : α3), r y1 y2 y3 → T y1 y2 y3) → ∀ (x1 : α1) (x2 : α2) (x3 : α3), b r x1 x2 x3 → T x1 x2 x3) : ∀ (n : Nat) (x1 : α1) (x2 : α2) (x3 : α3), wl3 b n x1 x2 x3 → T x1 x2 x3
  | 0, _, _, _, h => h.elim
  | n + 1, x1, x2, x3, h => hs (wl3 b n) (wl3_elim T hs n) x1 x2 x3 h
theorem wl3_inv {α1 α2 α3 : Type} {b : (α1 → α2 → α3 → Prop) → α1 → α2 → α3 → Prop} (I : α1 → α2 → α3 → Prop) (μ : α1 → α2 → α3 → Nat) (hs : ∀ (r : α1 → α2 → α3 → Prop) (x1 : α1) (x2 : α2) (x3 : α3), I x1 x2 x3 → (∀ (y1 : α1) (y2 : α2) (y3 : α3), I y1 y2 y3 → μ y1 y2 y3 < μ x1 x2 x3 → r y1 y2 y3) → b r x1 x2 x3) : ∀ (n : Nat) (x1 : α1) (x2 : α2) (x3 : α3), I x1 x2 x3 → μ x1 x2 x3 < n → wl3 b n x1 x2 x3
  | 0, _, _, _, _, h => absurd h (Nat.not_lt_zero _)
  | n + 1, x1, x2, x3, hi, h => hs (wl3 b n) x1 x2 x3 hi (fun y1 y2 y3 hy hm => wl3_inv I μ hs n y1 y2 y3 hy (by omega))
def wl4 {α1 α2 α3 α4 : Type} (b : (α1 → α2 → α3 → α4 → Prop) → α1 → α2 → α3 → α4 → Prop) : Nat → α1 → α2 → α3 → α4 → Prop
  | 0, _, _, _, _ => False
  | n + 1, x1, x2, x3, x4 => b (wl4 b n) x1 x2 x3 x4
theorem wl4_elim {α1 α2 α3 α4 : Type} {b : (α1 → α2 → α3 → α4 → Prop) → α1 → α2 → α3 → α4 → Prop} (T : α1 → α2 → α3 → α4 → Prop) (hs : ∀ r : α1 → α2 → α3 → α4 → Prop, (∀ (y1 : α1) (y2 : α2) (y3 : α3) (y4 : α4), r y1 y2 y3 y4 → T y1 y2 y3 y4) → ∀ (x1 : α1) (x2 : α2) (x3 : α3) (x4 : α4), b r x1 x2 x3 x4 → T x1 x2 x3 x4) : ∀ (n : Nat) (x1 : α1) (x2 : α2) (x3 : α3) (x4 : α4), wl4 b n x1 x2 x3 x4 → T x1 x2 x3 x4
  | 0, _, _, _, _, h => h.elim
  | n + 1, x1, x2, x3, x4, h => hs (wl4 b n) (wl4_elim T hs n) x1 x2 x3 x4 h
theorem wl4_inv {α1 α2 α3 α4 : Type} {b : (α1 → α2 → α3 → α4 → Prop) → α1 → α2 → α3 → α4 → Prop} (I : α1 → α2 → α3 → α4 → Prop) (μ : α1 → α2 → α3 → α4 → Nat) (hs : ∀ (r : α1 → α2 → α3 → α4 → Prop) (x1 : α1) (x2 : α2) (x3 : α3) (x4 : α4), I x1 x2 x3 x4 → (∀ (y1 : α1) (y2 : α2) (y3 : α3) (y4 : α4), I y1 y2 y3 y4 → μ y1 y2 y3 y4 < μ x1 x2 x3 x4 → r y1 y2 y3 y4) → b r x1 x2 x3 x4) : ∀ (n : Nat) (x1 : α1) (x2 : α2) (x3 : α3) (x4 : α4), I x1 x2 x3 x4 → μ x1 x2 x3 x4 < n → wl4 b n x1 x2 x3 x4
  | 0, _, _, _, _, _, h => absurd h (Nat.not_lt_zero _)
  | n + 1, x1, x2, x3, x4, hi, h => hs (wl4 b n) x1 x2 x3 x4 hi (fun y1 y2 y3 y4 hy hm => wl4_inv I μ hs n y1 y2 y3 y4 hy (by omega))
def wl5 {α1 α2 α3 α4 α5 : Type} (b : (α1 → α2 → α3 → α4 → α5 → Prop) → α1 → α2 → α3 → α4 → α5 → Prop) : Nat → α1 → α2 → α3 → α4 → α5 → Prop
  | 0, _, _, _, _, _ => False
  | n + 1, x1, x2, x3, x4, x5 => b (wl5 b n) x1 x2 x3 x4 x5
theorem wl5_elim {α1 α2 α3 α4 α5 : Type} {b : (α1 → α2 → α3 → α4 → α5 → Prop) → α1 → α2 → α3 → α4 → α5 → Prop} (T : α1 → α2 → α3 → α4 → α5 → Prop) (hs : ∀ r : α1 → α2 → α3 → α4 → α5 → Prop, (∀ (y1 : α1) (y2 : α2) (y3 : α3) (y4 : α4) (y5 : α5), r y1 y2 y3 y4 y5 → T y1 y2 y3 y4 y5) → ∀ (x1 : α1) (x2 : α2) (x3 : α3) (x4 : α4) (x5 : α5), b r x1 x2 x3 x4 x5 → T x1 x2 x3 x4 x5) : ∀ (n : Nat) (x1 : α1) (x2 : α2) (x3 : α3) (x4 : α4) (x5 : α5), wl5 b n x1 x2 x3 x4 x5 → T x1 x2 x3 x4 x5
  | 0, _, _, _, _, _, h => h.elim
  | n + 1, x1, x2, x3, x4, x5, h => hs (wl5 b n) (wl5_elim T hs n) x1 x2 x3 x4 x5 h
theorem wl5_inv {α1 α2 α3 α4 α5 : Type} {b : (α1 → α2 → α3 → α4 → α5 → Prop) → α1 → α2 → α3 → α4 → α5 → Prop} (I : α1 → α2 → α3 → α4 → α5 → Prop) (μ : α1 → α2 → α3 → α4 → α5 → Nat) (hs : ∀ (r : α1 → α2 → α3 → α4 → α5 → Prop) (x1 : α1) (x2 : α2) (x3 : α3) (x4 : α4) (x5 : α5), I x1 x2 x3 x4 x5 → (∀ (y1 : α1) (y2 : α2) (y3 : α3) (y4 : α4) (y5 : α5), I y1 y2 y3 y4 y5 → μ y1 y2 y3 y4 y5 < μ x1 x2 x3 x4 x5 → r y1 y2 y3 y4 y5) → b r x1 x2 x3 x4 x5) : ∀ (n : Nat) (x1 : α1) (x2 : α2) (x3 : α3) (x4 : α4) (x5 : α5), I x1 x2 x3 x4 x5 → μ x1 x2 x3 x4 x5 < n → wl5 b n x1 x2 x3 x4 x5
  | 0, _, _, _, _, _, _, h => absurd h (Nat.not_lt_zero _)
  | n + 1, x1, x2, x3, x4, x5, hi, h => hs (wl5 b n) x1 x2 x3 x4 x5 hi (fun y1 y2 y3 y4 y5 hy hm => wl5_inv I μ hs n y1 y2 y3 y4 y5 hy (by omega))
def wl6 {α1 α2 α3 α4 α5 α6 : Type} (b : (α1 → α2 → α3 → α4 → α5 → α6 → Prop) → α1 → α2 → α3 → α4 → α5 → α6 → Prop) : Nat → α1 → α2 → α3 → α4 → α5 → α6 → Prop
  | 0, _, _, _, _, _, _ => False
  | n + 1, x1, x2, x3, x4, x5, x6 => b (wl6 b n) x1 x2 x3 x4 x5 x6
theorem wl6_elim {α1 α2 α3 α4 α5 α6 : Type} {b : (α1 → α2 → α3 → α4 → α5 → α6 → Prop) → α1 → α2 → α3 → α4 → α5 → α6 → Prop} (T : α1 → α2 → α3 → α4 → α5 → α6 → Prop) (hs : ∀ r : α1 → α2 → α3 → α4 → α5 → α6 → Prop, (∀ (y1 : α1) (y2 : α2) (y3 : α3) (y4 : α4) (y5 : α5) (y6 : α6), r y1 y2 y3 y4 y5 y6 → T y1 y2 y3 y4 y5 y6) → ∀ (x1 : α1) (x2 : α2) (x3 : α3) (x4 : α4) (x5 : α5) (x6 : α6), b r x1 x2 x3 x4 x5 x6 → T x1 x2 x3 x4 x5 x6) : ∀ (n : Nat) (x1 : α1) (x2 : α2) (x3 : α3) (x4 : α4) (x5 : α5) (x6 : α6), wl6 b n x1 x2 x3 x4 x5 x6 → T x1 x2 x3 x4 x5 x6
  | 0, _, _, _, _, _, _, h => h.elim
  | n + 1, x1, x2, x3, x4, x5, x6, h => hs (wl6 b n) (wl6_elim T hs n) x1 x2 x3 x4 x5 x6 h
theorem wl6_inv {α1 α2 α3 α4 α5 α6 : Type} {b : (α1 → α2 → α3 → α4 → α5 → α6 → Prop) → α1 → α2 → α3 → α4 → α5 → α6 → Prop} (I : α1 → α2 → α3 → α4 → α5 → α6 → Prop) (μ : α1 → α2 → α3 → α4 → α5 → α6 → Nat) (hs : ∀ (r : α1 → α2 → α3 → α4 → α5 → α6 → Prop) (x1 : α1) (x2 : α2) (x3 : α3) (x4 : α4) (x5 : α5) (x6 : α6), I x1 x2 x3 x4 x5 x6 → (∀ (y1 : α1) (y2 : α2) (y3 : α3) (y4 : α4) (y5 : α5) (y6 : α6), I y1 y2 y3 y4 y5 y6 → μ y1 y2 y3 y4 y5 y6 < μ x1 x2 x3 x4 x5 x6 → r y1 y2 y3 y4 y5 y6) → b r x1 x2 x3 x4 x5 x6) : ∀ (n : Nat) (x1 : α1) (x2 : α2) (x3 : α3) (x4 : α4) (x5 : α5) (x6 : α6), I x1 x2 x3 x4 x5 x6 → μ x1 x2 x3 x4 x5 x6 < n → wl6 b n x1 x2 x3 x4 x5 x6
  | 0, _, _, _, _, _, _, _, h => absurd h (Nat.not_lt_zero _)
  | n + 1, x1, x2, x3, x4, x5, x6, hi, h => hs (wl6 b n) x1 x2 x3 x4 x5 x6 hi (fun y1 y2 y3 y4 y5 y6 hy hm => wl6_inv I μ hs n y1 y2 y3 y4 y5 y6 hy (by omega))
def wl7 {α1 α2 α3 α4 α5 α6 α7 : Type} (b : (α1 → α2 → α3 → α4 → α5 → α6 → α7 → Prop) → α1 → α2 → α3 → α4 → α5 → α6 → α7 → Prop) : Nat → α1 → α2 → α3 → α4 → α5 → α6 → α7 → Prop
  | 0, _, _, _, _, _, _, _ => False
  | n + 1, x1, x2, x3, x4, x5, x6, x7 => b (wl7 b n) x1 x2 x3 x4 x5 x6 x7
theorem wl7_elim {α1 α2 α3 α4 α5 α6 α7 : Type} {b : (α1 → α2 → α3 → α4 → α5 → α6 → α7 → Prop) → α1 → α2 → α3 → α4 → α5 → α6 → α7 → Prop} (T : α1 → α2 → α3 → α4 → α5 → α6 → α7 → Prop) (hs : ∀ r : α1 → α2 → α3 → α4 → α5 → α6 → α7 → Prop, (∀ (y1 : α1) (y2 : α2) (y3 : α3) (y4 : α4) (y5 : α5) (y6 : α6) (y7 : α7), r y1 y2 y3 y4 y5 y6 y7 → T y1 y2 y3 y4 y5 y6 y7) → ∀ (x1 : α1) (x2 : α2) (x3 : α3) (x4 : α4) (x5 : α5) (x6 : α6) (x7 : α7), b r x1 x2 x3 x4 x5 x6 x7 → T x1 x2 x3 x4 x5 x6 x7) : ∀ (n : Nat) (x1 : α1) (x2 : α2) (x3 : α3) (x4 : α4) (x5 : α5) (x6 : α6) (x7 : α7), wl7 b n x1 x2 x3 x4 x5 x6 x7 → T x1 x2 x3 x4 x5 x6 x7
  | 0, _, _, _, _, _, _, _, h => h.elim
  | n + 1, x1, x2, x3, x4, x5, x6, x7, h => hs (wl7 b n) (wl7_elim T hs n) x1 x2 x3 x4 x5 x6 x7 h
theorem wl7_inv {α1 α2 α3 α4 α5 α6 α7 : Type} {b : (α1 → α2 → α3 → α4 → α5 → α6 → α7 → Prop) → α1 → α2 → α3 → α4 → α5 → α6 → α7 → Prop} (I : α1 → α2 → α3 → α4 → α5 → α6 → α7 → Prop) (μ : α1 → α2 → α3 → α4 → α5 → α6 → α7 → Nat) (hs : ∀ (r : α1 → α2 → α3 → α4 → α5 → α6 → α7 → Prop) (x1 : α1) (x2 : α2) (x3 : α3) (x4 : α4) (x5 : α5) (x6 : α6) (x7 : α7), I x1 x2 x3 x4 x5 x6 x7 → (∀ (y1 : α1) (y2 : α2) (y3 : α3) (y4 : α4) (y5 : α5) (y6 : α6) (y7 : α7), I y1 y2 y3 y4 y5 y6 y7 → μ y1 y2 y3 y4 y5 y6 y7 < μ x1 x2 x3 x4 x5 x6 x7 → r y1 y2 y3 y4 y5 y6 y7) → b r x1 x2 x3 x4 x5 x6 x7) : ∀ (n : Nat) (x1 : α1) (x2 : α2) (x3 : α3) (x4 : α4) (x5 : α5) (x6 : α6) (x7 : α7), I x1 x2 x3 x4 x5 x6 x7 → μ x1 x2 x3 x4 x5 x6 x7 < n → wl7 b n x1 x2 x3 x4 x5 x6 x7
  | 0, _, _, _, _, _, _, _, _, h => absurd h (Nat.not_lt_zero _)
  | n + 1, x1, x2, x3, x4, x5, x6, x7, hi, h => hs (wl7 b n) x1 x2 x3 x4 x5 x6 x7 hi (fun y1 y2 y3 y4 y5 y6 y7 hy hm => wl7_inv I μ hs n y1 y2 y3 y4 y5 y6 y7 hy (by omega))
def wl8 {α1 α2 α3 α4 α5 α6 α7 α8 : Type} (b : (α1 → α2 → α3 → α4 → α5 → α6 → α7 → α8 → Prop) → α1 → α2 → α3 → α4 → α5 → α6 → α7 → α8 → Prop) : Nat → α1 → α2 → α3 → α4 → α5 → α6 → α7 → α8 → Prop
  | 0, _, _, _, _, _, _, _, _ => False
  | n + 1, x1, x2, x3, x4, x5, x6, x7, x8 => b (wl8 b n) x1 x2 x3 x4 x5 x6 x7 x8
theorem wl8_elim {α1 α2 α3 α4 α5 α6 α7 α8 : Type} {b : (α1 → α2 → α3 → α4 → α5 → α6 → α7 → α8 → Prop) → α1 → α2 → α3 → α4 → α5 → α6 → α7 → α8 → Prop} (T : α1 → α2 → α3 → α4 → α5 → α6 → α7 → α8 → Prop) (hs : ∀ r : α1 → α2 → α3 → α4 → α5 → α6 → α7 → α8 → Prop, (∀ (y1 : α1) (y2 : α2) (y3 : α3) (y4 : α4) (y5 : α5) (y6 : α6) (y7 : α7) (y8 : α8), r y1 y2 y3 y4 y5 y6 y7 y8 → T y1 y2 y3 y4 y5 y6 y7 y8) → ∀ (x1 : α1) (x2 : α2) (x3 : α3) (x4 : α4) (x5 : α5) (x6 : α6) (x7 : α7) (x8 : α8), b r x1 x2 x3 x4 x5 x6 x7 x8 → T x1 x2 x3 x4 x5 x6 x7 x8) : ∀ (n : Nat) (x1 : α1) (x2 : α2) (x3 : α3) (x4 : α4) (x5 : α5) (x6 : α6) (x7 : α7) (x8 : α8), wl8 b n x1 x2 x3 x4 x5 x6 x7 x8 → T x1 x2 x3 x4 x5 x6 x7 x8
  | 0, _, _, _, _, _, _, _, _, h => h.elim
  | n + 1, x1, x2, x3, x4, x5, x6, x7, x8, h => hs (wl8 b n) (wl8_elim T hs n) x1 x2 x3 x4 x5 x6 x7 x8 h
theorem wl8_inv {α1 α2 α3 α4 α5 α6 α7 α8 : Type} {b : (α1 → α2 → α3 → α4 → α5 → α6 → α7 → α8 → Prop) → α1 → α2 → α3 → α4 → α5 → α6 → α7 → α8 → Prop} (I : α1 → α2 → α3 → α4 → α5 → α6 → α7 → α8 → Prop) (μ : α1 → α2 → α3 → α4 → α5 → α6 → α7 → α8 → Nat) (hs : ∀ (r : α1 → α2 → α3 → α4 → α5 → α6 → α7 → α8 → Prop) (x1 : α1) (x2 : α2) (x3 : α3) (x4 : α4) (x5 : α5) (x6 : α6) (x7 : α7) (x8 : α8), I x1 x2 x3 x4 x5 x6 x7 x8 → (∀ (y1 : α1) (y2 : α2) (y3 : α3) (y4 : α4) (y5 : α5) (y6 : α6) (y7 : α7) (y8 : α8), I y1 y2 y3 y4 y5 y6 y7 y8 → μ y1 y2 y3 y4 y5 y6 y7 y8 < μ x1 x2 x3 x4 x5 x6 x7 x8 → r y1 y2 y3 y4 y5 y6 y7 y8) → b r x1 x2 x3 x4 x5 x6 x7 x8) : ∀ (n : Nat) (x1 : α1) (x2 : α2) (x3 : α3) (x4 : α4) (x5 : α5) (x6 : α6) (x7 : α7) (x8 : α8), I x1 x2 x3 x4 x5 x6 x7 x8 → μ x1 x2 x3 x4 x5 x6 x7 x8 < n → wl8 b n x1 x2 x3 x4 x5 x6 x7 x8
  | 0, _, _, _, _, _, _, _, _, _, h => absurd h (Nat.not_lt_zero _)
  | n + 1, x1, x2, x3, x4, x5, x6, x7, x8, hi, h => hs (wl8 b n) x1 x2 x3 x4 x5 x6 x7 x8 hi (fun y1 y2 y3 y4 y5 y6 y7 y8 hy hm => wl8_inv I μ hs n y1 y2 y3 y4 y5 y6 y7 y8 hy (by omega))
section
variable {p : Program} {l : Launch} {e : Env} {R : Room} {s : State} {m : MethodId} {args : Array Value} {below : List Frame} {meth : Method} {c : Code} {B : Nat} {D : va_G} {K : Nat → ClassId} {cc : ByteArray} {nL nc ns : Nat} {own : String} {ret : Option FieldType} {Z : State → Prop} {M : Mem} {pc : Nat} {lv : List (Nat × Value)} {sk : List Value}
theorem g_nm {x : Int} (kk : ∀ v : Int, v = x → G p l e R s m args below meth c B D K nL nc ns Z M pc lv (J v :: sk)) : G p l e R s m args below meth c B D K nL nc ns Z M pc lv (J x :: sk) := kk x rfl
theorem g_nml {x : Int} (kk : ∀ v : Int, v = x → G p l e R s m args below meth c B D K nL nc ns Z M pc lv (JL v :: sk)) : G p l e R s m args below meth c B D K nL nc ns Z M pc lv (JL x :: sk) := kk x rfl
theorem g_nmM {M0 : Mem} (kk : ∀ M1 : Mem, M1 = M0 → G p l e R s m args below meth c B D K nL nc ns Z M1 pc lv sk) : G p l e R s m args below meth c B D K nL nc ns Z M0 pc lv sk := kk M0 rfl
theorem g_sub (lv1 : List (Nat × Value)) (ks : List Nat) (hl : lv_pick lv ks = lv1) (kk : G p l e R s m args below meth c B D K nL nc ns Z M pc lv1 sk) : G p l e R s m args below meth c B D K nL nc ns Z M pc lv sk := fun H locs ls hP hS hv => kk H locs ls hP hS (lv_sub hv ks hl)
theorem g_iincv (h : Cx p s m args meth c D K cc nL own ret) {x n v : Int} {i : Nat} (j : Nat) (ev : v = x + n) (lv1 : List (Nat × Value)) (d : decode cc pc = .ok (.iinc i n, 3)) (hj : lv[j]? = some (i, J x)) (hn : i < nL) (hl : (i, J v) :: lv.filter (fun q => !(q.1 == i) && !(q.1 + 1 == i && q.2.category == 2)) = lv1) (kk : G p l e R s m args below meth c B D K nL nc ns Z M (pc + 3) lv1 sk) : G p l e R s m args below meth c B D K nL nc ns Z M pc lv sk := by subst ev; exact g_iinc h j lv1 d hj hn hl kk
theorem g_iincz (h : Cx p s m args meth c D K cc nL own ret) {x n v : Int} {i : Nat} (j : Nat) (ev : v = nz (x + n)) (lv1 : List (Nat × Value)) (d : decode cc pc = .ok (.iinc i n, 3)) (hj : lv[j]? = some (i, J x)) (hn : i < nL) (hl : (i, J v) :: lv.filter (fun q => !(q.1 == i) && !(q.1 + 1 == i && q.2.category == 2)) = lv1) (kk : G p l e R s m args below meth c B D K nL nc ns Z M (pc + 3) lv1 sk) : G p l e R s m args below meth c B D K nL nc ns Z M pc lv sk := by subst ev; rw [J_nz] at hl; exact g_iinc h j lv1 d hj hn hl kk
end
