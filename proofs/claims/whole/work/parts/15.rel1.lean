/-! PURE PART 1: the relation between the class's memory and the reference's -/
theorem wI_1 (μ : Mm) (o k a b : Nat) (v : Int32) : (wI μ o k v).1 a b = if a = o ∧ b = k then v else μ.1 a b := rfl
theorem wI_2 (μ : Mm) (o k : Nat) (v : Int32) : (wI μ o k v).2 = μ.2 := rfl
theorem wL_1 (μ : Mm) (o k : Nat) (v : Int64) : (wL μ o k v).1 = μ.1 := rfl
theorem wL_2 (μ : Mm) (o k a b : Nat) (v : Int64) : (wL μ o k v).2 a b = if a = o ∧ b = k then v else μ.2 a b := rfl
/-- codes of floats and doubles that can arise: 0, or from 1/8 to 2^63 in size -/
def FV (c : Int64) : Prop := c = 0 ∨ ∃ up fr : Nat, 124 ≤ up ∧ up ≤ 190 ∧ fr < 2 ^ 23 ∧ (c.toInt = up * 2 ^ 23 + fr ∨ c.toInt = (up * 2 ^ 23 + fr : Int) - 2 ^ 31)
def DV (c : Int64) : Prop := c = 0 ∨ ∃ up fr : Nat, 1020 ≤ up ∧ up ≤ 1086 ∧ fr < 2 ^ 52 ∧ (c.toInt = up * 2 ^ 52 + fr ∨ c.toInt = (up * 2 ^ 52 + fr : Int) - 2 ^ 63)
/-- the codes of a primitive type -/
def VC (t : Nat) (c : Int64) : Prop := match t with
  | 0 => c = 0 ∨ c = 1
  | 1 => -128 ≤ c.toInt ∧ c.toInt ≤ 127
  | 2 => 0 ≤ c.toInt ∧ c.toInt ≤ 65535
  | 3 => -32768 ≤ c.toInt ∧ c.toInt ≤ 32767
  | 4 => -2147483648 ≤ c.toInt ∧ c.toInt ≤ 2147483647
  | 5 => True
  | 6 => FV c
  | 7 => DV c
  | _ => False
/-- what an element or the hand is, on both sides: the form; type and code; kind and value -/
def It (mc : Nat) (star : Nat → Int32) (f xt : Int32) (xc : Int64) (mk : Int32) (mv : Int64) : Prop :=
  (f = 0 ∧ xt = -9 ∧ xc = 0)
  ∨ ((f = 1 ∨ f = 2) ∧ xt = mk ∧ xc = mv ∧ ∃ t, t < 8 ∧ xt = nI t ∧ VC t xc)
  ∨ (f = 3 ∧ ∃ j, j < mc ∧ xc = lN j ∧ mv = lN j ∧ ((xt = 9 ∧ star j = 1) ∨ (xt = 8 ∧ star j = 0)))
  ∨ (f = 4 ∧ xt = 10 ∧ xc = mv ∧ ∃ j, j < 10000 ∧ xc = lN j)
/-- a cell of an array of type t -/
def Ce (mc : Nat) (star : Nat → Int32) (t : Nat) (xt : Int32) (xc : Int64) (f mk : Int32) (mv : Int64) : Prop :=
  (t < 8 → f = 1 ∧ xt = nI t) ∧ (8 ≤ t → f ≠ 1) ∧ It mc star f xt xc mk mv
/-- the class's core: slots, elements' types and codes, marks' numbers -/
abbrev Xc : Type := (Nat → Int32) × (Nat → Int32) × (Nat → Int64) × (Nat → Int32)
/-- the reference's core: thing, rowOf, kindOf, size, form, kind, value -/
abbrev Mc : Type := (Nat → Int32) × (Nat → Int32) × (Nat → Int32) × (Nat → Int32) × (Nat → Int32) × (Nat → Int32) × (Nat → Int64)
def Sl (mc : Nat) (star th le : Nat → Int32) (x : Xc) (m : Mc) (a : Nat) : Prop :=
  ∃ r t, r < 26 ∧ t < 16 ∧ x.1 a = nI r ∧ th r = nI t ∧ m.1 a = nI t ∧
    ((t ≤ 12 ∧ ∃ q n, q < 11 ∧ n ≤ 6 ∧ m.2.1 a = nI q ∧ m.2.2.1 q = nI t ∧ le r = nI n ∧ m.2.2.2.1 q = nI n ∧
        ∀ i, i < n → Ce mc star t (x.2.1 (6 * r + i)) (x.2.2.1 (6 * r + i)) (m.2.2.2.2.1 (6 * q + i)) (m.2.2.2.2.2.1 (6 * q + i)) (m.2.2.2.2.2.2 (6 * q + i)))
      ∨ (13 ≤ t ∧ m.2.1 a = -9 ∧ le r = 0))
def Cr (mc : Nat) (star th le : Nat → Int32) (x : Xc) (m : Mc) : Prop :=
  (∀ a, a < 10 → Sl mc star th le x m a) ∧ ∀ a b, a < 10 → b < 10 → m.2.1 a ≠ -9 → (x.1 a = x.1 b ↔ m.2.1 a = m.2.1 b)
/-- the log of the class: position of the j-th latest act; undoing one act -/
def lpos (nx j : Nat) : Nat := (nx + 14 - j) % 14
def unA (μ : Mm) (p : Nat) (x : Xc) : Xc :=
  if μ.1 15 p = 0 then (upd x.1 (μ.1 16 p).toNatClampNeg (μ.1 17 p), x.2.1, x.2.2.1, x.2.2.2)
  else if μ.1 15 p = 1 then (x.1, fun k => if 6 * (μ.1 17 p).toNatClampNeg ≤ k ∧ k < 6 * (μ.1 17 p).toNatClampNeg + 6 then μ.1 19 (6 * p + (k - 6 * (μ.1 17 p).toNatClampNeg)) else x.2.1 k, fun k => if 6 * (μ.1 17 p).toNatClampNeg ≤ k ∧ k < 6 * (μ.1 17 p).toNatClampNeg + 6 then μ.2 20 (6 * p + (k - 6 * (μ.1 17 p).toNatClampNeg)) else x.2.2.1 k, x.2.2.2)
  else (x.1, x.2.1, x.2.2.1, upd x.2.2.2 (μ.1 16 p).toNatClampNeg (μ.1 18 p))
def xcore (μ : Mm) : Xc := (μ.1 6, μ.1 13, μ.2 14, μ.1 21)
def mcore (μ : Mm) : Mc := (μ.1 2, μ.1 3, μ.1 4, μ.1 5, μ.1 6, μ.1 7, μ.2 8)
/-- the reference's core as it was noted at position p -/
def msnap (μ : Mm) (p : Nat) : Mc := (fun k => μ.1 12 (10 * p + k), fun k => μ.1 13 (10 * p + k), fun k => μ.1 14 (11 * p + k), fun k => μ.1 15 (11 * p + k), fun k => μ.1 16 (66 * p + k), fun k => μ.1 17 (66 * p + k), fun k => μ.2 18 (66 * p + k))
def Un (μ : Mm) (nx : Nat) : Nat → Xc
  | 0 => xcore μ
  | j + 1 => unA μ (lpos nx (j + 1)) (Un μ nx j)
/-- an act that is kept is sound -/
def Ac1 (μx μm : Mm) (mc p : Nat) : Prop :=
  (∃ r, r < 26 ∧ μx.1 17 p = nI r) ∧ (∃ om, om ≤ mc ∧ μm.1 20 p = nI om ∧ (μx.1 15 p = 0 ∨ μx.1 15 p = 1 ∨ (μx.1 15 p = 2 ∧ ∃ k, k < om ∧ μx.1 16 p = nI k))) ∧ (μx.1 15 p = 0 → ∃ k, k < 10 ∧ μx.1 16 p = nI k)
def Lg (μx μm : Mm) (mc nx kp : Nat) : Prop :=
  ∀ j, 1 ≤ j → j ≤ kp → Ac1 μx μm mc (lpos nx j) ∧ Cr mc (μm.1 10) (μx.1 11) (μx.1 12) (Un μx nx j) (msnap μm (lpos nx j)) ∧ ∀ k om, om ≤ 20 → μm.1 20 (lpos nx j) = nI om → k < om → (Un μx nx j).2.2.2 k = μm.1 19 (20 * lpos nx j + k)
def RTxt (μx μm : Mm) : Prop := ∃ n, n ≤ 60 ∧ μx.1 1 1 = nI n ∧ μm.1 0 1 = nI n ∧ ∀ j, j < n → μx.1 8 j = μm.1 1 j ∧ ∃ c, c < 256 ∧ μm.1 1 j = nI c
def RVw (μx μm : Mm) : Prop := ∃ n, n ≤ 6 ∧ μx.1 5 3 = nI n ∧ μm.1 0 31 = nI n ∧ ∀ j, j < n → μx.1 22 j = μm.1 21 j ∧ μx.1 23 j = μm.1 22 j ∧ μx.1 24 j = μm.1 23 j ∧ ∃ k, k < 8 ∧ μm.1 22 j = nI k
def RRp (μx μm : Mm) : Prop := ∃ n, n ≤ 6 ∧ μx.1 0 7 = nI n ∧ μm.1 0 16 = nI n ∧ ∀ j, j < n → μx.1 7 j = μm.1 11 j
def RHd (μx μm : Mm) (mc : Nat) : Prop := μx.1 0 8 = μm.1 0 12 ∧ It mc (μm.1 10) (μx.1 0 8) (μx.1 0 9) (μx.2 0 10) (μm.1 0 13) (μm.2 0 14)
def RMk (μx μm : Mm) (mc : Nat) : Prop := mc ≤ 20 ∧ μx.1 4 1 = nI mc ∧ μm.1 0 11 = nI mc ∧ ∀ j, j < mc → μx.1 21 j = μm.1 9 j ∧ (μm.1 10 j = 0 ∨ μm.1 10 j = 1)
def RLg (μx μm : Mm) (mc : Nat) : Prop := ∃ nx kp, nx < 14 ∧ kp ≤ 14 ∧ μx.1 3 6 = nI nx ∧ μm.1 0 27 = nI nx ∧ μx.1 3 7 = nI kp ∧ μm.1 0 26 = nI kp ∧ Lg μx μm mc nx kp
def RCo (μx μm : Mm) (mc : Nat) : Prop := Cr mc (μm.1 10) (μx.1 11) (μx.1 12) (xcore μx) (mcore μm) ∧ μx.1 11 0 = 15 ∧ μx.1 12 0 = 0
def Rel (μx μm : Mm) : Prop := RTxt μx μm ∧ RVw μx μm ∧ RRp μx μm ∧ ∃ mc, RMk μx μm mc ∧ RHd μx μm mc ∧ RCo μx μm mc ∧ RLg μx μm mc
/-- memories that are the same but for what only one call uses -/
def scX (o k : Nat) : Bool := (o == 1 && (k == 2 || k == 3 || k == 6)) || o == 9
def scM (o k : Nat) : Bool := (o == 0 && (k == 32 || k == 33 || k == 37 || k == 38 || k == 43 || k == 44 || k == 46)) || (24 ≤ o && o ≤ 28)
def EqX (μ μ' : Mm) : Prop := (∀ o k, scX o k = false → μ'.1 o k = μ.1 o k) ∧ ∀ o k, o ≠ 10 → μ'.2 o k = μ.2 o k
def EqM (μ μ' : Mm) : Prop := (∀ o k, scM o k = false → μ'.1 o k = μ.1 o k) ∧ ∀ o k, ((o = 0 ∧ k = 14) ∨ o = 8 ∨ o = 18) → μ'.2 o k = μ.2 o k
theorem EqX.rf {μ : Mm} : EqX μ μ := ⟨fun _ _ _ => rfl, fun _ _ _ => rfl⟩
theorem EqM.rf {μ : Mm} : EqM μ μ := ⟨fun _ _ _ => rfl, fun _ _ _ => rfl⟩
theorem EqX.tr {μ μ1 μ2 : Mm} (h : EqX μ μ1) (h2 : EqX μ1 μ2) : EqX μ μ2 := ⟨fun o k hk => (h2.1 o k hk).trans (h.1 o k hk), fun o k hk => (h2.2 o k hk).trans (h.2 o k hk)⟩
theorem EqM.tr {μ μ1 μ2 : Mm} (h : EqM μ μ1) (h2 : EqM μ1 μ2) : EqM μ μ2 := ⟨fun o k hk => (h2.1 o k hk).trans (h.1 o k hk), fun o k hk => (h2.2 o k hk).trans (h.2 o k hk)⟩
theorem EqX.wI {μ μ1 : Mm} {o k : Nat} {v : Int32} (h : EqX μ μ1) (hs : scX o k = true) : EqX μ (wI μ1 o k v) := ⟨fun a b hab => by
    rw [wI_1, if_neg (fun z => by rw [z.1, z.2, hs] at hab; cases hab)]; exact h.1 a b hab, h.2⟩
theorem EqM.wI {μ μ1 : Mm} {o k : Nat} {v : Int32} (h : EqM μ μ1) (hs : scM o k = true) : EqM μ (wI μ1 o k v) := ⟨fun a b hab => by
    rw [wI_1, if_neg (fun z => by rw [z.1, z.2, hs] at hab; cases hab)]; exact h.1 a b hab, h.2⟩
theorem EqX.wL {μ μ1 : Mm} {k : Nat} {v : Int64} (h : EqX μ μ1) : EqX μ (wL μ1 10 k v) := ⟨h.1, fun a b hab => by
    rw [wL_2, if_neg (fun z => hab z.1)]; exact h.2 a b hab⟩
theorem EqM.wL {μ μ1 : Mm} {o k : Nat} {v : Int64} (h : EqM μ μ1) (hs : ¬ ((o = 0 ∧ k = 14) ∨ o = 8 ∨ o = 18)) : EqM μ (wL μ1 o k v) := ⟨h.1, fun a b hab => by
    rw [wL_2, if_neg (fun z => hs (by rw [z.1, z.2] at hab; exact hab))]; exact h.2 a b hab⟩
