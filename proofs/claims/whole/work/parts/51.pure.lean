/-! The world, and what an hour does with it: pure -/
def mxF (x y : Int32) : Int32 := if x < y then y else x
def mnF (x y : Int32) : Int32 := if y < x then y else x
def asF (x : Int32) : Int32 := if 0 ≤ x then x else 0 - x
def ushF (x k : Int32) : Int32 := (Int32.toUInt32 x >>> (Int32.toUInt32 k &&& Int32.toUInt32 31)).toInt32
def bc1 (x : Int32) : Int32 := x - ((ushF x 1) &&& 1431655765)
def bc2 (x : Int32) : Int32 := (x &&& 858993459) + ((ushF x 2) &&& 858993459)
def bc3 (x : Int32) : Int32 := (x + ushF x 4) &&& 252645135
def bc4 (x : Int32) : Int32 := x + ushF x 8
def bc5 (x : Int32) : Int32 := (x + ushF x 16) &&& 63
def bcF (x : Int32) : Int32 := bc5 (bc4 (bc3 (bc2 (bc1 x))))
theorem bc_ev {d : Nat} {σ : Sg} {x : Int32} : ev (d + 1) 0 0 [(0, .int x)] [] (mkH σ) = rI σ (bcF x) := g_Integer_bitCount_0
/-- barges, men, cells; the canal, the lungs, the rule -/
abbrev Wd : Type := (Nat × Nat × Nat) × (Nat → Int32) × (Nat → Int32) × ((Nat → Int32) → Int32)
def wb (W : Wd) : Nat := W.1.1
def wp (W : Wd) : Nat := W.1.2.1
def wc (W : Wd) : Nat := W.1.2.2
def wK (W : Wd) : Nat → Int32 := W.2.1
def wl (W : Wd) : Nat → Int32 := W.2.2.1
def wV (W : Wd) : (Nat → Int32) → Int32 := W.2.2.2
def th6 (a b c e m h : Int32) : Nat → Int32 := fun k => match k with
  | 0 => a
  | 1 => b
  | 2 => c
  | 3 => e
  | 4 => m
  | _ => h
def onF (W : Wd) (f : Nat → Int32) (c : Int32) : Int32 := fndF (fun b => f b == c) (wb W) 0
def nxF (c h : Int32) : Int32 := if h = 0 then c + 1 else c - 1
def meF (W : Wd) (f : Nat → Int32) (b : Nat) : Int32 := if onF W f (nxF (f b) (f (4 + b))) = -1 then 0 else 1
def abF (W : Wd) (f : Nat → Int32) (x : Int32) : Int32 := bitsF (wp W) (fun p => f (16 + p) == x)
def awF (W : Wd) (f : Nat → Int32) : Int32 := bitsF (wp W) (fun p => !(f (25 + p) == 0))
def thF (W : Wd) (f : Nat → Int32) : Int32 := bitsF (wb W) (fun b => !(f (12 + b) == 0))
def tmF (W : Wd) (f : Nat → Int32) : Int32 := bcF (thF W f)
def brF (W : Wd) (f : Nat → Int32) : Int32 := sumF (wp W) (fun p => f (34 + p))
def hsF (s : Int32) (p : Nat) : Bool := ((s >>> (nI p &&& 31)) &&& 1) == 1
def boF (W : Wd) (f : Nat → Int32) (s : Int32) : Int32 := sumF (wp W) (fun p => bif hsF s p then f (34 + p) else 0)
def puV (W : Wd) (f : Nat → Int32) (p : Nat) : Int32 := wV W (th6 (f (34 + p)) (wl W p) (f (8 + Int32.toNatClampNeg (f (16 + p)))) (bcF (abF W f (f (16 + p)))) (meF W f (Int32.toNatClampNeg (f (16 + p)))) (f 43 - f 43 / 12 * 12))
def puF (W : Wd) (f : Nat → Int32) (p : Nat) : Int32 := if f (25 + p) = 0 then 0 else mxF 0 (mnF (f (34 + p)) (puV W f p))
def wiG (W : Wd) (f : Nat → Int32) (b p : Nat) (x : Int32) : Int32 := if f (16 + p) = nI b then (if f (25 + p) = 0 then x + -1 else x + puF W f p) else x
def wiF (W : Wd) (f : Nat → Int32) (b : Nat) : Int32 := mxF 0 (accF (wiG W f b) (wp W) (-(f (8 + b))))
def hoG (f : Nat → Int32) (b p : Nat) (x : Int32) : Int32 := if f (16 + p) = nI b ∧ ¬ f (25 + p) = 0 then x + f (34 + p) else x
def hoF (W : Wd) (f : Nat → Int32) (b : Nat) : Int32 := accF (hoG f b) (wp W) 0
/-- going: the cells, and how many went and were blown -/
abbrev Qs : Type := (Nat → Int32) × Int32 × Int32
def aeF (W : Wd) (g : Nat → Int32) (b : Nat) : Bool := g b == (if g (4 + b) = 0 then nI (wc W) - 1 else 0)
def toF (g : Nat → Int32) (b : Nat) : Int32 := nxF (g b) (g (4 + b))
def bhF (g : Nat → Int32) (b : Nat) : Int32 := nxF (toF g b) (g (4 + b))
def yiF (W : Wd) (wd g : Nat → Int32) (b o : Nat) : Bool := (g (12 + o) == 0) && !(g (4 + o) == g (4 + b)) && decide (wd o < wd b)
def clF (W : Wd) (g : Nat → Int32) (h : Int32) : Bool := ax_ix h (wc W) && !decide (0 < wK W (Int32.toNatClampNeg h)) && (onF W g h == -1)
def stF (W : Wd) (wd hd : Nat → Int32) (b : Nat) (q : Qs) : Option Qs :=
  bif aeF W q.1 b then none
  else if wK W (Int32.toNatClampNeg (toF q.1 b)) ≤ hd b then
    (if onF W q.1 (toF q.1 b) = -1 then some (upd q.1 b (toF q.1 b), q.2.1 + 1, q.2.2)
     else bif yiF W wd q.1 b (Int32.toNatClampNeg (onF W q.1 (toF q.1 b))) && clF W q.1 (bhF q.1 b) then some (upd (upd q.1 (Int32.toNatClampNeg (onF W q.1 (toF q.1 b))) (bhF q.1 b)) b (toF q.1 b), q.2.1 + 1, q.2.2 + 1) else none)
  else none
def rnF (W : Wd) (wd hd : Nat → Int32) (b : Nat) : Nat → Qs → Qs
  | 0, q => q
  | n + 1, q => match stF W wd hd b q with
    | none => q
    | some q' => rnF W wd hd b n q'
def tiF (wd : Nat → Int32) (b : Nat) : Int32 := mnF 3 ((wd b + 2) / 3)
def goF (W : Wd) (wd hd : Nat → Int32) (b : Nat) (q : Qs) : Qs := if q.1 (12 + b) = 0 then rnF W wd hd b (Int32.toNatClampNeg (tiF wd b)) q else q
def goA (W : Wd) (wd hd : Nat → Int32) : Nat → Qs → Qs
  | 0, q => q
  | n + 1, q => goF W wd hd n (goA W wd hd n q)
def moF (W : Wd) (f g : Nat → Int32) (p : Nat) : Int32 := if f (25 + p) = 0 then 1 else (if wK W (Int32.toNatClampNeg (g (Int32.toNatClampNeg (f (16 + p))))) = -1 then 2 else 1) - puF W f p
def hrG (W : Wd) (f g : Nat → Int32) (i : Nat) : Int32 :=
  if 12 ≤ i ∧ i < 12 + wb W then (bif aeF W g (i - 12) then 1 else g i)
  else if 34 ≤ i ∧ i < 34 + wp W then mnF (wl W (i - 34)) (g i + moF W f g (i - 34))
  else if i = 43 then g 43 + 1 else g i
def goH (W : Wd) (f : Nat → Int32) : Qs := goA W (wiF W f) (hoF W f) (wb W) (f, 0, 0)
def hrF (W : Wd) (f : Nat → Int32) : Qs := (hrG W f (goH W f).1, (goH W f).2)
def itF (W : Wd) (f : Nat → Int32) : Nat → Qs
  | 0 => (f, 0, 0)
  | n + 1 => ((hrF W (itF W f n).1).1, (itF W f n).2.1 + (hrF W (itF W f n).1).2.1, (itF W f n).2.2 + (hrF W (itF W f n).1).2.2)
/-- good worlds and states -/
def kOk (x : Int32) : Prop := x = 0 ∨ x = -1 ∨ ∃ j, 1 ≤ j ∧ j ≤ 9 ∧ x = nI j
def n9 (x : Int32) : Prop := ∃ j, j ≤ 9 ∧ x = nI j
def z1 (x : Int32) : Prop := x = 0 ∨ x = 1
def WO (W : Wd) : Prop := wb W ≤ 4 ∧ wp W ≤ 9 ∧ 4 ≤ wc W ∧ wc W ≤ 30 ∧ (∀ c, c < wc W → kOk (wK W c)) ∧ (∀ p, p < wp W → n9 (wl W p))
def OK (W : Wd) (f : Nat → Int32) : Prop := (∀ b, b < wb W → ax_ix (f b) (wc W) = true ∧ z1 (f (4 + b)) ∧ n9 (f (8 + b)) ∧ z1 (f (12 + b))) ∧ (∀ p, p < wp W → ax_ix (f (16 + p)) (wb W) = true ∧ z1 (f (25 + p)) ∧ n9 (f (34 + p)))
/-- alike in what lives -/
def Lv (W : Wd) (g f : Nat → Int32) : Prop := (∀ b, b < wb W → g b = f b ∧ g (4 + b) = f (4 + b) ∧ g (8 + b) = f (8 + b) ∧ g (12 + b) = f (12 + b)) ∧ (∀ p, p < wp W → g (16 + p) = f (16 + p) ∧ g (25 + p) = f (25 + p) ∧ g (34 + p) = f (34 + p)) ∧ g 43 = f 43
/-- the class's fleet, the class's world, the reference's world -/
def FR (W : Wd) (w : Bool) (σ : Sg) (f : Nat → Int32) : Prop := (∀ b, b < wb W → sA σ (fa w 0) b = f b ∧ sA σ (fa w 1) b = f (4 + b) ∧ sA σ (fa w 2) b = f (8 + b) ∧ sA σ (fa w 3) b = f (12 + b)) ∧ (∀ p, p < wp W → sA σ (fa w 9) p = f (16 + p) ∧ sA σ (fa w 10) p = f (25 + p) ∧ sA σ (fa w 11) p = f (34 + p)) ∧ sI σ (fi w 2) = f 43
def CK (c k : Int32) : Prop := (c = 46 ∧ k = 0) ∨ (c = 98 ∧ k = -1) ∨ ∃ j, 1 ≤ j ∧ j ≤ 9 ∧ c = nI (48 + j) ∧ k = nI j
def CC (W : Wd) (σ : Sg) : Prop := sI σ 193 = nI (wc W) ∧ (∀ c, c < wc W → CK (sA σ 4 c) (wK W c))
def CW (W : Wd) (w : Bool) (σ : Sg) : Prop := sI σ (fi w 5) = nI (wb W) ∧ sI σ (fi w 14) = nI (wp W) ∧ (∀ p, p < wp W → sA σ (fa w 8) p = wl W p)
def MW (W : Wd) (σ : Sg) : Prop := sI σ 3202 = nI (wb W) ∧ sI σ 3203 = nI (wp W) ∧ sI σ 3201 = nI (wc W) ∧ (∀ c, c < wc W → sA σ 52 c = wK W c) ∧ (∀ p, p < wp W → sA σ 53 p = wl W p)
