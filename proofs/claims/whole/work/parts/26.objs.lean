/-! objects of the class, and what they are against the reference's rows -/
/-- a line (or word) of the class: 0 size, 1 letters, 2 from, 3 words, 4 marks, 5 traits, 6 ending, 7 its length -/
def XV (h : xH) (p : Int) : Nat → Int → Int
  | 0, _ => h.i p 6
  | 1, k => h.i (h.r p 0) k
  | 2, k => h.i (h.r p 1) k
  | 3, k => h.i (h.r p 2) k
  | 4, k => h.i (h.r p 3) k
  | 5, k => h.i (h.r p 4) k
  | 6, k => h.i (h.r p 5) k
  | _, _ => h.len (h.r p 5)
def cl (n : Int) (f : Int → Int) (k : Int) : Int := if 0 ≤ k ∧ k < n then f k else 0
/-- a line of the reference: 0 syllables, 1 words, 2 word, 3 from, 4 length, 5 mark, 6 sounds, 7 vowels, 8 sound, 9 word's size, 10 of the book, 11 text -/
def RV (h : xH) (l : Int) : Nat → Int → Int
  | 0, _ => h.i 81 l
  | 1, _ => h.i 77 l
  | 2, k => cl 40 (fun k => h.i 82 (40 * l + k)) k
  | 3, k => cl 40 (fun k => h.i 83 (40 * l + k)) k
  | 4, k => cl 40 (fun k => h.i 84 (40 * l + k)) k
  | 5, k => cl 40 (fun k => h.i 85 (40 * l + k)) k
  | 6, k => cl 40 (fun k => h.i 87 (40 * l + k)) k
  | 7, k => cl 40 (fun k => h.i 88 (40 * l + k)) k
  | 8, k => cl 640 (fun k => h.i 86 (640 * l + k)) k
  | 9, k => cl 12 (fun k => h.i 79 (12 * l + k)) k
  | 10, k => cl 12 (fun k => h.i 80 (12 * l + k)) k
  | _, k => cl 192 (fun k => h.i 78 (192 * l + k)) k
/-! a line as a value: its words; a word: text, whether of the book, syllables; a syllable: length, mark, sounds; a sound: number, whether a vowel -/
abbrev Sy : Type := Int × Int × List (Int × Int)
abbrev Wd : Type := List Int × Int × List Sy
/-- a syllable in its line: word, where in the word, length, mark, sounds, whether of the book -/
abbrev FS : Type := Int × Int × Int × Int × List (Int × Int) × Int
def fs0 : FS := (0, 0, 0, 0, [], 0)
def FS.w (r : FS) : Int := r.1
def FS.f (r : FS) : Int := r.2.1
def FS.n (r : FS) : Int := r.2.2.1
def FS.m (r : FS) : Int := r.2.2.2.1
def FS.s (r : FS) : List (Int × Int) := r.2.2.2.2.1
def FS.b (r : FS) : Int := r.2.2.2.2.2
def fsyl (w b : Int) : Int → List Sy → List FS
  | _, [] => []
  | f, s :: r => (w, f, s.1, s.2.1, s.2.2, b) :: fsyl w b (f + s.1) r
def flatF : Int → List Wd → List FS
  | _, [] => []
  | w, d :: r => fsyl w d.2.1 0 d.2.2 ++ flatF (w + 1) r
def flat (ws : List Wd) : List FS := flatF 0 ws
def wd0 : Wd := ([], 0, [])
def vbits : List (Int × Int) → Int
  | [] => 0
  | p :: r => p.2 + 2 * vbits r
def opn (s : List (Int × Int)) : Int := (s.headD (0, 0)).2
def cls (s : List (Int × Int)) : Int := (s.getLastD (0, 0)).2
def psm (L : List FS) (i : Nat) : Int := ((L.take i).map FS.n).sum
def txt (ws : List Wd) : List Int := (ws.map (fun d => d.1)).flatten
/-- a sound as it may be -/
def SnOk (p : Int × Int) : Prop := (p.2 = 0 ∨ p.2 = 1) ∧ ((0 ≤ p.1 ∧ p.1 < 26) ∨ (100 ≤ p.1 ∧ p.1 < 776))
def SyOk (s : Sy) : Prop := 1 ≤ s.1 ∧ 1 ≤ s.2.1 ∧ s.2.1 ≤ 3 ∧ 1 ≤ s.2.2.length ∧ s.2.2.length ≤ 16 ∧ ∀ p ∈ s.2.2, SnOk p
def WdOk (d : Wd) : Prop := 1 ≤ d.1.length ∧ d.1.length ≤ 16 ∧ (∀ c ∈ d.1, 97 ≤ c ∧ c ≤ 122) ∧ (d.2.1 = 0 ∨ d.2.1 = 1) ∧ 1 ≤ d.2.2.length ∧ (∀ s ∈ d.2.2, SyOk s) ∧ (d.2.2.map (fun s => s.1)).sum = (d.1.length : Nat)
def LnOk (ws : List Wd) : Prop := ws.length ≤ 12 ∧ (flat ws).length ≤ 40 ∧ ∀ d ∈ ws, WdOk d
/-- the class' row of syllables is this line -/
def XLn (x : Nat → Int → Int) (ws : List Wd) : Prop := x 0 0 = ((flat ws).length : Nat) ∧ (∀ i : Nat, i < (flat ws).length → x 3 i = ((flat ws).getD i fs0).w ∧ x 4 i = ((flat ws).getD i fs0).m ∧ x 5 i = opn ((flat ws).getD i fs0).s + 2 * cls ((flat ws).getD i fs0).s + 4 * ((flat ws).getD i fs0).b) ∧ (∀ i : Nat, i ≤ (flat ws).length → x 2 i = psm (flat ws) i) ∧ (∀ k : Nat, k < (txt ws).length → x 1 k = (txt ws).getD k 0)
/-- the reference's row is this line -/
def RLn (y : Nat → Int → Int) (ws : List Wd) : Prop := y 0 0 = ((flat ws).length : Nat) ∧ y 1 0 = (ws.length : Nat) ∧ (∀ i : Nat, i < (flat ws).length → y 2 i = ((flat ws).getD i fs0).w ∧ y 3 i = ((flat ws).getD i fs0).f ∧ y 4 i = ((flat ws).getD i fs0).n ∧ y 5 i = ((flat ws).getD i fs0).m ∧ y 6 i = (((flat ws).getD i fs0).s.length : Nat) ∧ y 7 i = vbits ((flat ws).getD i fs0).s ∧ ∀ k : Nat, k < ((flat ws).getD i fs0).s.length → y 8 (16 * i + k) = (((flat ws).getD i fs0).s.getD k (0, 0)).1) ∧ (∀ w : Nat, w < ws.length → y 9 w = ((ws.getD w wd0).1.length : Nat) ∧ y 10 w = (ws.getD w wd0).2.1 ∧ ∀ k : Nat, k < (ws.getD w wd0).1.length → y 11 (16 * w + k) = (ws.getD w wd0).1.getD k 0)
/-- the last heavy syllable among the first n, or -1 -/
def hvy (L : List FS) : Nat → Int
  | 0 => -1
  | n + 1 => if (L.getD n fs0).m = 1 then n else hvy L n
def efst (L : List FS) : Nat := if hvy L L.length < 0 then L.length - 1 else (hvy L L.length).toNat
/-- the sounds that rhyme -/
def eall (L : List FS) : List (Int × Int) := ((L.drop (efst L)).map FS.s).flatten
def endL (L : List FS) : List (Int × Int) := if (L.getD (efst L) fs0).s.all (fun p => decide (p.2 = 0)) then eall L else (eall L).dropWhile (fun p => decide (p.2 = 0))
def scode (s : Int) : Int := if s < 100 then s + 1 else ((s - 100) / 26 + 1) * 27 + (s - 100) % 26 + 1
def ELn (x : Nat → Int → Int) (ws : List Wd) : Prop := x 7 0 = ((endL (flat ws)).length : Nat) ∧ ∀ k : Nat, k < (endL (flat ws)).length → x 6 k = 2 * scode ((endL (flat ws)).getD k (0, 0)).1 + ((endL (flat ws)).getD k (0, 0)).2
def aprt (h : xH) (p q : Int) : Prop := (h.r 28 6 < p ∨ q < h.r 28 6) ∧ (h.r 40 3 < p ∨ q < h.r 40 3)
/-- a line or word that has been made: its cells lie one behind another -/
def SylB (h : xH) (p : Int) : Prop := 130 ≤ p ∧ p + 5 < h.nx ∧ h.tag p = 9 ∧ h.r p 0 = p + 1 ∧ h.r p 1 = p + 2 ∧ h.r p 2 = p + 3 ∧ h.r p 3 = p + 4 ∧ h.r p 4 = p + 5 ∧ h.tag (p + 1) = 20 ∧ h.tag (p + 2) = 20 ∧ h.tag (p + 3) = 20 ∧ h.tag (p + 4) = 20 ∧ h.tag (p + 5) = 20 ∧ h.len (p + 1) = h.i (p + 2) (h.i p 6) ∧ h.len (p + 2) = h.i p 6 + 1 ∧ h.len (p + 3) = h.i p 6 ∧ h.len (p + 4) = h.i p 6 ∧ h.len (p + 5) = h.i p 6 ∧ aprt h p (p + 5)
def SylE (h : xH) (p : Int) : Prop := p + 7 < h.nx ∧ h.r p 5 = p + 7 ∧ h.tag (p + 7) = 20 ∧ aprt h p (p + 7)
def LineRel (h : xH) (p l : Int) : Prop := SylB h p ∧ SylE h p ∧ ∃ ws, LnOk ws ∧ 1 ≤ ws.length ∧ XLn (XV h p) ws ∧ RLn (RV h l) ws ∧ ELn (XV h p) ws
def I_line (h : xH) : Prop := (h.r 2 13 = 0 ∧ h.i 76 0 = 0) ∨ (h.r 2 13 ≠ 0 ∧ h.i 76 0 = 1 ∧ LineRel h (h.r 2 13) 0)
def I_poem (h : xH) : Prop := h.i 48 4 = sumN (fun k => h.i 76 (k + 1)) 12 ∧ ∀ k, 0 ≤ k → k < 12 → (h.r 49 k = 0 ∧ h.i 76 (k + 1) = 0) ∨ (h.r 49 k ≠ 0 ∧ h.i 76 (k + 1) = 1 ∧ LineRel h (h.r 49 k) (k + 1))
/-- a word of the book -/
def BookRel (h : xH) (p w : Int) : Prop := SylB h p ∧ h.i p 6 = h.i 70 w ∧ 1 ≤ h.i 70 w ∧ h.i 70 w ≤ 16 ∧ h.i 69 w ≤ 16 ∧ h.i (p + 2) 0 = 0 ∧ h.i (p + 2) (h.i 70 w) = h.i 69 w ∧ (∀ s, 0 ≤ s → s < h.i 70 w → h.i (p + 2) (s + 1) = h.i (p + 2) s + h.i 71 (16 * w + s) ∧ 1 ≤ h.i 71 (16 * w + s) ∧ h.i (p + 4) s = h.i 72 (16 * w + s) ∧ 1 ≤ h.i 72 (16 * w + s) ∧ h.i 72 (16 * w + s) ≤ 3) ∧ (∀ k, 0 ≤ k → k < h.i 69 w → h.i (p + 1) k = h.i 68 (16 * w + k) ∧ 97 ≤ h.i 68 (16 * w + k) ∧ h.i 68 (16 * w + k) ≤ 122)
/-- letters f (m of them) stand ahead of letters g (n of them) -/
def lexl (f g : Int → Int) (m n : Int) : Prop := ∃ k, 0 ≤ k ∧ k ≤ m ∧ k ≤ n ∧ (∀ j, 0 ≤ j → j < k → f j = g j) ∧ ((k = m ∧ m < n) ∨ (k < m ∧ k < n ∧ f k < g k))
def I_book (h : xH) : Prop := h.i 7 2 = h.i 59 16 ∧ 0 ≤ h.i 59 16 ∧ h.i 59 16 ≤ 40 ∧ (∀ j, 0 ≤ j → j < h.i 59 16 → ∃ w, 0 ≤ w ∧ w < h.i 59 16 ∧ BookRel h (h.r 8 j) w) ∧ (∀ w, 0 ≤ w → w < h.i 59 16 → ∃ j, 0 ≤ j ∧ j < h.i 59 16 ∧ BookRel h (h.r 8 j) w) ∧ (∀ j k, 0 ≤ j → j < k → k < h.i 59 16 → lexl (h.i (h.r 8 j + 1)) (h.i (h.r 8 k + 1)) (h.len (h.r 8 j + 1)) (h.len (h.r 8 k + 1))) ∧ (∀ w v, 0 ≤ w → w < v → v < h.i 59 16 → ¬ (h.i 69 w = h.i 69 v ∧ ∀ k, 0 ≤ k → k < h.i 69 w → h.i 68 (16 * w + k) = h.i 68 (16 * v + k)))
/-- what a foot is: sort s, m places, row dg, x, y: the digit of a place; the choices at a code -/
def fd (s m : Int) (dg : Int → Int) (k : Int) : Int := if s = 2 ∧ k = m - 1 then 3 else dg k
def fopen (s m : Int) (dg : Int → Int) (k : Int) : List (Int × Int) := if fd s m dg k = 4 then [(1, 4 * k + 1), (2, 4 * k)] else [(fd s m dg k, 4 * k + 1)]
def fch (s m x y : Int) (dg : Int → Int) (c : Int) : List (Int × Int) :=
  if s = 4 then (if c = 16 then [(1, 0)] else if c / 4 < m ∧ c % 4 ≤ y then (if c % 4 < y then [(2, c + 1)] else []) ++ (if x ≤ c % 4 ∧ c / 4 + 1 < m then [(1, 4 * (c / 4 + 1))] else []) else [])
  else if c = 16 then fopen s m dg 0 else if c % 4 = 1 ∧ c / 4 + 1 < m then fopen s m dg (c / 4 + 1) else if c % 4 = 0 ∧ c / 4 < m ∧ fd s m dg (c / 4) = 4 then [(2, c + 1)] else []
def fasks (s x c : Int) : Int := if s = 3 ∧ c = 4 * (x - 1) + 1 then 1 else 0
def fends (s m x y c : Int) : Int := if s = 4 then (if c / 4 + 1 = m ∧ x ≤ c % 4 ∧ c % 4 ≤ y then 1 else 0) else if c = 4 * (m - 1) + 1 then 1 else 0
def fcodes (s m y : Int) : Int := if s = 4 then 4 * (m - 1) + y + 1 else 4 * (m - 1) + 2
def FOk (s m x y : Int) (dg : Int → Int) : Prop := 0 ≤ s ∧ s ≤ 4 ∧ 1 ≤ m ∧ m ≤ 4 ∧ (s = 4 → m ≤ 3 ∧ 0 ≤ x ∧ x ≤ y ∧ y ≤ 3) ∧ (s ≠ 4 → ∀ k, 0 ≤ k → k < m → 1 ≤ dg k ∧ dg k ≤ 4) ∧ (s = 3 → 1 ≤ x ∧ x < m) ∧ (s ≠ 4 → y = 0 ∧ (s ≠ 3 → x = 0))
def FTab (h : xH) (p s m x y : Int) (dg : Int → Int) : Prop := 130 ≤ p ∧ p + 4 < h.nx ∧ h.tag p = 1 ∧ h.r p 2 = p + 1 ∧ h.r p 3 = p + 2 ∧ h.r p 4 = p + 3 ∧ h.r p 5 = p + 4 ∧ h.tag (p + 1) = 20 ∧ h.tag (p + 2) = 20 ∧ h.tag (p + 3) = 22 ∧ h.tag (p + 4) = 22 ∧ h.len (p + 1) = 34 ∧ h.len (p + 2) = 34 ∧ h.len (p + 3) = 17 ∧ h.len (p + 4) = 17 ∧ aprt h p (p + 4) ∧ h.i p 0 = s ∧ h.i p 1 = m ∧ h.i p 6 = fcodes s m y ∧ (∀ c, 0 ≤ c → c ≤ 16 → h.i (p + 1) (2 * c) = ((fch s m x y dg c).getD 0 (-1, 0)).1 ∧ h.i (p + 1) (2 * c + 1) = ((fch s m x y dg c).getD 1 (-1, 0)).1 ∧ h.i (p + 2) (2 * c) = ((fch s m x y dg c).getD 0 (-1, 0)).2 ∧ h.i (p + 2) (2 * c + 1) = ((fch s m x y dg c).getD 1 (-1, 0)).2 ∧ h.i (p + 3) c = fasks s x c ∧ h.i (p + 4) c = fends s m x y c)
def FootRel (h : xH) (p k : Int) : Prop := FOk (h.i 89 k) (h.i 91 k) (h.i 92 k) (h.i 93 k) (fun i => h.i 90 (4 * k + i)) ∧ FTab h p (h.i 89 k) (h.i 91 k) (h.i 92 k) (h.i 93 k) (fun i => h.i 90 (4 * k + i))
def I_feet (h : xH) : Prop := ∀ k, 0 ≤ k → k < 12 → (h.r 23 k = 0 ∧ h.i 89 k = -1) ∨ (h.r 23 k ≠ 0 ∧ FootRel h (h.r 23 k) k)
/-- a part of a step of the class -/
def spart (s w : Int) : Int := if w = 0 then s / 65536 else if w = 1 then s / 4096 % 16 else if 4 ≤ s / 4096 % 16 then -1 else if w = 2 then s / 256 % 16 else if w = 3 then s / 16 % 16 else if w = 4 then s / 4 % 4 else s % 4
def I_read (h : xH) : Prop := h.i 40 7 = h.i 59 61 ∧ 0 ≤ h.i 59 61 ∧ h.i 59 61 ≤ 200 ∧ h.tag (h.r 40 3) = 20 ∧ (h.r 40 3 = 41 ∨ (130 ≤ h.r 40 3 ∧ h.r 40 3 < h.nx)) ∧ h.r 40 3 ≠ h.r 28 6 ∧ (∀ a, 0 ≤ a → a < h.i 59 61 → 0 ≤ h.i 44 a ∧ h.i 44 a < h.i 59 61 ∧ h.i 43 (h.i 44 a) = h.i 108 a ∧ 0 ≤ h.i 42 (h.i 44 a) ∧ h.i 42 (h.i 44 a + 1) = h.i 42 (h.i 44 a) + h.i 109 a ∧ 0 ≤ h.i 109 a ∧ h.i 109 a ≤ 41 ∧ h.i 42 (h.i 44 a) + h.i 109 a ≤ h.len (h.r 40 3) ∧ h.len (h.r 40 3) ≤ 16000 ∧ (∀ i w, 0 ≤ i → i < h.i 109 a → 0 ≤ w → w ≤ 5 → 0 ≤ h.i (h.r 40 3) (h.i 42 (h.i 44 a) + i) ∧ h.i (h.r 40 3) (h.i 42 (h.i 44 a) + i) < 2147483648 ∧ spart (h.i (h.r 40 3) (h.i 42 (h.i 44 a) + i)) w = h.i 110 (246 * a + 6 * i + w)))
def I_fit (h : xH) : Prop := h.i 2 15 = h.i 59 84 ∧ 0 ≤ h.i 59 84 ∧ h.i 59 84 ≤ 40 ∧ ∀ a, 0 ≤ a → a < h.i 59 84 → h.r 58 a ≠ 0 ∧ SylB h (h.r 58 a) ∧ h.i (h.r 58 a) 6 = h.i 127 a ∧ h.i (h.r 58 a + 2) (h.i 127 a) = h.i 126 a ∧ 1 ≤ h.i 127 a ∧ h.i 127 a ≤ 16 ∧ 0 ≤ h.i 126 a ∧ h.i 126 a ≤ 16 ∧ ∀ k, 0 ≤ k → k < h.i 126 a → h.i (h.r 58 a + 1) k = h.i 125 (16 * a + k)
/-- rows that begin with 0 for ever: where the drafts' letters begin, where the first reading begins -/
def I_dr (h : xH) : Prop := h.i 18 0 = 0 ∧ h.i 11 0 = 0 ∧ h.i 42 0 = 0
/-- the room that is used after n calls -/
def I_room (n : Nat) (h : xH) : Prop := h.nx ≤ 130 + 20 * (n : Int) ∧ h.us ≤ 400000 + 3000 * (n : Int) + 2 * h.len (h.r 28 6) + 2 * h.len (h.r 40 3) ∧ 0 ≤ h.len (h.r 28 6) ∧ h.len (h.r 28 6) ≤ 126000 ∧ 0 ≤ h.len (h.r 40 3) ∧ h.len (h.r 40 3) ≤ 16000 ∧ h.tag (h.r 28 6) = 20 ∧ h.r 28 6 < h.nx
def INV (n : Nat) (h : xH) : Prop := SX h ∧ SR h ∧ 130 ≤ h.nx ∧ I_tab h ∧ I_new h ∧ I_room n h ∧ I_tape h ∧ I_vow h ∧ I_pair h ∧ I_form h ∧ I_told h ∧ I_fault h ∧ I_place h ∧ I_judge h ∧ I_book h ∧ I_feet h ∧ I_line h ∧ I_poem h ∧ I_read h ∧ I_fit h ∧ I_dr h
