/-! WHAT IS COMPUTED: a game G: its numbers (0 pegs, 1 coverts, 2 laughs, 3 seen) and its rows (0 reach, 1 bag, 2 feed, 3 kind, 4 high, 5 covert of a laugh, 6 to 8 what is seen: laugh, wind, peg; 9: sport, drives) -/
abbrev jG : Type := (Nat → Nat) × (Nat → Nat → Int32)
def gpg (G : jG) : Nat := G.1 0
def gcv (G : jG) : Nat := G.1 1
def glg (G : jG) : Nat := G.1 2
def gsn (G : jG) : Nat := G.1 3
def grc (G : jG) : Nat → Int32 := G.2 0
def gbg (G : jG) : Nat → Int32 := G.2 1
def gfe (G : jG) : Nat → Int32 := G.2 2
def gkd (G : jG) : Nat → Int32 := G.2 3
def ghi (G : jG) : Nat → Int32 := G.2 4
def gco (G : jG) : Nat → Int32 := G.2 5
def gsl (G : jG) : Nat → Int32 := G.2 6
def gsw (G : jG) : Nat → Int32 := G.2 7
def gsp (G : jG) : Nat → Int32 := G.2 8
def gno (G : jG) : Nat → Int32 := G.2 9
def gst (G : jG) (k : Nat) (f : Nat → Int32) : jG := (G.1, jup G.2 k f)
/-- small numbers of pegs, coverts, laughs, sightings; every laugh in a covert that there is, or in none -/
def gok (G : jG) : Prop := gpg G ≤ 6 ∧ gcv G ≤ 4 ∧ glg G ≤ 6 ∧ gsn G ≤ 6
def sp_further (k : Int32) : Int32 := if k = 2 then 1 else if k = 4 then 2 else 0
def sp_peg (G : jG) (l : Nat) (c w : Int32) : Int32 := if 0 ≤ c + w + sp_further (gkd G l) ∧ c + w + sp_further (gkd G l) < nI (gpg G) then c + w + sp_further (gkd G l) else -1
def sp_height (G : jG) (l c : Nat) : Int32 := if gkd G l = 1 then (ghi G l + gfe G c) / 2 else if gkd G l = 2 then ghi G l + gfe G c + 3 else if gkd G l = 3 then 0 else if gkd G l = 4 then ghi G l + gfe G c + 6 else ghi G l + gfe G c
def sp_candB (G : jG) (r p : Int32) (c : Nat) (w : Int32) (l : Nat) : Bool := decide (gco G l = nI c) && decide (sp_peg G l (nI c) w = p) && decide (0 < sp_height G l c) && decide (sp_height G l c ≤ r)
def sp_opt (o : Option Nat) : Int32 := match o with
  | none => -1
  | some l => nI l

def sp_hadN (G : jG) (r p : Int32) (c : Nat) (w : Int32) : Nat → Option Nat
  | 0 => none
  | n + 1 => match sp_hadN G r p c w n with
    | none => if sp_candB G r p c w n then some n else none
    | some b => if sp_candB G r p c w n && decide (sp_height G b c < sp_height G n c) then some n else some b
