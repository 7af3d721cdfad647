abbrev Fn : Type := Nat → Int32
abbrev Fl : Type := Nat → Int64
abbrev TTok : Type := Fn × Int32 × Int32 × Int32 × Int32 × Int32 × Int32 × Int64 × Int32
abbrev TTok.signs (t : TTok) : Fn := t.1
abbrev TTok.kind (t : TTok) : Int32 := t.2.1
abbrev TTok.start (t : TTok) : Int32 := t.2.2.1
abbrev TTok.next (t : TTok) : Int32 := t.2.2.2.1
abbrev TTok.length (t : TTok) : Int32 := t.2.2.2.2.1
abbrev TTok.number (t : TTok) : Int32 := t.2.2.2.2.2.1
abbrev TTok.taken (t : TTok) : Int32 := t.2.2.2.2.2.2.1
abbrev TTok.name (t : TTok) : Int64 := t.2.2.2.2.2.2.2.1
abbrev TTok.fault (t : TTok) : Int32 := t.2.2.2.2.2.2.2.2
abbrev TLaw : Type := Fn × Fn × Fn × Int32 × Int32
abbrev TLaw.steps (t : TLaw) : Fn := t.1
abbrev TLaw.stack (t : TLaw) : Fn := t.2.1
abbrev TLaw.known (t : TLaw) : Fn := t.2.2.1
abbrev TLaw.size (t : TLaw) : Int32 := t.2.2.2.1
abbrev TLaw.looks (t : TLaw) : Int32 := t.2.2.2.2
abbrev TShip : Type := Fn × Fn × Fn × Fl × Fn × Fn × Fl × Fn × TLaw × Int32 × Int32 × Int32 × Int32 × Int32 × Int32
abbrev TShip.kind (t : TShip) : Fn := t.1
abbrev TShip.green (t : TShip) : Fn := t.2.1
abbrev TShip.hands (t : TShip) : Fn := t.2.2.1
abbrev TShip.manName (t : TShip) : Fl := t.2.2.2.1
abbrev TShip.spray (t : TShip) : Fn := t.2.2.2.2.1
abbrev TShip.holds (t : TShip) : Fn := t.2.2.2.2.2.1
abbrev TShip.postName (t : TShip) : Fl := t.2.2.2.2.2.2.1
abbrev TShip.sea (t : TShip) : Fn := t.2.2.2.2.2.2.2.1
abbrev TShip.law (t : TShip) : TLaw := t.2.2.2.2.2.2.2.2.1
abbrev TShip.men (t : TShip) : Int32 := t.2.2.2.2.2.2.2.2.2.1
abbrev TShip.posts (t : TShip) : Int32 := t.2.2.2.2.2.2.2.2.2.2.1
abbrev TShip.seas (t : TShip) : Int32 := t.2.2.2.2.2.2.2.2.2.2.2.1
abbrev TShip.shade (t : TShip) : Int32 := t.2.2.2.2.2.2.2.2.2.2.2.2.1
abbrev TShip.lemon (t : TShip) : Int32 := t.2.2.2.2.2.2.2.2.2.2.2.2.2.1
abbrev TShip.harbour (t : TShip) : Int32 := t.2.2.2.2.2.2.2.2.2.2.2.2.2.2
abbrev TCrew : Type := Fn × Fn × Fn × Int32 × Int32
abbrev TCrew.rise (t : TCrew) : Fn := t.1
abbrev TCrew.green (t : TCrew) : Fn := t.2.1
abbrev TCrew.place (t : TCrew) : Fn := t.2.2.1
abbrev TCrew.sucked (t : TCrew) : Int32 := t.2.2.2.1
abbrev TCrew.over (t : TCrew) : Int32 := t.2.2.2.2
abbrev TVoy : Type := Fn × Int32
abbrev TVoy.line (t : TVoy) : Fn := t.1
abbrev TVoy.lines (t : TVoy) : Int32 := t.2
abbrev TSeen : Type := Fn × Fn × Fn × Fn × Int32
abbrev TSeen.man (t : TSeen) : Fn := t.1
abbrev TSeen.other (t : TSeen) : Fn := t.2.1
abbrev TSeen.watches (t : TSeen) : Fn := t.2.2.1
abbrev TSeen.greener (t : TSeen) : Fn := t.2.2.2.1
abbrev TSeen.size (t : TSeen) : Int32 := t.2.2.2.2
abbrev TLog : Type := TVoy × TSeen × TCrew × Int32
abbrev TLog.voy (t : TLog) : TVoy := t.1
abbrev TLog.seen (t : TLog) : TSeen := t.2.1
abbrev TLog.crew (t : TLog) : TCrew := t.2.2.1
abbrev TLog.laid (t : TLog) : Int32 := t.2.2.2
abbrev TSta : Type := Fn × Fn × Int32 × Int32 × Fn × Int32 × Int32
abbrev TSta.row (t : TSta) : Fn := t.1
abbrev TSta.free (t : TSta) : Fn := t.2.1
abbrev TSta.target (t : TSta) : Int32 := t.2.2.1
abbrev TSta.watches (t : TSta) : Int32 := t.2.2.2.1
abbrev TSta.bestRow (t : TSta) : Fn := t.2.2.2.2.1
abbrev TSta.bestRank (t : TSta) : Int32 := t.2.2.2.2.2.1
abbrev TSta.bestSpray (t : TSta) : Int32 := t.2.2.2.2.2.2
def gTop (pn pc : Int32) (k : XWd) : XWd := xobj 12 [.ref 1, .ref 3, .ref 16, .ref 30, .ref 32, .ref 44, .ref 48, .ref 49, .ref 53, .ref 55, .ref 120, .int pn, .int pc] :: k
def gTok (t : TTok) (k : XWd) : XWd := xobj 10 [.ref 2, .int t.kind, .int t.start, .int t.next, .int t.length, .int t.number, .int t.taken, .long t.name, .int t.fault] ::
  xint .byte 1000 t.signs :: k
def gShip3 (s : TShip) (k : XWd) : XWd := xobj 6 [.ref 4, .ref 5, .ref 6, .ref 7, .ref 8, .ref 9, .ref 10, .ref 11, .ref 12, .int s.men, .int s.posts, .int s.seas, .int s.shade, .int s.lemon, .int s.harbour] ::
  xint .int 6 s.kind ::
  xint .int 6 s.green ::
  xint .int 6 s.hands ::
  xlng 6 s.manName ::
  xint .int 4 s.spray ::
  xint .int 4 s.holds ::
  xlng 4 s.postName ::
  xint .int 12 s.sea ::
  xobj 3 [.ref 13, .ref 14, .ref 15, .int s.law.size, .int s.law.looks] ::
  xint .int 1000 s.law.steps ::
  xint .int 32 s.law.stack ::
  xint .int 4096 s.law.known :: k
def gRd (nn : Int64) (tl : Int32) (k : XWd) : XWd := xobj 7 [.ref 1, .long nn, .int tl, .ref 17] :: k
def gShip17 (s : TShip) (k : XWd) : XWd := xobj 6 [.ref 18, .ref 19, .ref 20, .ref 21, .ref 22, .ref 23, .ref 24, .ref 25, .ref 26, .int s.men, .int s.posts, .int s.seas, .int s.shade, .int s.lemon, .int s.harbour] ::
  xint .int 6 s.kind ::
  xint .int 6 s.green ::
  xint .int 6 s.hands ::
  xlng 6 s.manName ::
  xint .int 4 s.spray ::
  xint .int 4 s.holds ::
  xlng 4 s.postName ::
  xint .int 12 s.sea ::
  xobj 3 [.ref 27, .ref 28, .ref 29, .int s.law.size, .int s.law.looks] ::
  xint .int 1000 s.law.steps ::
  xint .int 32 s.law.stack ::
  xint .int 4096 s.law.known :: k
def gVoy30 (v : TVoy) (k : XWd) : XWd := xobj 11 [.ref 31, .int v.lines] ::
  xint .int 40 v.line :: k
def gLog32 (l : TLog) (k : XWd) : XWd := xobj 4 [.ref 40, .ref 33, .ref 35, .int l.laid] ::
  xobj 11 [.ref 34, .int l.voy.lines] ::
  xint .int 40 l.voy.line ::
  xobj 5 [.ref 36, .ref 37, .ref 38, .ref 39, .int l.seen.size] ::
  xint .int 8 l.seen.man ::
  xint .int 8 l.seen.other ::
  xint .int 8 l.seen.watches ::
  xint .int 8 l.seen.greener ::
  xobj 0 [.ref 3, .ref 41, .ref 42, .ref 43, .int l.crew.sucked, .int l.crew.over] ::
  xint .int 6 l.crew.rise ::
  xint .int 6 l.crew.green ::
  xint .int 6 l.crew.place :: k
def gCrew44 (c : TCrew) (k : XWd) : XWd := xobj 0 [.ref 3, .ref 45, .ref 46, .ref 47, .int c.sucked, .int c.over] ::
  xint .int 6 c.rise ::
  xint .int 6 c.green ::
  xint .int 6 c.place :: k
def gFor48 (seed : Int64) (k : XWd) : XWd := xobj 2 [.ref 3, .ref 40, .ref 44, .long seed] :: k
def gSta49 (t : TSta) (k : XWd) : XWd := xobj 8 [.ref 3, .ref 40, .ref 44, .ref 50, .ref 51, .int t.target, .int t.watches, .ref 52, .int t.bestRank, .int t.bestSpray] ::
  xint .int 6 t.row ::
  xint .int 4 t.free ::
  xint .int 6 t.bestRow :: k
def gSus53 (says : Fn) (k : XWd) : XWd := xobj 9 [.ref 3, .ref 32, .ref 44, .ref 54] ::
  xint .int 36 says :: k
def xpastR : Nat → Option Nat := fun i => if i < 16 then some (56 + 4 * i) else none
def xmarkR : Nat → Option Nat := fun i => if i < 4 then some (121 + 12 * i) else none
def gPastA  (k : XWd) : XWd := xref "GreenButtons$Crew" 16 xpastR :: k
def gP0 (c : TCrew) (k : XWd) : XWd := xobj 0 [.ref 3, .ref 57, .ref 58, .ref 59, .int c.sucked, .int c.over] ::
  xint .int 6 c.rise ::
  xint .int 6 c.green ::
  xint .int 6 c.place :: k
def gP1 (c : TCrew) (k : XWd) : XWd := xobj 0 [.ref 3, .ref 61, .ref 62, .ref 63, .int c.sucked, .int c.over] ::
  xint .int 6 c.rise ::
  xint .int 6 c.green ::
  xint .int 6 c.place :: k
def gP2 (c : TCrew) (k : XWd) : XWd := xobj 0 [.ref 3, .ref 65, .ref 66, .ref 67, .int c.sucked, .int c.over] ::
  xint .int 6 c.rise ::
  xint .int 6 c.green ::
  xint .int 6 c.place :: k
def gP3 (c : TCrew) (k : XWd) : XWd := xobj 0 [.ref 3, .ref 69, .ref 70, .ref 71, .int c.sucked, .int c.over] ::
  xint .int 6 c.rise ::
  xint .int 6 c.green ::
  xint .int 6 c.place :: k
def gP4 (c : TCrew) (k : XWd) : XWd := xobj 0 [.ref 3, .ref 73, .ref 74, .ref 75, .int c.sucked, .int c.over] ::
  xint .int 6 c.rise ::
  xint .int 6 c.green ::
  xint .int 6 c.place :: k
def gP5 (c : TCrew) (k : XWd) : XWd := xobj 0 [.ref 3, .ref 77, .ref 78, .ref 79, .int c.sucked, .int c.over] ::
  xint .int 6 c.rise ::
  xint .int 6 c.green ::
  xint .int 6 c.place :: k
def gP6 (c : TCrew) (k : XWd) : XWd := xobj 0 [.ref 3, .ref 81, .ref 82, .ref 83, .int c.sucked, .int c.over] ::
  xint .int 6 c.rise ::
  xint .int 6 c.green ::
  xint .int 6 c.place :: k
def gP7 (c : TCrew) (k : XWd) : XWd := xobj 0 [.ref 3, .ref 85, .ref 86, .ref 87, .int c.sucked, .int c.over] ::
  xint .int 6 c.rise ::
  xint .int 6 c.green ::
  xint .int 6 c.place :: k
def gP8 (c : TCrew) (k : XWd) : XWd := xobj 0 [.ref 3, .ref 89, .ref 90, .ref 91, .int c.sucked, .int c.over] ::
  xint .int 6 c.rise ::
  xint .int 6 c.green ::
  xint .int 6 c.place :: k
def gP9 (c : TCrew) (k : XWd) : XWd := xobj 0 [.ref 3, .ref 93, .ref 94, .ref 95, .int c.sucked, .int c.over] ::
  xint .int 6 c.rise ::
  xint .int 6 c.green ::
  xint .int 6 c.place :: k
def gP10 (c : TCrew) (k : XWd) : XWd := xobj 0 [.ref 3, .ref 97, .ref 98, .ref 99, .int c.sucked, .int c.over] ::
  xint .int 6 c.rise ::
  xint .int 6 c.green ::
  xint .int 6 c.place :: k
def gP11 (c : TCrew) (k : XWd) : XWd := xobj 0 [.ref 3, .ref 101, .ref 102, .ref 103, .int c.sucked, .int c.over] ::
  xint .int 6 c.rise ::
  xint .int 6 c.green ::
  xint .int 6 c.place :: k
def gP12 (c : TCrew) (k : XWd) : XWd := xobj 0 [.ref 3, .ref 105, .ref 106, .ref 107, .int c.sucked, .int c.over] ::
  xint .int 6 c.rise ::
  xint .int 6 c.green ::
  xint .int 6 c.place :: k
def gP13 (c : TCrew) (k : XWd) : XWd := xobj 0 [.ref 3, .ref 109, .ref 110, .ref 111, .int c.sucked, .int c.over] ::
  xint .int 6 c.rise ::
  xint .int 6 c.green ::
  xint .int 6 c.place :: k
def gP14 (c : TCrew) (k : XWd) : XWd := xobj 0 [.ref 3, .ref 113, .ref 114, .ref 115, .int c.sucked, .int c.over] ::
  xint .int 6 c.rise ::
  xint .int 6 c.green ::
  xint .int 6 c.place :: k
def gP15 (c : TCrew) (k : XWd) : XWd := xobj 0 [.ref 3, .ref 117, .ref 118, .ref 119, .int c.sucked, .int c.over] ::
  xint .int 6 c.rise ::
  xint .int 6 c.green ::
  xint .int 6 c.place :: k
def gMarkA  (k : XWd) : XWd := xref "GreenButtons$Log" 4 xmarkR :: k
def gM0 (l : TLog) (k : XWd) : XWd := xobj 4 [.ref 129, .ref 122, .ref 124, .int l.laid] ::
  xobj 11 [.ref 123, .int l.voy.lines] ::
  xint .int 40 l.voy.line ::
  xobj 5 [.ref 125, .ref 126, .ref 127, .ref 128, .int l.seen.size] ::
  xint .int 8 l.seen.man ::
  xint .int 8 l.seen.other ::
  xint .int 8 l.seen.watches ::
  xint .int 8 l.seen.greener ::
  xobj 0 [.ref 3, .ref 130, .ref 131, .ref 132, .int l.crew.sucked, .int l.crew.over] ::
  xint .int 6 l.crew.rise ::
  xint .int 6 l.crew.green ::
  xint .int 6 l.crew.place :: k
def gM1 (l : TLog) (k : XWd) : XWd := xobj 4 [.ref 141, .ref 134, .ref 136, .int l.laid] ::
  xobj 11 [.ref 135, .int l.voy.lines] ::
  xint .int 40 l.voy.line ::
  xobj 5 [.ref 137, .ref 138, .ref 139, .ref 140, .int l.seen.size] ::
  xint .int 8 l.seen.man ::
  xint .int 8 l.seen.other ::
  xint .int 8 l.seen.watches ::
  xint .int 8 l.seen.greener ::
  xobj 0 [.ref 3, .ref 142, .ref 143, .ref 144, .int l.crew.sucked, .int l.crew.over] ::
  xint .int 6 l.crew.rise ::
  xint .int 6 l.crew.green ::
  xint .int 6 l.crew.place :: k
def gM2 (l : TLog) (k : XWd) : XWd := xobj 4 [.ref 153, .ref 146, .ref 148, .int l.laid] ::
  xobj 11 [.ref 147, .int l.voy.lines] ::
  xint .int 40 l.voy.line ::
  xobj 5 [.ref 149, .ref 150, .ref 151, .ref 152, .int l.seen.size] ::
  xint .int 8 l.seen.man ::
  xint .int 8 l.seen.other ::
  xint .int 8 l.seen.watches ::
  xint .int 8 l.seen.greener ::
  xobj 0 [.ref 3, .ref 154, .ref 155, .ref 156, .int l.crew.sucked, .int l.crew.over] ::
  xint .int 6 l.crew.rise ::
  xint .int 6 l.crew.green ::
  xint .int 6 l.crew.place :: k
def gM3 (l : TLog) (k : XWd) : XWd := xobj 4 [.ref 165, .ref 158, .ref 160, .int l.laid] ::
  xobj 11 [.ref 159, .int l.voy.lines] ::
  xint .int 40 l.voy.line ::
  xobj 5 [.ref 161, .ref 162, .ref 163, .ref 164, .int l.seen.size] ::
  xint .int 8 l.seen.man ::
  xint .int 8 l.seen.other ::
  xint .int 8 l.seen.watches ::
  xint .int 8 l.seen.greener ::
  xobj 0 [.ref 3, .ref 166, .ref 167, .ref 168, .int l.crew.sucked, .int l.crew.over] ::
  xint .int 6 l.crew.rise ::
  xint .int 6 l.crew.green ::
  xint .int 6 l.crew.place :: k
def gPast (p : Nat → TCrew) (k : XWd) : XWd := gPastA (gP0 (p 0) (gP1 (p 1) (gP2 (p 2) (gP3 (p 3) (gP4 (p 4) (gP5 (p 5) (gP6 (p 6) (gP7 (p 7) (gP8 (p 8) (gP9 (p 9) (gP10 (p 10) (gP11 (p 11) (gP12 (p 12) (gP13 (p 13) (gP14 (p 14) (gP15 (p 15) k))))))))))))))))
def gMarks (m : Nat → TLog) (k : XWd) : XWd := gMarkA (gM0 (m 0) (gM1 (m 1) (gM2 (m 2) (gM3 (m 3) k))))
def clsW (pn pc : Int32) (tok : TTok) (ship : TShip) (nn : Int64) (tl : Int32) (draft : TShip) (vd : TVoy) (log : TLog) (trial : TCrew) (sta : TSta) (says : Fn) (seed : Int64) (past : Nat → TCrew) (marks : Nat → TLog) (K : XWd) : XWd :=
  gTop pn pc (gTok tok (gShip3 ship (gRd nn tl (gShip17 draft (gVoy30 vd (gLog32 log (gCrew44 trial (gFor48 seed (gSta49 sta (gSus53 says (gPast past (gMarks marks K))))))))))))
/-! the reference: its numbers; its rows -/
abbrev TMi : Type := Int32 × Int32 × Int32 × Int32 × Int32 × Int32 × Int64 × Int32 × Int32 × Int32 × Int32 × Int32 × Int64 × Int32 × Int32 × Int32 × Int32 × Int64
abbrev TMi.thrown (t : TMi) : Int32 := t.1
abbrev TMi.taped (t : TMi) : Int32 := t.2.1
abbrev TMi.size (t : TMi) : Int32 := t.2.2.1
abbrev TMi.place (t : TMi) : Int32 := t.2.2.2.1
abbrev TMi.begin (t : TMi) : Int32 := t.2.2.2.2.1
abbrev TMi.token (t : TMi) : Int32 := t.2.2.2.2.2.1
abbrev TMi.word (t : TMi) : Int64 := t.2.2.2.2.2.2.1
abbrev TMi.told (t : TMi) : Int32 := t.2.2.2.2.2.2.2.1
abbrev TMi.wrong (t : TMi) : Int32 := t.2.2.2.2.2.2.2.2.1
abbrev TMi.code (t : TMi) : Int32 := t.2.2.2.2.2.2.2.2.2.1
abbrev TMi.toldLines (t : TMi) : Int32 := t.2.2.2.2.2.2.2.2.2.2.1
abbrev TMi.given (t : TMi) : Int32 := t.2.2.2.2.2.2.2.2.2.2.2.1
abbrev TMi.fresh (t : TMi) : Int64 := t.2.2.2.2.2.2.2.2.2.2.2.2.1
abbrev TMi.done (t : TMi) : Int32 := t.2.2.2.2.2.2.2.2.2.2.2.2.2.1
abbrev TMi.odd (t : TMi) : Int32 := t.2.2.2.2.2.2.2.2.2.2.2.2.2.2.1
abbrev TMi.bestRank (t : TMi) : Int32 := t.2.2.2.2.2.2.2.2.2.2.2.2.2.2.2.1
abbrev TMi.leastSpray (t : TMi) : Int32 := t.2.2.2.2.2.2.2.2.2.2.2.2.2.2.2.2.1
abbrev TMi.g (t : TMi) : Int64 := t.2.2.2.2.2.2.2.2.2.2.2.2.2.2.2.2.2
abbrev TMa : Type := Fn × Fn × Fl × Fl × Fn × Fn × Fn × Fn × Fn × Fn × Fn × Fn × Fn × Fn × Fn × Fn × Fn × Fn × Fn × Fn × Fn × Fn
abbrev TMa.tape (t : TMa) : Fn := t.1
abbrev TMa.ship (t : TMa) : Fn := t.2.1
abbrev TMa.manName (t : TMa) : Fl := t.2.2.1
abbrev TMa.postName (t : TMa) : Fl := t.2.2.2.1
abbrev TMa.kind (t : TMa) : Fn := t.2.2.2.2.1
abbrev TMa.greenTold (t : TMa) : Fn := t.2.2.2.2.2.1
abbrev TMa.hands (t : TMa) : Fn := t.2.2.2.2.2.2.1
abbrev TMa.spray (t : TMa) : Fn := t.2.2.2.2.2.2.2.1
abbrev TMa.holds (t : TMa) : Fn := t.2.2.2.2.2.2.2.2.1
abbrev TMa.sea (t : TMa) : Fn := t.2.2.2.2.2.2.2.2.2.1
abbrev TMa.lineFrom (t : TMa) : Fn := t.2.2.2.2.2.2.2.2.2.2.1
abbrev TMa.lineTo (t : TMa) : Fn := t.2.2.2.2.2.2.2.2.2.2.2.1
abbrev TMa.codes (t : TMa) : Fn := t.2.2.2.2.2.2.2.2.2.2.2.2.1
abbrev TMa.opened (t : TMa) : Fn := t.2.2.2.2.2.2.2.2.2.2.2.2.2.1
abbrev TMa.compared (t : TMa) : Fn := t.2.2.2.2.2.2.2.2.2.2.2.2.2.2.1
abbrev TMa.kept (t : TMa) : Fn := t.2.2.2.2.2.2.2.2.2.2.2.2.2.2.2.1
abbrev TMa.keptBy (t : TMa) : Fn := t.2.2.2.2.2.2.2.2.2.2.2.2.2.2.2.2.1
abbrev TMa.ahead (t : TMa) : Fn := t.2.2.2.2.2.2.2.2.2.2.2.2.2.2.2.2.2.1
abbrev TMa.against (t : TMa) : Fn := t.2.2.2.2.2.2.2.2.2.2.2.2.2.2.2.2.2.2.1
abbrev TMa.sum (t : TMa) : Fn := t.2.2.2.2.2.2.2.2.2.2.2.2.2.2.2.2.2.2.2.1
abbrev TMa.sumBy (t : TMa) : Fn := t.2.2.2.2.2.2.2.2.2.2.2.2.2.2.2.2.2.2.2.2.1
abbrev TMa.term (t : TMa) : Fn := t.2.2.2.2.2.2.2.2.2.2.2.2.2.2.2.2.2.2.2.2.2
abbrev TMb : Type := Fn × Fn × Fn × Fn × Fn × Fn × Fn × Fn × Fn × Fn × Fn × Fn × Fn × Fn × Fn × Fn × Fn × Fn × Fn × Fn × Fn × Fl
abbrev TMb.termBy (t : TMb) : Fn := t.1
abbrev TMb.byNot (t : TMb) : Fn := t.2.1
abbrev TMb.valueOf (t : TMb) : Fn := t.2.2.1
abbrev TMb.lines (t : TMb) : Fn := t.2.2.2.1
abbrev TMb.lineWhat (t : TMb) : Fn := t.2.2.2.2.1
abbrev TMb.lineA (t : TMb) : Fn := t.2.2.2.2.2.1
abbrev TMb.lineB (t : TMb) : Fn := t.2.2.2.2.2.2.1
abbrev TMb.seens (t : TMb) : Fn := t.2.2.2.2.2.2.2.1
abbrev TMb.seenMan (t : TMb) : Fn := t.2.2.2.2.2.2.2.2.1
abbrev TMb.seenOther (t : TMb) : Fn := t.2.2.2.2.2.2.2.2.2.1
abbrev TMb.seenAt (t : TMb) : Fn := t.2.2.2.2.2.2.2.2.2.2.1
abbrev TMb.seenGreener (t : TMb) : Fn := t.2.2.2.2.2.2.2.2.2.2.2.1
abbrev TMb.s (t : TMb) : Fn := t.2.2.2.2.2.2.2.2.2.2.2.2.1
abbrev TMb.aside (t : TMb) : Fn := t.2.2.2.2.2.2.2.2.2.2.2.2.2.1
abbrev TMb.before (t : TMb) : Fn := t.2.2.2.2.2.2.2.2.2.2.2.2.2.2.1
abbrev TMb.marked (t : TMb) : Fn := t.2.2.2.2.2.2.2.2.2.2.2.2.2.2.2.1
abbrev TMb.undone (t : TMb) : Fn := t.2.2.2.2.2.2.2.2.2.2.2.2.2.2.2.2.1
abbrev TMb.isLaid (t : TMb) : Fn := t.2.2.2.2.2.2.2.2.2.2.2.2.2.2.2.2.2.1
abbrev TMb.more (t : TMb) : Fn := t.2.2.2.2.2.2.2.2.2.2.2.2.2.2.2.2.2.2.1
abbrev TMb.row (t : TMb) : Fn := t.2.2.2.2.2.2.2.2.2.2.2.2.2.2.2.2.2.2.2.1
abbrev TMb.bestRow (t : TMb) : Fn := t.2.2.2.2.2.2.2.2.2.2.2.2.2.2.2.2.2.2.2.2.1
abbrev TMb.greenerBy (t : TMb) : Fl := t.2.2.2.2.2.2.2.2.2.2.2.2.2.2.2.2.2.2.2.2.2
def gMo (i : TMi) (k : XWd) : XWd := xobj 13 [.int i.thrown, .int i.taped, .ref 170, .int i.size, .int i.place, .int i.begin, .int i.token, .long i.word, .int i.told, .int i.wrong, .ref 171, .ref 172, .ref 173, .ref 174, .ref 175, .ref 176, .ref 177, .ref 178, .ref 179, .ref 180, .ref 181, .ref 182, .int i.code, .int i.toldLines, .ref 183, .ref 184, .ref 185, .ref 186, .ref 187, .ref 188, .ref 189, .ref 190, .ref 191, .ref 192, .ref 193, .ref 194, .int i.given, .long i.fresh, .ref 195, .ref 196, .ref 197, .ref 198, .ref 199, .ref 200, .ref 201, .ref 202, .ref 203, .ref 204, .ref 205, .ref 206, .ref 207, .ref 208, .ref 209, .int i.done, .int i.odd, .ref 210, .ref 211, .ref 212, .int i.bestRank, .int i.leastSpray, .ref 213, .long i.g] :: k
def gMa (a : TMa) (k : XWd) : XWd := xint .int 1000 a.tape ::
  xint .int 12 a.ship ::
  xlng 12 a.manName ::
  xlng 8 a.postName ::
  xint .int 12 a.kind ::
  xint .int 12 a.greenTold ::
  xint .int 12 a.hands ::
  xint .int 8 a.spray ::
  xint .int 8 a.holds ::
  xint .int 24 a.sea ::
  xint .int 2 a.lineFrom ::
  xint .int 2 a.lineTo ::
  xint .int 2000 a.codes ::
  xint .int 7 a.opened ::
  xint .boolean 7 a.compared ::
  xint .int 7 a.kept ::
  xint .int 7 a.keptBy ::
  xint .int 7 a.ahead ::
  xint .int 7 a.against ::
  xint .int 7 a.sum ::
  xint .int 7 a.sumBy ::
  xint .int 7 a.term :: k
def gMb (b : TMb) (k : XWd) : XWd := xint .int 7 b.termBy ::
  xint .int 7 b.byNot ::
  xint .int 20 b.valueOf ::
  xint .int 6 b.lines ::
  xint .int 240 b.lineWhat ::
  xint .int 240 b.lineA ::
  xint .int 240 b.lineB ::
  xint .int 5 b.seens ::
  xint .int 40 b.seenMan ::
  xint .int 40 b.seenOther ::
  xint .int 40 b.seenAt ::
  xint .boolean 40 b.seenGreener ::
  xint .int 14 b.s ::
  xint .int 14 b.aside ::
  xint .int 14 b.before ::
  xint .int 56 b.marked ::
  xint .int 224 b.undone ::
  xint .boolean 4 b.isLaid ::
  xint .int 6 b.more ::
  xint .int 6 b.row ::
  xint .int 6 b.bestRow ::
  xlng 1344 b.greenerBy :: k
def mdlW (i : TMi) (a : TMa) (b : TMb) (K : XWd) : XWd := gMo i (gMa a (gMb b K))
