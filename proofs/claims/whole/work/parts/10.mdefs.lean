/-! ===== what each method does, as a computation over the abstract memory: by program out of the bytecode ===== -/
def m_X1_init (l0 : Nat) : Mo Unit :=
  mb (nA 100 8) fun p1 =>
  mb (sR 1 2 l0 p1) fun _ =>
  mb (nA 100 32) fun p2 =>
  mb (sR 1 3 l0 p2) fun _ =>
  mb (nA 100 32) fun p3 =>
  mb (sR 1 4 l0 p3) fun _ =>
  mb (nA 100 32) fun p4 =>
  mb (sR 1 5 l0 p4) fun _ =>
  mb (nA 100 32) fun p5 =>
  mb (sR 1 6 l0 p5) fun _ =>
  mb (nA 100 40) fun p6 =>
  mb (sR 1 7 l0 p6) fun _ =>
  mp ()
def m_X6_init (l0 : Nat) (l1 : Int32) : Mo Unit :=
  mb (nA 100 l1) fun p1 =>
  mb (sR 5 0 l0 p1) fun _ =>
  mp ()
def m_X5_init (l0 : Nat) : Mo Unit :=
  mb (nA 100 150) fun p1 =>
  mb (sR 4 0 l0 p1) fun _ =>
  mb (nO 1) fun p2 =>
  mb (m_X1_init p2) fun _ =>
  mb (sR 4 2 l0 p2) fun _ =>
  mb (nO 5) fun p3 =>
  mb (m_X6_init p3 16) fun _ =>
  mb (sR 4 3 l0 p3) fun _ =>
  mp ()
def m_X2_init (l0 : Nat) : Mo Unit :=
  mb (nA 103 10) fun p1 =>
  mb (sR 2 0 l0 p1) fun _ =>
  mp ()
def m_X0_init (l0 : Nat) (l1 : Int32) : Mo Unit :=
  mb (sI 0 0 l0 1) fun _ =>
  mb (mp ((1 + ((l1 * 6))))) fun v1 =>
  mb (nA 100 v1) fun p2 =>
  mb (sR 0 1 l0 p2) fun _ =>
  mb (nA 100 v1) fun p3 =>
  mb (sR 0 2 l0 p3) fun _ =>
  mb (nA 100 v1) fun p4 =>
  mb (sR 0 3 l0 p4) fun _ =>
  mb (nA 100 v1) fun p5 =>
  mb (sR 0 4 l0 p5) fun _ =>
  mb (nA 100 v1) fun p6 =>
  mb (sR 0 5 l0 p6) fun _ =>
  mb (nA 100 ((v1 * 8))) fun p7 =>
  mb (sR 0 6 l0 p7) fun _ =>
  mb (nA 100 l1) fun p8 =>
  mb (sR 0 7 l0 p8) fun _ =>
  mp ()
def m_X7_init (l0 : Nat) : Mo Unit :=
  mb (nO 4) fun p1 =>
  mb (m_X5_init p1) fun _ =>
  mb (sR 6 0 l0 p1) fun _ =>
  mb (nO 1) fun p2 =>
  mb (m_X1_init p2) fun _ =>
  mb (sR 6 1 l0 p2) fun _ =>
  mb (nO 2) fun p3 =>
  mb (m_X2_init p3) fun _ =>
  mb (sR 6 2 l0 p3) fun _ =>
  mb (nA 103 2) fun p4 =>
  mb (sR 6 3 l0 p4) fun _ =>
  mb (nO 5) fun p5 =>
  mb (m_X6_init p5 16) fun _ =>
  mb (sR 6 4 l0 p5) fun _ =>
  mb (nO 0) fun p6 =>
  mb (m_X0_init p6 16) fun _ =>
  mb (sR 6 5 l0 p6) fun _ =>
  mb (nA 101 16) fun p7 =>
  mb (sR 6 6 l0 p7) fun _ =>
  mp ()
def m_X5_append (l0 : Nat) (l1 : Int32) : Mo Int32 :=
  mb (gI 4 1 l0) fun size1 =>
  if size1 < 150 then
  mb (gR 4 0 l0) fun bytes2 =>
  mb (gI 4 1 l0) fun size3 =>
  mb (tI bytes2 size3 l1) fun _ =>
  mb (gI 4 1 l0) fun size4 =>
  mb (sI 4 1 l0 ((size4 + 1))) fun _ =>
  rZ 1
  else
  rZ 0
def m_X7_type (l0 : Nat) (l1 : Int32) : Mo Int32 :=
  if l1 < 0 then
  mp ((-1))
  else
  if l1 ≤ 255 then
  mb (gR 6 0 l0) fun text1 =>
  mb (vc 4 text1 (m_X5_append text1 l1)) fun c2 =>
  if c2 = 0 then
  mp ((-3))
  else
  mb (gR 6 0 l0) fun text3 =>
  mb (gI 4 1 text3) fun size4 =>
  mp size4
  else
  mp ((-1))
def m_X7_clear (l0 : Nat) : Mo Int32 :=
  mb (gR 6 0 l0) fun text1 =>
  mb (gI 4 1 text1) fun size2 =>
  mb (gR 6 0 l0) fun text3 =>
  mb (sI 4 1 text3 0) fun _ =>
  mp size2
def m_X1_take (l0 : Nat) (l1 : Nat) : Mo Unit :=
  mb (gI 1 0 l1) fun queries1 =>
  mb (sI 1 0 l0 queries1) fun _ =>
  mb (gI 1 1 l1) fun letters2 =>
  mb (sI 1 1 l0 letters2) fun _ =>
  mb (gR 1 2 l1) fun parts3 =>
  mb (gR 1 2 l0) fun parts4 =>
  mb (gR 1 2 l0) fun parts5 =>
  mb (aL 100 parts5) fun len6 =>
  mb (cpI parts3 0 parts4 0 len6) fun _ =>
  mb (gR 1 3 l1) fun sort7 =>
  mb (gR 1 3 l0) fun sort8 =>
  mb (gR 1 3 l0) fun sort9 =>
  mb (aL 100 sort9) fun len10 =>
  mb (cpI sort7 0 sort8 0 len10) fun _ =>
  mb (gR 1 4 l1) fun word11 =>
  mb (gR 1 4 l0) fun word12 =>
  mb (gR 1 4 l0) fun word13 =>
  mb (aL 100 word13) fun len14 =>
  mb (cpI word11 0 word12 0 len14) fun _ =>
  mb (gR 1 5 l1) fun earlier15 =>
  mb (gR 1 5 l0) fun earlier16 =>
  mb (gR 1 5 l0) fun earlier17 =>
  mb (aL 100 earlier17) fun len18 =>
  mb (cpI earlier15 0 earlier16 0 len18) fun _ =>
  mb (gR 1 6 l1) fun reach19 =>
  mb (gR 1 6 l0) fun reach20 =>
  mb (gR 1 6 l0) fun reach21 =>
  mb (aL 100 reach21) fun len22 =>
  mb (cpI reach19 0 reach20 0 len22) fun _ =>
  mb (gR 1 7 l1) fun row23 =>
  mb (gR 1 7 l0) fun row24 =>
  mb (gR 1 7 l0) fun row25 =>
  mb (aL 100 row25) fun len26 =>
  mb (cpI row23 0 row24 0 len26) fun _ =>
  mp ()
def m_X1_place (l0 : Nat) (l1 : Int32) (l2 : Int32) : Mo Int32 :=
  mp ((((l1 * 4)) + l2))
def m_X6_find_B2 (l0 : Nat) (l1 : Int32)  (k2 : Int32 → Mo Int32) (l2 : Int32) : Mo Int32 :=
  mb (gI 5 1 l0) fun count1 =>
  if count1 ≤ l2 then
  mp ((-9))
  else
  mb (gR 5 0 l0) fun codes2 =>
  mb (aI codes2 l2) fun x3 =>
  if x3 = l1 then
  mp l2
  else
  k2 ((l2 + 1))
def m_X6_find (l0 : Nat) (l1 : Int32) : Mo Int32 :=
  lp (fun k s => m_X6_find_B2 l0 l1 k s) FU 0
def m_X6_put_J65 (l0 : Nat) (l1 : Int32) (l2 : Int32)  : Mo Int32 :=
  mb (gR 5 0 l0) fun codes6 =>
  mb (tI codes6 l2 l1) fun _ =>
  mb (gI 5 1 l0) fun count7 =>
  mb (sI 5 1 l0 ((count7 + 1))) fun _ =>
  rZ 1
def m_X6_put_B29 (l0 : Nat) (l1 : Int32)  (k29 : Int32 → Mo Int32) (l2 : Int32) : Mo Int32 :=
  if l2 ≤ 0 then
  m_X6_put_J65 l0 l1 l2
  else
  mb (gR 5 0 l0) fun codes8 =>
  mb (aI codes8 ((l2 - 1))) fun x9 =>
  if x9 ≤ l1 then
  m_X6_put_J65 l0 l1 l2
  else
  mb (gR 5 0 l0) fun codes10 =>
  mb (gR 5 0 l0) fun codes11 =>
  mb (aI codes11 ((l2 - 1))) fun x12 =>
  mb (tI codes10 l2 x12) fun _ =>
  k29 ((l2 + (-1)))
def m_X6_put (l0 : Nat) (l1 : Int32) : Mo Int32 :=
  mb (vc 5 l0 (m_X6_find l0 l1)) fun c1 =>
  if c1 < 0 then
  mb (gI 5 1 l0) fun count2 =>
  mb (gR 5 0 l0) fun codes3 =>
  mb (aL 100 codes3) fun len4 =>
  if count2 < len4 then
  mb (gI 5 1 l0) fun count5 =>
  lp (fun k s => m_X6_put_B29 l0 l1 k s) FU count5
  else
  rZ 0
  else
  rZ 1
def m_X6_putWordsOf_J55 (l0 : Nat) (l1 : Nat) (l2 : Int32) (l3 : Int32) (k2 : Int32 → Mo Unit) : Mo Unit :=
  k2 ((l3 + 1))
def m_X6_putWordsOf_B2 (l0 : Nat) (l1 : Nat) (l2 : Int32)  (k2 : Int32 → Mo Unit) (l3 : Int32) : Mo Unit :=
  mb (gR 1 2 l1) fun parts1 =>
  mb (aI parts1 l2) fun x2 =>
  if x2 ≤ l3 then
  mp ()
  else
  mb (vc 1 l1 (m_X1_place l1 l2 l3)) fun c3 =>
  mb (gR 1 4 l1) fun word4 =>
  mb (aI word4 c3) fun x5 =>
  mb (vc 5 l0 (m_X6_put l0 x5)) fun c6 =>
  mb (gR 1 3 l1) fun sort7 =>
  mb (aI sort7 c3) fun x8 =>
  if x8 = 2 then
  mb (gR 1 5 l1) fun earlier9 =>
  mb (aI earlier9 c3) fun x10 =>
  mb (vc 5 l0 (m_X6_put l0 x10)) fun c11 =>
  m_X6_putWordsOf_J55 l0 l1 l2 l3 k2
  else
  m_X6_putWordsOf_J55 l0 l1 l2 l3 k2
def m_X6_putWordsOf (l0 : Nat) (l1 : Nat) (l2 : Int32) : Mo Unit :=
  lp (fun k s => m_X6_putWordsOf_B2 l0 l1 l2 k s) FU 0
def m_X6_gatherAll_B7 (l0 : Nat) (l1 : Nat)  (k7 : Int32 → Mo Unit) (l2 : Int32) : Mo Unit :=
  mb (gI 1 0 l1) fun queries1 =>
  if queries1 ≤ l2 then
  mp ()
  else
  mb (vc 5 l0 (m_X6_putWordsOf l0 l1 l2)) fun _ =>
  k7 ((l2 + 1))
def m_X6_gatherAll (l0 : Nat) (l1 : Nat) : Mo Unit :=
  mb (sI 5 1 l0 0) fun _ =>
  lp (fun k s => m_X6_gatherAll_B7 l0 l1 k s) FU 0
def m_X5_kindOf_J28 (l0 : Int32)  : Mo Int32 :=
  if l0 = 59 then
  mp 3
  else
  mp 4
def m_X5_kindOf_J14 (l0 : Int32)  : Mo Int32 :=
  if l0 < 48 then
  m_X5_kindOf_J28 l0
  else
  if 57 < l0 then
  m_X5_kindOf_J28 l0
  else
  mp 2
def m_X5_kindOf (l0 : Int32) : Mo Int32 :=
  if l0 < 97 then
  m_X5_kindOf_J14 l0
  else
  if 122 < l0 then
  m_X5_kindOf_J14 l0
  else
  mp 1
def m_X5_advance_J124 (l0 : Nat) (k97 : Unit → Mo Unit) : Mo Unit :=
  mb (gR 4 0 l0) fun bytes15 =>
  mb (gI 4 5 l0) fun end16 =>
  mb (aI bytes15 end16) fun x17 =>
  mb (m_X5_kindOf x17) fun c18 =>
  mb (gI 4 6 l0) fun kind19 =>
  if c18 = kind19 then
  mb (gI 4 5 l0) fun end20 =>
  mb (sI 4 5 l0 ((end20 + 1))) fun _ =>
  k97 ()
  else
  mp ()
def m_X5_advance_B97 (l0 : Nat)  (k97 : Unit → Mo Unit)  : Mo Unit :=
  mb (gI 4 5 l0) fun end12 =>
  mb (gI 4 1 l0) fun size13 =>
  if size13 ≤ end12 then
  mp ()
  else
  mb (gI 4 6 l0) fun kind14 =>
  if kind14 = 1 then
  m_X5_advance_J124 l0 k97
  else
  mb (gI 4 6 l0) fun kind21 =>
  if kind21 = 2 then
  m_X5_advance_J124 l0 k97
  else
  mp ()
def m_X5_advance_J46 (l0 : Nat)  : Mo Unit :=
  mb (gI 4 4 l0) fun begin4 =>
  mb (sI 4 5 l0 begin4) fun _ =>
  mb (gI 4 4 l0) fun begin5 =>
  mb (gI 4 1 l0) fun size6 =>
  if begin5 < size6 then
  mb (gR 4 0 l0) fun bytes7 =>
  mb (gI 4 4 l0) fun begin8 =>
  mb (aI bytes7 begin8) fun x9 =>
  mb (m_X5_kindOf x9) fun c10 =>
  mb (sI 4 6 l0 c10) fun _ =>
  mb (gI 4 5 l0) fun end11 =>
  mb (sI 4 5 l0 ((end11 + 1))) fun _ =>
  lp (fun k s => m_X5_advance_B97 l0 k ) FU ()
  else
  mb (sI 4 6 l0 0) fun _ =>
  mp ()
def m_X5_advance_B8 (l0 : Nat)  (k8 : Unit → Mo Unit)  : Mo Unit :=
  mb (gI 4 4 l0) fun begin2 =>
  mb (gI 4 1 l0) fun size3 =>
  if size3 ≤ begin2 then
  m_X5_advance_J46 l0
  else
  mb (gR 4 0 l0) fun bytes22 =>
  mb (gI 4 4 l0) fun begin23 =>
  mb (aI bytes22 begin23) fun x24 =>
  if x24 = 32 then
  mb (gI 4 4 l0) fun begin25 =>
  mb (sI 4 4 l0 ((begin25 + 1))) fun _ =>
  k8 ()
  else
  m_X5_advance_J46 l0
def m_X5_advance (l0 : Nat) : Mo Unit :=
  mb (gI 4 5 l0) fun end1 =>
  mb (sI 4 4 l0 end1) fun _ =>
  lp (fun k s => m_X5_advance_B8 l0 k ) FU ()
def m_X5_hasOpenQuery (l0 : Nat) : Mo Int32 :=
  mb (gR 4 2 l0) fun draft1 =>
  mb (gI 1 0 draft1) fun queries2 =>
  mb (gI 4 7 l0) fun queriesBefore3 =>
  if queries2 ≤ queriesBefore3 then
  rZ 0
  else
  rZ 1
def m_X1_partsOfLast (l0 : Nat) : Mo Int32 :=
  mb (gI 1 0 l0) fun queries1 =>
  if queries1 ≤ 0 then
  mp 0
  else
  mb (gR 1 2 l0) fun parts2 =>
  mb (gI 1 0 l0) fun queries3 =>
  mb (aI parts2 ((queries3 - 1))) fun x4 =>
  mp x4
def m_X5_lacksParts (l0 : Nat) : Mo Int32 :=
  mb (vc 4 l0 (m_X5_hasOpenQuery l0 )) fun c1 =>
  if c1 = 0 then
  rZ 0
  else
  mb (gR 4 2 l0) fun draft2 =>
  mb (vc 1 draft2 (m_X1_partsOfLast draft2 )) fun c3 =>
  if c3 = 0 then
  rZ 1
  else
  rZ 0
def m_X5_mayHavePart (l0 : Nat) : Mo Int32 :=
  mb (vc 4 l0 (m_X5_hasOpenQuery l0 )) fun c1 =>
  if c1 = 0 then
  rZ 0
  else
  mb (gR 4 2 l0) fun draft2 =>
  mb (vc 1 draft2 (m_X1_partsOfLast draft2 )) fun c3 =>
  if 4 ≤ c3 then
  rZ 0
  else
  rZ 1
def m_X7_isLetter (l0 : Int32) : Mo Int32 :=
  if l0 < 97 then
  rZ 0
  else
  if 105 ≤ l0 then
  rZ 0
  else
  rZ 1
def m_X3_shiftOf (l0 : Int32) : Mo Int32 :=
  mp ((4 * ((5 - l0))))
def m_X3_withLetter (l0 : Int32) (l1 : Int32) (l2 : Int32) : Mo Int32 :=
  mb (m_X3_shiftOf l1) fun c1 =>
  mp ((l0 ||| ((((l2 + 1)) <<< (c1 &&& 31)))))
def m_X5_readWord_B31 (l0 : Nat)  (k31 : Int32 × Int32 → Mo Int32) (l1 : Int32) (l2 : Int32) : Mo Int32 :=
  mb (gI 4 5 l0) fun end5 =>
  if end5 ≤ l2 then
  mb (gR 4 3 l0) fun words6 =>
  mb (vc 5 words6 (m_X6_put words6 l1)) fun c7 =>
  if c7 = 0 then
  mp 0
  else
  mb (vc 4 l0 (m_X5_advance l0 )) fun _ =>
  mp l1
  else
  mb (gR 4 0 l0) fun bytes8 =>
  mb (aI bytes8 l2) fun x9 =>
  mb (m_X7_isLetter x9) fun c10 =>
  if c10 = 0 then
  mp 0
  else
  mb (gI 4 4 l0) fun begin11 =>
  mb (gR 4 0 l0) fun bytes12 =>
  mb (aI bytes12 l2) fun x13 =>
  mb (m_X3_withLetter l1 ((l2 - begin11)) ((x13 - 97))) fun c14 =>
  k31 (c14, (l2 + 1))
def m_X5_readWord (l0 : Nat) : Mo Int32 :=
  mb (gI 4 6 l0) fun kind1 =>
  if kind1 = 1 then
  mb (gI 4 5 l0) fun end2 =>
  mb (gI 4 4 l0) fun begin3 =>
  if ((end2 - begin3)) ≤ 6 then
  mb (gI 4 4 l0) fun begin4 =>
  lp (fun k s => m_X5_readWord_B31 l0 k s.1 s.2) FU (0, begin4)
  else
  mp 0
  else
  mp 0
def m_X1_addPart (l0 : Nat) (l1 : Int32) (l2 : Int32) (l3 : Int32) (l4 : Int32) : Mo Unit :=
  mb (gI 1 0 l0) fun queries1 =>
  if queries1 ≤ 0 then
  mp ()
  else
  mb (vc 1 l0 (m_X1_partsOfLast l0 )) fun c2 =>
  if c2 < 4 then
  mb (gI 1 0 l0) fun queries3 =>
  mb (vc 1 l0 (m_X1_partsOfLast l0 )) fun c4 =>
  mb (vc 1 l0 (m_X1_place l0 ((queries3 - 1)) c4)) fun c5 =>
  mb (gR 1 3 l0) fun sort6 =>
  mb (tI sort6 c5 l1) fun _ =>
  mb (gR 1 4 l0) fun word7 =>
  mb (tI word7 c5 l2) fun _ =>
  mb (gR 1 5 l0) fun earlier8 =>
  mb (tI earlier8 c5 l3) fun _ =>
  mb (gR 1 6 l0) fun reach9 =>
  mb (tI reach9 c5 l4) fun _ =>
  mb (gR 1 2 l0) fun parts10 =>
  mb (gI 1 0 l0) fun queries11 =>
  mb (aI parts10 ((queries11 - 1))) fun x12 =>
  mb (tI parts10 ((queries11 - 1)) ((x12 + 1))) fun _ =>
  mp ()
  else
  mp ()
def m_X5_readStop (l0 : Nat) : Mo Int32 :=
  mb (gI 4 6 l0) fun kind1 =>
  if kind1 = 3 then
  mb (vc 4 l0 (m_X5_advance l0 )) fun _ =>
  rZ 1
  else
  rZ 0
def m_X5_readPart (l0 : Nat) (l1 : Int32) : Mo Int32 :=
  mb (vc 4 l0 (m_X5_mayHavePart l0 )) fun c1 =>
  if c1 = 0 then
  rZ 0
  else
  mb (vc 4 l0 (m_X5_advance l0 )) fun _ =>
  mb (vc 4 l0 (m_X5_readWord l0 )) fun c2 =>
  if c2 = 0 then
  rZ 0
  else
  mb (gR 4 2 l0) fun draft3 =>
  mb (vc 1 draft3 (m_X1_addPart draft3 l1 c2 0 0)) fun _ =>
  mb (vc 4 l0 (m_X5_readStop l0 )) fun c4 =>
  rZ c4
def m_X1_lastHasNear_B2 (l0 : Nat)  (k2 : Int32 → Mo Int32) (l1 : Int32) : Mo Int32 :=
  mb (vc 1 l0 (m_X1_partsOfLast l0 )) fun c1 =>
  if c1 ≤ l1 then
  rZ 0
  else
  mb (gR 1 3 l0) fun sort2 =>
  mb (gI 1 0 l0) fun queries3 =>
  mb (vc 1 l0 (m_X1_place l0 ((queries3 - 1)) l1)) fun c4 =>
  mb (aI sort2 c4) fun x5 =>
  if x5 = 2 then
  rZ 1
  else
  k2 ((l1 + 1))
def m_X1_lastHasNear (l0 : Nat) : Mo Int32 :=
  lp (fun k s => m_X1_lastHasNear_B2 l0 k s) FU 0
def m_X5_readNear (l0 : Nat) : Mo Int32 :=
  mb (vc 4 l0 (m_X5_mayHavePart l0 )) fun c1 =>
  if c1 = 0 then
  rZ 0
  else
  mb (gR 4 2 l0) fun draft2 =>
  mb (vc 1 draft2 (m_X1_lastHasNear draft2 )) fun c3 =>
  if c3 = 0 then
  mb (vc 4 l0 (m_X5_advance l0 )) fun _ =>
  mb (vc 4 l0 (m_X5_readWord l0 )) fun c4 =>
  if c4 = 0 then
  rZ 0
  else
  mb (vc 4 l0 (m_X5_readWord l0 )) fun c5 =>
  if c5 = 0 then
  rZ 0
  else
  mb (gI 4 6 l0) fun kind6 =>
  if kind6 = 2 then
  mb (gI 4 5 l0) fun end7 =>
  mb (gI 4 4 l0) fun begin8 =>
  if ((end7 - begin8)) = 1 then
  mb (gR 4 0 l0) fun bytes9 =>
  mb (gI 4 4 l0) fun begin10 =>
  mb (aI bytes9 begin10) fun x11 =>
  if x11 = 48 then
  rZ 0
  else
  mb (gR 4 2 l0) fun draft12 =>
  mb (gR 4 0 l0) fun bytes13 =>
  mb (gI 4 4 l0) fun begin14 =>
  mb (aI bytes13 begin14) fun x15 =>
  mb (vc 1 draft12 (m_X1_addPart draft12 2 c5 c4 ((x15 - 48)))) fun _ =>
  mb (vc 4 l0 (m_X5_advance l0 )) fun _ =>
  mb (vc 4 l0 (m_X5_readStop l0 )) fun c16 =>
  rZ c16
  else
  rZ 0
  else
  rZ 0
  else
  rZ 0
def m_X1_startQuery (l0 : Nat) : Mo Int32 :=
  mb (gI 1 0 l0) fun queries1 =>
  if queries1 < 8 then
  mb (gR 1 2 l0) fun parts2 =>
  mb (gI 1 0 l0) fun queries3 =>
  mb (tI parts2 queries3 0) fun _ =>
  mb (gI 1 0 l0) fun queries4 =>
  mb (sI 1 0 l0 ((queries4 + 1))) fun _ =>
  rZ 1
  else
  rZ 0
def m_X5_readQuery (l0 : Nat) : Mo Int32 :=
  mb (vc 4 l0 (m_X5_lacksParts l0 )) fun c1 =>
  if c1 = 0 then
  mb (gR 4 2 l0) fun draft2 =>
  mb (vc 1 draft2 (m_X1_startQuery draft2 )) fun c3 =>
  if c3 = 0 then
  rZ 0
  else
  mb (vc 4 l0 (m_X5_advance l0 )) fun _ =>
  mb (vc 4 l0 (m_X5_readStop l0 )) fun c4 =>
  rZ c4
  else
  rZ 0
def m_X5_readItem (l0 : Nat) : Mo Int32 :=
  mb (gI 4 6 l0) fun kind1 =>
  if kind1 = 1 then
  mb (gI 4 5 l0) fun end2 =>
  mb (gI 4 4 l0) fun begin3 =>
  if ((end2 - begin3)) = 1 then
  mb (gR 4 0 l0) fun bytes4 =>
  mb (gI 4 4 l0) fun begin5 =>
  mb (aI bytes4 begin5) fun x6 =>
  if x6 = 104 then
  mb (vc 4 l0 (m_X5_readPart l0 0)) fun c7 =>
  rZ c7
  else if x6 = 105 then
  rZ 0
  else if x6 = 106 then
  rZ 0
  else if x6 = 107 then
  rZ 0
  else if x6 = 108 then
  rZ 0
  else if x6 = 109 then
  rZ 0
  else if x6 = 110 then
  mb (vc 4 l0 (m_X5_readPart l0 1)) fun c8 =>
  rZ c8
  else if x6 = 111 then
  rZ 0
  else if x6 = 112 then
  mb (vc 4 l0 (m_X5_readNear l0 )) fun c9 =>
  rZ c9
  else if x6 = 113 then
  mb (vc 4 l0 (m_X5_readQuery l0 )) fun c10 =>
  rZ c10
  else 
  rZ 0
  else
  rZ 0
  else
  rZ 0
def m_X5_readBehind_J67 (l0 : Nat)  : Mo Int32 :=
  mb (vc 4 l0 (m_X5_lacksParts l0 )) fun c4 =>
  if c4 = 0 then
  mp ((-9))
  else
  mb (gI 4 4 l0) fun begin5 =>
  mp begin5
def m_X5_readBehind_B35 (l0 : Nat)  (k35 : Int32 → Mo Int32) (l2 : Int32) : Mo Int32 :=
  if 150 ≤ l2 then
  m_X5_readBehind_J67 l0
  else
  mb (gI 4 6 l0) fun kind6 =>
  if kind6 = 0 then
  m_X5_readBehind_J67 l0
  else
  mb (vc 4 l0 (m_X5_readItem l0 )) fun c7 =>
  if c7 = 0 then
  mb (gI 4 4 l0) fun begin8 =>
  mp begin8
  else
  k35 ((l2 + 1))
def m_X5_readBehind (l0 : Nat) (l1 : Nat) : Mo Int32 :=
  mb (gR 4 2 l0) fun draft1 =>
  mb (vc 1 draft1 (m_X1_take draft1 l1)) fun _ =>
  mb (gI 1 0 l1) fun queries2 =>
  mb (sI 4 7 l0 queries2) fun _ =>
  mb (gR 4 3 l0) fun words3 =>
  mb (vc 5 words3 (m_X6_gatherAll words3 l1)) fun _ =>
  mb (sI 4 5 l0 0) fun _ =>
  mb (vc 4 l0 (m_X5_advance l0 )) fun _ =>
  lp (fun k s => m_X5_readBehind_B35 l0 k s) FU 0
def m_X2_push_J45 (l0 : Nat) (l1 : Nat) (l2 : Nat)  : Mo Unit :=
  mb (vc 1 l2 (m_X1_take l2 l1)) fun _ =>
  mb (gI 2 2 l0) fun known9 =>
  mb (sI 2 2 l0 ((if 10 < ((known9 + 1)) then 10 else ((known9 + 1))))) fun _ =>
  mp ()
def m_X2_push (l0 : Nat) (l1 : Nat) : Mo Unit :=
  mb (gI 2 1 l0) fun latest1 =>
  mb (sI 2 1 l0 ((((latest1 + 1)) - ((latest1 + 1)) / 10 * 10))) fun _ =>
  mb (gR 2 0 l0) fun ring2 =>
  mb (gI 2 1 l0) fun latest3 =>
  mb (aQ ring2 latest3) fun o5 => match o5 with
  | none =>
  mb (nO 1) fun p6 =>
  mb (m_X1_init p6) fun _ =>
  mb (gR 2 0 l0) fun ring7 =>
  mb (gI 2 1 l0) fun latest8 =>
  mb (tQ ring7 latest8 p6) fun _ =>
  m_X2_push_J45 l0 l1 p6
  | some r4 =>
  m_X2_push_J45 l0 l1 r4
def m_J7_fill_53178_B5 (l0 : Nat) (l1 : Int32) (l3 : Int32)  (k5 : Int32 → Mo Unit) (l2 : Int32) : Mo Unit :=
  if l3 ≤ l2 then
  mp ()
  else
  mb (tI l0 l2 l1) fun _ =>
  k5 ((l2 + 1))
def m_J7_fill_53178 (l0 : Nat) (l1 : Int32) : Mo Unit :=
  mb (aL 100 l0) fun len1 =>
  lp (fun k s => m_J7_fill_53178_B5 l0 l1 len1 k s) FU 0
def m_X0_link_J108 (l0 : Nat) (l1 : Int32) (l2 : Int32) (k2 : Int32 → Mo Unit) (k36 : Int32 → Mo Unit) : Mo Unit :=
  k36 ((l2 + 1))
def m_X0_link_J66 (l0 : Nat) (l1 : Int32) (l2 : Int32) (s0 : Int32) (k2 : Int32 → Mo Unit) (k36 : Int32 → Mo Unit) : Mo Unit :=
  mb (gR 0 6 l0) fun follow6 =>
  mb (aI follow6 ((((l1 * 8)) + l2))) fun x7 =>
  if x7 = 0 then
  mb (gR 0 6 l0) fun follow9 =>
  mb (tI follow9 ((((l1 * 8)) + l2)) s0) fun _ =>
  m_X0_link_J108 l0 l1 l2 k2 k36
  else
  mb (gR 0 4 l0) fun fail8 =>
  mb (tI fail8 x7 s0) fun _ =>
  m_X0_link_J108 l0 l1 l2 k2 k36
def m_X0_link_B36 (l0 : Nat) (l1 : Int32) (k2 : Int32 → Mo Unit) (k36 : Int32 → Mo Unit) (l2 : Int32) : Mo Unit :=
  if 8 ≤ l2 then
  k2 ((l1 + 1))
  else
  if l1 = 0 then
  m_X0_link_J66 l0 l1 l2 0 k2 k36
  else
  mb (gR 0 6 l0) fun follow2 =>
  mb (gR 0 4 l0) fun fail3 =>
  mb (aI fail3 l1) fun x4 =>
  mb (aI follow2 ((((x4 * 8)) + l2))) fun x5 =>
  m_X0_link_J66 l0 l1 l2 x5 k2 k36
def m_X0_link_J34 (l0 : Nat) (l1 : Int32) (k2 : Int32 → Mo Unit) : Mo Unit :=
  lp (fun k s => m_X0_link_B36 l0 l1 k2 k s) FU 0
def m_X0_link_B2 (l0 : Nat)  (k2 : Int32 → Mo Unit) (l1 : Int32) : Mo Unit :=
  mb (gI 0 0 l0) fun nodes1 =>
  if nodes1 ≤ l1 then
  mp ()
  else
  if l1 ≤ 0 then
  m_X0_link_J34 l0 l1 k2
  else
  mb (gR 0 5 l0) fun ends10 =>
  mb (aI ends10 l1) fun x11 =>
  mb (gR 0 5 l0) fun ends12 =>
  mb (gR 0 4 l0) fun fail13 =>
  mb (aI fail13 l1) fun x14 =>
  mb (aI ends12 x14) fun x15 =>
  mb (tI ends10 l1 ((x11 ||| x15))) fun _ =>
  m_X0_link_J34 l0 l1 k2
def m_X0_link (l0 : Nat) : Mo Unit :=
  lp (fun k s => m_X0_link_B2 l0 k s) FU 0
def m_X3_sizeOf_J25 (l0 : Int32) (l1 : Int32) (l2 : Int32) (k4 : Int32 × Int32 → Mo Int32) : Mo Int32 :=
  k4 (l1, (l2 + 1))
def m_X3_sizeOf_B4 (l0 : Int32)  (k4 : Int32 × Int32 → Mo Int32) (l1 : Int32) (l2 : Int32) : Mo Int32 :=
  if 6 ≤ l2 then
  mp l1
  else
  mb (m_X3_shiftOf l2) fun c1 =>
  if ((((l0 >>> (c1 &&& 31))) &&& 15)) = 0 then
  m_X3_sizeOf_J25 l0 l1 l2 k4
  else
  m_X3_sizeOf_J25 l0 ((l1 + 1)) l2 k4
def m_X3_sizeOf (l0 : Int32) : Mo Int32 :=
  lp (fun k s => m_X3_sizeOf_B4 l0 k s.1 s.2) FU (0, 0)
def m_X3_headOf (l0 : Int32) (l1 : Int32) : Mo Int32 :=
  mb (m_X3_shiftOf ((l1 - 1))) fun c1 =>
  mb (m_X3_shiftOf ((l1 - 1))) fun c2 =>
  mp ((((l0 >>> (c1 &&& 31))) <<< (c2 &&& 31)))
def m_X3_letterAt (l0 : Int32) (l1 : Int32) : Mo Int32 :=
  mb (m_X3_shiftOf l1) fun c1 =>
  mp ((if (0 : Int32) < ((((((l0 >>> (c1 &&& 31))) &&& 15)) - 1)) then ((((((l0 >>> (c1 &&& 31))) &&& 15)) - 1)) else 0))
def m_X0_addNode (l0 : Nat) (l1 : Int32) (l2 : Int32) (l3 : Int32) : Mo Unit :=
  mb (gI 0 0 l0) fun nodes1 =>
  mb (gR 0 1 l0) fun size2 =>
  mb (aL 100 size2) fun len3 =>
  if nodes1 < len3 then
  mb (gR 0 1 l0) fun size4 =>
  mb (gI 0 0 l0) fun nodes5 =>
  mb (tI size4 nodes5 l3) fun _ =>
  mb (gR 0 2 l0) fun last6 =>
  mb (gI 0 0 l0) fun nodes7 =>
  mb (tI last6 nodes7 l2) fun _ =>
  mb (gR 0 3 l0) fun parent8 =>
  mb (gI 0 0 l0) fun nodes9 =>
  mb (tI parent8 nodes9 l1) fun _ =>
  mb (gR 0 6 l0) fun follow10 =>
  mb (gI 0 0 l0) fun nodes11 =>
  mb (tI follow10 ((((l1 * 8)) + l2)) nodes11) fun _ =>
  mb (gI 0 0 l0) fun nodes12 =>
  mb (sI 0 0 l0 ((nodes12 + 1))) fun _ =>
  mp ()
  else
  mp ()
def m_X0_growTo_J117 (l0 : Nat) (l1 : Int32) (l2 : Nat) (l3 : Int32) (l4 : Int32) (k5 : Int32 × Int32 → Mo Unit) : Mo Unit :=
  k5 (l3, (l4 + 1))
def m_X0_growTo_J76 (l0 : Nat) (l1 : Int32) (l2 : Nat) (l4 : Int32) (l5 : Int32) (l6 : Int32) (k5 : Int32 × Int32 → Mo Unit) : Mo Unit :=
  mb (gR 0 7 l0) fun reached8 =>
  mb (gI 0 0 l0) fun nodes9 =>
  mb (tI reached8 l4 ((nodes9 - 1))) fun _ =>
  if l6 = l5 then
  mb (gR 0 5 l0) fun ends10 =>
  mb (gI 0 0 l0) fun nodes11 =>
  mb (aI ends10 ((nodes11 - 1))) fun x12 =>
  mb (tI ends10 ((nodes11 - 1)) ((x12 ||| (((1 : Int32) <<< (l4 &&& 31)))))) fun _ =>
  m_X0_growTo_J117 l0 l1 l2 l6 l4 k5
  else
  m_X0_growTo_J117 l0 l1 l2 l6 l4 k5
def m_X0_growTo_B5 (l0 : Nat) (l1 : Int32) (l2 : Nat)  (k5 : Int32 × Int32 → Mo Unit) (l3 : Int32) (l4 : Int32) : Mo Unit :=
  mb (gI 5 1 l2) fun count1 =>
  if count1 ≤ l4 then
  mp ()
  else
  mb (gR 0 7 l0) fun reached2 =>
  mb (aL 100 reached2) fun len3 =>
  if len3 ≤ l4 then
  mp ()
  else
  mb (gR 5 0 l2) fun codes4 =>
  mb (aI codes4 l4) fun x5 =>
  mb (m_X3_sizeOf x5) fun c6 =>
  if c6 < l1 then
  m_X0_growTo_J117 l0 l1 l2 l3 l4 k5
  else
  mb (m_X3_headOf x5 l1) fun c7 =>
  if c7 = l3 then
  m_X0_growTo_J76 l0 l1 l2 l4 x5 c7 k5
  else
  mb (gR 0 7 l0) fun reached13 =>
  mb (aI reached13 l4) fun x14 =>
  mb (m_X3_letterAt x5 ((l1 - 1))) fun c15 =>
  mb (vc 0 l0 (m_X0_addNode l0 x14 c15 l1)) fun _ =>
  m_X0_growTo_J76 l0 l1 l2 l4 x5 c7 k5
def m_X0_growTo (l0 : Nat) (l1 : Int32) (l2 : Nat) : Mo Unit :=
  lp (fun k s => m_X0_growTo_B5 l0 l1 l2 k s.1 s.2) FU (0, 0)
def m_X0_build_B31 (l0 : Nat) (l1 : Nat)  (k31 : Int32 → Mo Unit) (l2 : Int32) : Mo Unit :=
  if 6 < l2 then
  mb (vc 0 l0 (m_X0_link l0 )) fun _ =>
  mp ()
  else
  mb (vc 0 l0 (m_X0_growTo l0 l2 l1)) fun _ =>
  k31 ((l2 + 1))
def m_X0_build (l0 : Nat) (l1 : Nat) : Mo Unit :=
  mb (sI 0 0 l0 1) fun _ =>
  mb (gR 0 6 l0) fun follow1 =>
  mb (m_J7_fill_53178 follow1 0) fun _ =>
  mb (gR 0 5 l0) fun ends2 =>
  mb (m_J7_fill_53178 ends2 0) fun _ =>
  mb (gR 0 7 l0) fun reached3 =>
  mb (m_J7_fill_53178 reached3 0) fun _ =>
  lp (fun k s => m_X0_build_B31 l0 l1 k s) FU 1
def m_J7_fill_d0a16_B6 (l0 : Nat) (l1 : Int64) (l4 : Int32)  (k6 : Int32 → Mo Unit) (l3 : Int32) : Mo Unit :=
  if l4 ≤ l3 then
  mp ()
  else
  mb (tJ l0 l3 l1) fun _ =>
  k6 ((l3 + 1))
def m_J7_fill_d0a16 (l0 : Nat) (l1 : Int64) : Mo Unit :=
  mb (aL 101 l0) fun len1 =>
  lp (fun k s => m_J7_fill_d0a16_B6 l0 l1 len1 k s) FU 0
def m_X7_walk_J101 (l0 : Nat) (l1 : Int32) (l2 : Int32) (l3 : Int32) (k15 : Int32 → Mo Unit) (k70 : Int32 → Mo Unit) : Mo Unit :=
  k70 ((l3 + 1))
def m_X7_walk_B70 (l0 : Nat) (l1 : Int32) (l2 : Int32) (k15 : Int32 → Mo Unit) (k70 : Int32 → Mo Unit) (l3 : Int32) : Mo Unit :=
  mb (gR 6 4 l0) fun words15 =>
  mb (gI 5 1 words15) fun count16 =>
  if count16 ≤ l3 then
  k15 ((l1 + 1))
  else
  if ((((l2 >>> (l3 &&& 31))) &&& 1)) = 0 then
  m_X7_walk_J101 l0 l1 l2 l3 k15 k70
  else
  mb (gR 6 6 l0) fun hits17 =>
  mb (aJ hits17 l3) fun x18 =>
  mb (tJ hits17 l3 ((x18 ||| (((1 : Int64) <<< ((l1 : Int32).toInt64 &&& 63)))))) fun _ =>
  m_X7_walk_J101 l0 l1 l2 l3 k15 k70
def m_X7_walk_B15 (l0 : Nat)  (k15 : Int32 → Mo Unit) (l1 : Int32) : Mo Unit :=
  mb (gR 6 1 l0) fun held2 =>
  mb (gI 1 1 held2) fun letters3 =>
  if letters3 ≤ l1 then
  mp ()
  else
  mb (gR 6 5 l0) fun automaton4 =>
  mb (gR 0 6 automaton4) fun follow5 =>
  mb (gI 6 7 l0) fun at6 =>
  mb (gR 6 1 l0) fun held7 =>
  mb (gR 1 7 held7) fun row8 =>
  mb (aI row8 l1) fun x9 =>
  mb (aI follow5 ((((at6 * 8)) + x9))) fun x10 =>
  mb (sI 6 7 l0 x10) fun _ =>
  mb (gR 6 5 l0) fun automaton11 =>
  mb (gR 0 5 automaton11) fun ends12 =>
  mb (gI 6 7 l0) fun at13 =>
  mb (aI ends12 at13) fun x14 =>
  lp (fun k s => m_X7_walk_B70 l0 l1 x14 k15 k s) FU 0
def m_X7_walk (l0 : Nat) : Mo Unit :=
  mb (gR 6 6 l0) fun hits1 =>
  mb (m_J7_fill_d0a16 hits1 0) fun _ =>
  mb (sI 6 7 l0 0) fun _ =>
  lp (fun k s => m_X7_walk_B15 l0 k s) FU 0
def m_X7_rebuild (l0 : Nat) : Mo Unit :=
  mb (gR 6 4 l0) fun words1 =>
  mb (gR 6 1 l0) fun held2 =>
  mb (vc 5 words1 (m_X6_gatherAll words1 held2)) fun _ =>
  mb (gR 6 5 l0) fun automaton3 =>
  mb (gR 6 4 l0) fun words4 =>
  mb (vc 0 automaton3 (m_X0_build automaton3 words4)) fun _ =>
  mb (vc 6 l0 (m_X7_walk l0 )) fun _ =>
  mp ()
def m_X7_adds (l0 : Nat) : Mo Int32 :=
  mb (gR 6 0 l0) fun text1 =>
  mb (gR 6 1 l0) fun held2 =>
  mb (vc 4 text1 (m_X5_readBehind text1 held2)) fun c3 =>
  if c3 < 0 then
  mb (gR 6 0 l0) fun text4 =>
  mb (gR 4 2 text4) fun draft5 =>
  mb (gI 1 0 draft5) fun queries6 =>
  mb (gR 6 1 l0) fun held7 =>
  mb (gI 1 0 held7) fun queries8 =>
  mb (mp ((queries6 - queries8))) fun v9 =>
  mb (gR 6 2 l0) fun history10 =>
  mb (gR 6 1 l0) fun held11 =>
  mb (vc 2 history10 (m_X2_push history10 held11)) fun _ =>
  mb (gR 6 1 l0) fun held12 =>
  mb (gR 6 0 l0) fun text13 =>
  mb (gR 4 2 text13) fun draft14 =>
  mb (vc 1 held12 (m_X1_take held12 draft14)) fun _ =>
  mb (gR 6 0 l0) fun text15 =>
  mb (sI 4 1 text15 0) fun _ =>
  mb (vc 6 l0 (m_X7_rebuild l0 )) fun _ =>
  mp v9
  else
  mp ((((-10)) - c3))
def m_X7_isQuery (l0 : Nat) (l1 : Int32) : Mo Int32 :=
  if l1 < 0 then
  rZ 0
  else
  mb (gR 6 1 l0) fun held1 =>
  mb (gI 1 0 held1) fun queries2 =>
  if queries2 ≤ l1 then
  rZ 0
  else
  rZ 1
def m_X1_movePart (l0 : Nat) (l1 : Int32) (l2 : Int32) : Mo Unit :=
  mb (gR 1 3 l0) fun sort1 =>
  mb (gR 1 3 l0) fun sort2 =>
  mb (aI sort2 l1) fun x3 =>
  mb (tI sort1 l2 x3) fun _ =>
  mb (gR 1 4 l0) fun word4 =>
  mb (gR 1 4 l0) fun word5 =>
  mb (aI word5 l1) fun x6 =>
  mb (tI word4 l2 x6) fun _ =>
  mb (gR 1 5 l0) fun earlier7 =>
  mb (gR 1 5 l0) fun earlier8 =>
  mb (aI earlier8 l1) fun x9 =>
  mb (tI earlier7 l2 x9) fun _ =>
  mb (gR 1 6 l0) fun reach10 =>
  mb (gR 1 6 l0) fun reach11 =>
  mb (aI reach11 l1) fun x12 =>
  mb (tI reach10 l2 x12) fun _ =>
  mp ()
def m_X1_dropQuery_B28 (l0 : Nat) (l2 : Int32) (k2 : Int32 → Mo Unit) (k28 : Int32 → Mo Unit) (l3 : Int32) : Mo Unit :=
  if 4 ≤ l3 then
  k2 ((l2 + 1))
  else
  mb (vc 1 l0 (m_X1_place l0 ((l2 + 1)) l3)) fun c6 =>
  mb (vc 1 l0 (m_X1_place l0 l2 l3)) fun c7 =>
  mb (vc 1 l0 (m_X1_movePart l0 c6 c7)) fun _ =>
  k28 ((l3 + 1))
def m_X1_dropQuery_B2 (l0 : Nat)  (k2 : Int32 → Mo Unit) (l2 : Int32) : Mo Unit :=
  mb (gI 1 0 l0) fun queries1 =>
  if queries1 ≤ ((l2 + 1)) then
  mb (gI 1 0 l0) fun queries2 =>
  mb (sI 1 0 l0 ((queries2 - 1))) fun _ =>
  mp ()
  else
  mb (gR 1 2 l0) fun parts3 =>
  mb (gR 1 2 l0) fun parts4 =>
  mb (aI parts4 ((l2 + 1))) fun x5 =>
  mb (tI parts3 l2 x5) fun _ =>
  lp (fun k s => m_X1_dropQuery_B28 l0 l2 k2 k s) FU 0
def m_X1_dropQuery (l0 : Nat) (l1 : Int32) : Mo Unit :=
  lp (fun k s => m_X1_dropQuery_B2 l0 k s) FU l1
def m_X7_drops (l0 : Nat) (l1 : Int32) : Mo Int32 :=
  mb (vc 6 l0 (m_X7_isQuery l0 l1)) fun c1 =>
  if c1 = 0 then
  mp ((-1))
  else
  mb (gR 6 2 l0) fun history2 =>
  mb (gR 6 1 l0) fun held3 =>
  mb (vc 2 history2 (m_X2_push history2 held3)) fun _ =>
  mb (gR 6 1 l0) fun held4 =>
  mb (vc 1 held4 (m_X1_dropQuery held4 l1)) fun _ =>
  mb (vc 6 l0 (m_X7_rebuild l0 )) fun _ =>
  mb (gR 6 1 l0) fun held5 =>
  mb (gI 1 0 held5) fun queries6 =>
  mp queries6
def m_X7_feeds (l0 : Nat) (l1 : Int32) : Mo Int32 :=
  mb (m_X7_isLetter l1) fun c1 =>
  if c1 = 0 then
  mp ((-1))
  else
  mb (gR 6 1 l0) fun held2 =>
  mb (gI 1 1 held2) fun letters3 =>
  if letters3 < 40 then
  mb (gR 6 2 l0) fun history4 =>
  mb (gR 6 1 l0) fun held5 =>
  mb (vc 2 history4 (m_X2_push history4 held5)) fun _ =>
  mb (gR 6 1 l0) fun held6 =>
  mb (gR 1 7 held6) fun row7 =>
  mb (gR 6 1 l0) fun held8 =>
  mb (gI 1 1 held8) fun letters9 =>
  mb (tI row7 letters9 ((l1 - 97))) fun _ =>
  mb (gR 6 1 l0) fun held10 =>
  mb (gI 1 1 held10) fun letters11 =>
  mb (sI 1 1 held10 ((letters11 + 1))) fun _ =>
  mb (vc 6 l0 (m_X7_walk l0 )) fun _ =>
  mb (gI 6 7 l0) fun at12 =>
  mp at12
  else
  mp ((-3))
def m_X7_cuts (l0 : Nat) : Mo Int32 :=
  mb (gR 6 1 l0) fun held1 =>
  mb (gI 1 1 held1) fun letters2 =>
  if 0 < letters2 then
  mb (gR 6 2 l0) fun history3 =>
  mb (gR 6 1 l0) fun held4 =>
  mb (vc 2 history3 (m_X2_push history3 held4)) fun _ =>
  mb (gR 6 1 l0) fun held5 =>
  mb (gI 1 1 held5) fun letters6 =>
  mb (sI 1 1 held5 ((letters6 - 1))) fun _ =>
  mb (gR 6 1 l0) fun held7 =>
  mb (gR 1 7 held7) fun row8 =>
  mb (gR 6 1 l0) fun held9 =>
  mb (gI 1 1 held9) fun letters10 =>
  mb (aI row8 letters10) fun x11 =>
  mb (mp ((x11 + 97))) fun v12 =>
  mb (vc 6 l0 (m_X7_walk l0 )) fun _ =>
  mp v12
  else
  mp ((-2))
def m_X2_popInto (l0 : Nat) (l1 : Nat) : Mo Int32 :=
  mb (gR 2 0 l0) fun ring1 =>
  mb (gI 2 1 l0) fun latest2 =>
  mb (aQ ring1 latest2) fun o4 => match o4 with
  | none =>
  mb (gI 2 2 l0) fun known5 =>
  if known5 ≤ 0 then
  rZ 0
  else
  rZ 0
  | some r3 =>
  mb (gI 2 2 l0) fun known6 =>
  if known6 ≤ 0 then
  rZ 0
  else
  mb (vc 1 l1 (m_X1_take l1 r3)) fun _ =>
  mb (gI 2 1 l0) fun latest7 =>
  mb (sI 2 1 l0 ((((((latest7 + 10)) - 1)) - ((((latest7 + 10)) - 1)) / 10 * 10))) fun _ =>
  mb (gI 2 2 l0) fun known8 =>
  mb (sI 2 2 l0 ((known8 - 1))) fun _ =>
  rZ 1
def m_X7_undo (l0 : Nat) : Mo Int32 :=
  mb (gR 6 2 l0) fun history1 =>
  mb (gR 6 1 l0) fun held2 =>
  mb (vc 2 history1 (m_X2_popInto history1 held2)) fun c3 =>
  if c3 = 0 then
  mp ((-2))
  else
  mb (vc 6 l0 (m_X7_rebuild l0 )) fun _ =>
  mb (gR 6 2 l0) fun history4 =>
  mb (gI 2 2 history4) fun known5 =>
  mp known5
def m_X7_hitsOf (l0 : Nat) (l1 : Int32) : Mo Int64 :=
  mb (gR 6 4 l0) fun words1 =>
  mb (vc 5 words1 (m_X6_find words1 l1)) fun c2 =>
  if 0 ≤ c2 then
  mb (gR 6 6 l0) fun hits3 =>
  mb (aJ hits3 c2) fun x4 =>
  mp x4
  else
  mp 0
def m_X7_isNear_B3 (l0 : Int64) (l2 : Int64) (l4 : Int32)  (k3 : Int32 → Mo Int32) (l5 : Int32) : Mo Int32 :=
  if l4 < l5 then
  rZ 0
  else
  if ((lg_cmp ((((l0 <<< ((l5 : Int32).toInt64 &&& 63))) &&& l2)) 0)) = 0 then
  k3 ((l5 + 1))
  else
  rZ 1
def m_X7_isNear (l0 : Int64) (l2 : Int64) (l4 : Int32) : Mo Int32 :=
  lp (fun k s => m_X7_isNear_B3 l0 l2 l4 k s) FU 1
def m_X7_holds (l0 : Nat) (l1 : Int32) (l2 : Int32) : Mo Int32 :=
  mb (gR 6 1 l0) fun held1 =>
  mb (gR 1 4 held1) fun word2 =>
  mb (aI word2 l1) fun x3 =>
  mb (vc 6 l0 (m_X7_hitsOf l0 x3)) fun c4 =>
  mb (mp ((c4 &&& (((((1 : Int64) <<< ((l2 : Int32).toInt64 &&& 63))) - 1))))) fun v5 =>
  mb (gR 6 1 l0) fun held6 =>
  mb (gR 1 3 held6) fun sort7 =>
  mb (aI sort7 l1) fun x8 =>
  if x8 = 0 then
  if ((lg_cmp v5 0)) = 0 then
  rZ 0
  else
  rZ 1
  else if x8 = 1 then
  if ((lg_cmp v5 0)) = 0 then
  rZ 1
  else
  rZ 0
  else 
  mb (gR 6 1 l0) fun held9 =>
  mb (gR 1 5 held9) fun earlier10 =>
  mb (aI earlier10 l1) fun x11 =>
  mb (vc 6 l0 (m_X7_hitsOf l0 x11)) fun c12 =>
  mb (gR 6 1 l0) fun held13 =>
  mb (gR 1 6 held13) fun reach14 =>
  mb (aI reach14 l1) fun x15 =>
  mb (m_X7_isNear c12 v5 x15) fun c16 =>
  rZ c16
def m_X7_matches_B2 (l0 : Nat) (l1 : Int32) (l2 : Int32)  (k2 : Int32 → Mo Int32) (l3 : Int32) : Mo Int32 :=
  mb (gR 6 1 l0) fun held1 =>
  mb (gR 1 2 held1) fun parts2 =>
  mb (aI parts2 l1) fun x3 =>
  if x3 ≤ l3 then
  rZ 1
  else
  mb (gR 6 1 l0) fun held4 =>
  mb (vc 1 held4 (m_X1_place held4 l1 l3)) fun c5 =>
  mb (vc 6 l0 (m_X7_holds l0 c5 l2)) fun c6 =>
  if c6 = 0 then
  rZ 0
  else
  k2 ((l3 + 1))
def m_X7_matches (l0 : Nat) (l1 : Int32) (l2 : Int32) : Mo Int32 :=
  lp (fun k s => m_X7_matches_B2 l0 l1 l2 k s) FU 0
def m_X7_since_B20 (l0 : Nat) (l1 : Int32)  (k20 : Int32 → Mo Int32) (l2 : Int32) : Mo Int32 :=
  if l2 ≤ 0 then
  mp l2
  else
  mb (vc 6 l0 (m_X7_matches l0 l1 ((l2 - 1)))) fun c4 =>
  if c4 = 0 then
  mp l2
  else
  k20 ((l2 + (-1)))
def m_X7_since (l0 : Nat) (l1 : Int32) : Mo Int32 :=
  mb (gR 6 1 l0) fun held1 =>
  mb (gI 1 1 held1) fun letters2 =>
  mb (vc 6 l0 (m_X7_matches l0 l1 letters2)) fun c3 =>
  if c3 = 0 then
  mp ((-9))
  else
  lp (fun k s => m_X7_since_B20 l0 l1 k s) FU letters2
def m_X7_isBetterKey_J23   : Mo Int32 :=
  rZ 1
def m_X7_isBetterKey (l0 : Int32) (l1 : Int32) : Mo Int32 :=
  mb (m_X3_sizeOf l0) fun c1 =>
  mb (m_X3_sizeOf l1) fun c2 =>
  mb (mp ((c1 - c2))) fun v3 =>
  if 0 < v3 then
  m_X7_isBetterKey_J23 
  else
  if v3 = 0 then
  if l1 ≤ l0 then
  rZ 0
  else
  m_X7_isBetterKey_J23 
  else
  rZ 0
def m_X7_keyOf_J69 (l0 : Nat) (l1 : Int32) (l2 : Int32) (l3 : Int32) (k4 : Int32 × Int32 → Mo Int32) : Mo Int32 :=
  k4 (l2, (l3 + 1))
def m_X7_keyOf_B4 (l0 : Nat) (l1 : Int32)  (k4 : Int32 × Int32 → Mo Int32) (l2 : Int32) (l3 : Int32) : Mo Int32 :=
  mb (gR 6 1 l0) fun held1 =>
  mb (gR 1 2 held1) fun parts2 =>
  mb (aI parts2 l1) fun x3 =>
  if x3 ≤ l3 then
  mp l2
  else
  mb (gR 6 1 l0) fun held4 =>
  mb (vc 1 held4 (m_X1_place held4 l1 l3)) fun c5 =>
  mb (gR 6 1 l0) fun held6 =>
  mb (gR 1 3 held6) fun sort7 =>
  mb (aI sort7 c5) fun x8 =>
  if x8 = 0 then
  mb (gR 6 1 l0) fun held9 =>
  mb (gR 1 4 held9) fun word10 =>
  mb (aI word10 c5) fun x11 =>
  mb (m_X7_isBetterKey x11 l2) fun c12 =>
  if c12 = 0 then
  m_X7_keyOf_J69 l0 l1 l2 l3 k4
  else
  mb (gR 6 1 l0) fun held13 =>
  mb (gR 1 4 held13) fun word14 =>
  mb (aI word14 c5) fun x15 =>
  m_X7_keyOf_J69 l0 l1 x15 l3 k4
  else
  m_X7_keyOf_J69 l0 l1 l2 l3 k4
def m_X7_keyOf (l0 : Nat) (l1 : Int32) : Mo Int32 :=
  lp (fun k s => m_X7_keyOf_B4 l0 l1 k s.1 s.2) FU (0, 0)
def m_X7_isAsked_J20   : Mo Int32 :=
  rZ 1
def m_X7_isAsked (l0 : Nat) (l1 : Int32) : Mo Int32 :=
  mb (vc 6 l0 (m_X7_keyOf l0 l1)) fun c1 =>
  if c1 = 0 then
  m_X7_isAsked_J20 
  else
  mb (vc 6 l0 (m_X7_hitsOf l0 c1)) fun c2 =>
  if ((lg_cmp c2 0)) = 0 then
  rZ 0
  else
  m_X7_isAsked_J20 
def m_X7_query (l0 : Nat) (l1 : Int32) (l2 : Int32) : Mo Int32 :=
  mb (vc 6 l0 (m_X7_isQuery l0 l1)) fun c1 =>
  if c1 = 0 then
  mp ((-1))
  else
  if l2 = 0 then
  mb (gR 6 1 l0) fun held2 =>
  mb (gR 1 2 held2) fun parts3 =>
  mb (aI parts3 l1) fun x4 =>
  mp x4
  else if l2 = 1 then
  mb (gR 6 1 l0) fun held5 =>
  mb (gI 1 1 held5) fun letters6 =>
  mb (vc 6 l0 (m_X7_matches l0 l1 letters6)) fun c7 =>
  if c7 = 0 then
  mp 0
  else
  mp 1
  else if l2 = 2 then
  mb (vc 6 l0 (m_X7_since l0 l1)) fun c8 =>
  mp c8
  else if l2 = 3 then
  mb (gR 6 4 l0) fun words9 =>
  mb (vc 6 l0 (m_X7_keyOf l0 l1)) fun c10 =>
  mb (vc 5 words9 (m_X6_find words9 c10)) fun c11 =>
  mp c11
  else if l2 = 4 then
  mb (vc 6 l0 (m_X7_isAsked l0 l1)) fun c12 =>
  if c12 = 0 then
  mp 0
  else
  mp 1
  else 
  mp ((-1))
def m_X7_part (l0 : Nat) (l1 : Int32) (l2 : Int32) (l3 : Int32) : Mo Int32 :=
  mb (vc 6 l0 (m_X7_isQuery l0 l1)) fun c1 =>
  if c1 = 0 then
  mp ((-1))
  else
  if l2 < 0 then
  mp ((-1))
  else
  mb (gR 6 1 l0) fun held2 =>
  mb (gR 1 2 held2) fun parts3 =>
  mb (aI parts3 l1) fun x4 =>
  if l2 < x4 then
  mb (gR 6 1 l0) fun held5 =>
  mb (vc 1 held5 (m_X1_place held5 l1 l2)) fun c6 =>
  if l3 = 0 then
  mb (gR 6 1 l0) fun held7 =>
  mb (gR 1 3 held7) fun sort8 =>
  mb (aI sort8 c6) fun x9 =>
  mp x9
  else if l3 = 1 then
  mb (gR 6 4 l0) fun words10 =>
  mb (gR 6 1 l0) fun held11 =>
  mb (gR 1 4 held11) fun word12 =>
  mb (aI word12 c6) fun x13 =>
  mb (vc 5 words10 (m_X6_find words10 x13)) fun c14 =>
  mp c14
  else if l3 = 2 then
  mb (gR 6 4 l0) fun words15 =>
  mb (gR 6 1 l0) fun held16 =>
  mb (gR 1 5 held16) fun earlier17 =>
  mb (aI earlier17 c6) fun x18 =>
  mb (vc 5 words15 (m_X6_find words15 x18)) fun c19 =>
  mp c19
  else if l3 = 3 then
  mb (gR 6 1 l0) fun held20 =>
  mb (gR 1 3 held20) fun sort21 =>
  mb (aI sort21 c6) fun x22 =>
  if x22 = 2 then
  mb (gR 6 1 l0) fun held23 =>
  mb (gR 1 6 held23) fun reach24 =>
  mb (aI reach24 c6) fun x25 =>
  mp x25
  else
  mp ((-9))
  else if l3 = 4 then
  mb (gR 6 1 l0) fun held26 =>
  mb (gI 1 1 held26) fun letters27 =>
  mb (vc 6 l0 (m_X7_holds l0 c6 letters27)) fun c28 =>
  if c28 = 0 then
  mp 0
  else
  mp 1
  else 
  mp ((-1))
  else
  mp ((-1))
def m_X4_init (l0 : Nat) : Mo Unit :=
  mb (nO 5) fun p1 =>
  mb (m_X6_init p1 5) fun _ =>
  mb (sR 3 0 l0 p1) fun _ =>
  mb (nO 0) fun p2 =>
  mb (m_X0_init p2 5) fun _ =>
  mb (sR 3 1 l0 p2) fun _ =>
  mb (nA 100 31) fun p3 =>
  mb (sR 3 2 l0 p3) fun _ =>
  mb (nA 100 3968) fun p4 =>
  mb (sR 3 3 l0 p4) fun _ =>
  mb (nA 100 3968) fun p5 =>
  mb (sR 3 4 l0 p5) fun _ =>
  mb (nA 101 3968) fun p6 =>
  mb (sR 3 5 l0 p6) fun _ =>
  mb (nA 101 3968) fun p7 =>
  mb (sR 3 6 l0 p7) fun _ =>
  mp ()
def m_X6_gatherOne (l0 : Nat) (l1 : Nat) (l2 : Int32) : Mo Unit :=
  mb (sI 5 1 l0 0) fun _ =>
  mb (vc 5 l0 (m_X6_putWordsOf l0 l1 l2)) fun _ =>
  mp ()
def m_X4_markNodes_J56 (l0 : Nat) (l2 : Int32) (l3 : Int32) (l4 : Int32) (k12 : Int32 → Mo Unit) : Mo Unit :=
  k12 ((l4 + 1))
def m_X4_markNodes_B12 (l0 : Nat) (l2 : Int32) (l3 : Int32)  (k12 : Int32 → Mo Unit) (l4 : Int32) : Mo Unit :=
  if l3 < 0 then
  mp ()
  else
  mb (gR 3 1 l0) fun automaton3 =>
  mb (gI 0 0 automaton3) fun nodes4 =>
  if nodes4 ≤ l4 then
  mp ()
  else
  mb (gR 3 1 l0) fun automaton5 =>
  mb (gR 0 5 automaton5) fun ends6 =>
  mb (aI ends6 l4) fun x7 =>
  if ((((x7 >>> (l3 &&& 31))) &&& 1)) = 0 then
  m_X4_markNodes_J56 l0 l2 l3 l4 k12
  else
  mb (gR 3 2 l0) fun marks8 =>
  mb (aI marks8 l4) fun x9 =>
  mb (tI marks8 l4 ((x9 ||| l2))) fun _ =>
  m_X4_markNodes_J56 l0 l2 l3 l4 k12
def m_X4_markNodes (l0 : Nat) (l1 : Int32) (l2 : Int32) : Mo Unit :=
  mb (gR 3 0 l0) fun words1 =>
  mb (vc 5 words1 (m_X6_find words1 l1)) fun c2 =>
  lp (fun k s => m_X4_markNodes_B12 l0 l2 c2 k s) FU 0
def m_X4_prepare_J202 (l0 : Nat) (s0 : Int32) (s1 : Int32) (s2 : Nat)  : Mo Unit :=
  mb (sI 3 10 s2 ((s1 ||| s0))) fun _ =>
  mb (gR 3 1 l0) fun automaton10 =>
  mb (gI 0 0 automaton10) fun nodes11 =>
  mb (gI 3 9 l0) fun width12 =>
  mb (sI 3 11 l0 ((if 3968 < ((nodes11 <<< (width12 &&& 31))) then 3968 else ((nodes11 <<< (width12 &&& 31)))))) fun _ =>
  mp ()
def m_X4_prepare_J162 (l0 : Nat) (l1 : Nat) (l2 : Int32) (l3 : Int32) (l4 : Int32) (k43 : Int32 × Int32 → Mo Unit) : Mo Unit :=
  k43 (l3, (l4 + 1))
def m_X4_prepare_B43 (l0 : Nat) (l1 : Nat) (l2 : Int32)  (k43 : Int32 × Int32 → Mo Unit) (l3 : Int32) (l4 : Int32) : Mo Unit :=
  mb (gR 1 2 l1) fun parts5 =>
  mb (aI parts5 l2) fun x6 =>
  if x6 ≤ l4 then
  mb (gI 3 7 l0) fun nearBits7 =>
  mb (sI 3 9 l0 ((nearBits7 + l3))) fun _ =>
  mb (gI 3 7 l0) fun nearBits8 =>
  mb (gI 3 7 l0) fun nearBits9 =>
  if nearBits9 ≤ 0 then
  m_X4_prepare_J202 l0 0 (((((((1 : Int32) <<< (l3 &&& 31))) - 1)) <<< (nearBits8 &&& 31))) l0
  else
  m_X4_prepare_J202 l0 10 (((((((1 : Int32) <<< (l3 &&& 31))) - 1)) <<< (nearBits8 &&& 31))) l0
  else
  mb (vc 1 l1 (m_X1_place l1 l2 l4)) fun c13 =>
  mb (gR 1 3 l1) fun sort14 =>
  mb (aI sort14 c13) fun x15 =>
  if x15 = 0 then
  mb (gR 1 4 l1) fun word26 =>
  mb (aI word26 c13) fun x27 =>
  mb (vc 3 l0 (m_X4_markNodes l0 x27 (((1 : Int32) <<< (l3 &&& 31))))) fun _ =>
  m_X4_prepare_J162 l0 l1 l2 ((l3 + 1)) l4 k43
  else
  mb (gR 1 3 l1) fun sort16 =>
  mb (aI sort16 c13) fun x17 =>
  if x17 = 1 then
  mb (gR 1 4 l1) fun word24 =>
  mb (aI word24 c13) fun x25 =>
  mb (vc 3 l0 (m_X4_markNodes l0 x25 16)) fun _ =>
  m_X4_prepare_J162 l0 l1 l2 l3 l4 k43
  else
  mb (gR 1 4 l1) fun word18 =>
  mb (aI word18 c13) fun x19 =>
  mb (vc 3 l0 (m_X4_markNodes l0 x19 64)) fun _ =>
  mb (gR 1 5 l1) fun earlier20 =>
  mb (aI earlier20 c13) fun x21 =>
  mb (vc 3 l0 (m_X4_markNodes l0 x21 32)) fun _ =>
  mb (sI 3 7 l0 4) fun _ =>
  mb (gR 1 6 l1) fun reach22 =>
  mb (aI reach22 c13) fun x23 =>
  mb (sI 3 8 l0 x23) fun _ =>
  m_X4_prepare_J162 l0 l1 l2 l3 l4 k43
def m_X4_prepare (l0 : Nat) (l1 : Nat) (l2 : Int32) : Mo Unit :=
  mb (gR 3 0 l0) fun words1 =>
  mb (vc 5 words1 (m_X6_gatherOne words1 l1 l2)) fun _ =>
  mb (gR 3 1 l0) fun automaton2 =>
  mb (gR 3 0 l0) fun words3 =>
  mb (vc 0 automaton2 (m_X0_build automaton2 words3)) fun _ =>
  mb (gR 3 2 l0) fun marks4 =>
  mb (m_J7_fill_53178 marks4 0) fun _ =>
  mb (sI 3 7 l0 0) fun _ =>
  mb (sI 3 8 l0 0) fun _ =>
  lp (fun k s => m_X4_prepare_B43 l0 l1 l2 k s.1 s.2) FU (0, 0)
def m_X7_searchFor_J22 (l0 : Nat) (l1 : Int32) (l2 : Nat)  : Mo Nat :=
  mb (gR 6 1 l0) fun held3 =>
  mb (vc 3 l2 (m_X4_prepare l2 held3 l1)) fun _ =>
  mp l2
def m_X7_searchFor (l0 : Nat) (l1 : Int32) : Mo Nat :=
  mb (gQ 6 8 l0) fun o4 => match o4 with
  | none =>
  mb (nO 3) fun p2 =>
  mb (m_X4_init p2) fun _ =>
  mb (sR 6 8 l0 p2) fun _ =>
  m_X7_searchFor_J22 l0 l1 p2
  | some search1 =>
  m_X7_searchFor_J22 l0 l1 search1
def m_X4_isMatch (l0 : Nat) (l1 : Int32) : Mo Int32 :=
  mb (gI 3 9 l0) fun width1 =>
  mb (gI 3 10 l0) fun matched2 =>
  if ((l1 &&& (((((1 : Int32) <<< (width1 &&& 31))) - 1)))) = matched2 then
  rZ 1
  else
  rZ 0
def m_X4_stepNear_J20 (l0 : Nat) (l1 : Int32) (l2 : Int32)  : Mo Int32 :=
  if ((l2 &&& 32)) = 0 then
  if l1 ≤ 0 then
  mp 0
  else
  mb (gI 3 8 l0) fun reach1 =>
  if reach1 ≤ l1 then
  mp 0
  else
  mp ((l1 + 1))
  else
  mp 1
def m_X4_stepNear (l0 : Nat) (l1 : Int32) (l2 : Int32) : Mo Int32 :=
  if l1 = 10 then
  mp 10
  else
  if l1 ≤ 0 then
  m_X4_stepNear_J20 l0 l1 l2
  else
  if ((l2 &&& 64)) = 0 then
  m_X4_stepNear_J20 l0 l1 l2
  else
  mp 10
def m_X4_step_J72 (l0 : Nat) (l3 : Int32) (l4 : Int32) (l5 : Int32) (s0 : Int32)  : Mo Int32 :=
  mb (gI 3 7 l0) fun nearBits10 =>
  mb (mp ((((l5 >>> (nearBits10 &&& 31))) ||| ((l4 &&& 15))))) fun v11 =>
  mb (gI 3 9 l0) fun width12 =>
  mb (gI 3 7 l0) fun nearBits13 =>
  mp ((((((l3 <<< (width12 &&& 31))) ||| ((v11 <<< (nearBits13 &&& 31))))) ||| s0))
def m_X4_step (l0 : Nat) (l1 : Int32) (l2 : Int32) : Mo Int32 :=
  mb (gR 3 1 l0) fun automaton1 =>
  mb (gR 0 6 automaton1) fun follow2 =>
  mb (gI 3 9 l0) fun width3 =>
  mb (aI follow2 ((((((l1 >>> (width3 &&& 31))) * 8)) + l2))) fun x4 =>
  mb (gR 3 2 l0) fun marks5 =>
  mb (aI marks5 x4) fun x6 =>
  if ((x6 &&& 16)) = 0 then
  mb (gI 3 9 l0) fun width7 =>
  mb (mp ((l1 &&& (((((1 : Int32) <<< (width7 &&& 31))) - 1))))) fun v8 =>
  mb (gI 3 7 l0) fun nearBits9 =>
  if nearBits9 ≤ 0 then
  m_X4_step_J72 l0 x4 x6 v8 0
  else
  mb (vc 3 l0 (m_X4_stepNear l0 ((v8 &&& 15)) x6)) fun c14 =>
  m_X4_step_J72 l0 x4 x6 v8 c14
  else
  mp ((-1))
def m_X4_spread_J81 (l0 : Nat) (l1 : Int32) (l3 : Int32) (l4 : Int32) (k5 : Int32 × Int32 → Mo Int32) : Mo Int32 :=
  k5 (l3, (l4 + 1))
def m_X4_spread_B5 (l0 : Nat) (l1 : Int32)  (k5 : Int32 × Int32 → Mo Int32) (l3 : Int32) (l4 : Int32) : Mo Int32 :=
  if 8 ≤ l4 then
  mp l3
  else
  mb (vc 3 l0 (m_X4_step l0 l1 l4)) fun c1 =>
  if c1 = ((-1)) then
  m_X4_spread_J81 l0 l1 l3 l4 k5
  else
  mb (gR 3 3 l0) fun from2 =>
  mb (aI from2 c1) fun x3 =>
  if x3 = 0 then
  mb (gR 3 3 l0) fun from4 =>
  mb (tI from4 c1 ((((1 + ((l1 * 8)))) + l4))) fun _ =>
  mb (gR 3 4 l0) fun queue5 =>
  mb (tI queue5 l3 c1) fun _ =>
  mb (vc 3 l0 (m_X4_isMatch l0 c1)) fun c6 =>
  if c6 = 0 then
  m_X4_spread_J81 l0 l1 ((l3 + 1)) l4 k5
  else
  mb (sI 3 12 l0 c1) fun _ =>
  mp ((l3 + 1))
  else
  m_X4_spread_J81 l0 l1 l3 l4 k5
def m_X4_spread (l0 : Nat) (l1 : Int32) (l2 : Int32) : Mo Int32 :=
  lp (fun k s => m_X4_spread_B5 l0 l1 k s.1 s.2) FU (l2, 0)
def m_X4_fewestFrom_B89 (l0 : Nat) (l4 : Int32) (l5 : Int32) (k74 : Int32 × Int32 × Int32 → Mo Int32) (k89 : Int32 × Int32 → Mo Int32) (l2 : Int32) (l3 : Int32) : Mo Int32 :=
  if l5 ≤ l2 then
  k74 (l2, l3, (l4 + 1))
  else
  mb (gR 3 4 l0) fun queue6 =>
  mb (aI queue6 l2) fun x7 =>
  mb (vc 3 l0 (m_X4_spread l0 x7 l3)) fun c8 =>
  mb (gI 3 12 l0) fun found9 =>
  mb (vc 3 l0 (m_X4_isMatch l0 found9)) fun c10 =>
  if c10 = 0 then
  k89 ((l2 + 1), c8)
  else
  mp l4
def m_X4_fewestFrom_B74 (l0 : Nat)  (k74 : Int32 × Int32 × Int32 → Mo Int32) (l2 : Int32) (l3 : Int32) (l4 : Int32) : Mo Int32 :=
  if 60 < l4 then
  mp ((-9))
  else
  if l3 ≤ l2 then
  mp ((-9))
  else
  lp (fun k s => m_X4_fewestFrom_B89 l0 l4 l3 k74 k s.1 s.2) FU (l2, l3)
def m_X4_fewestFrom_B17 (l0 : Nat) (l1 : Int32)  (k17 : Int32 → Mo Int32) (l2 : Int32) : Mo Int32 :=
  mb (gI 3 11 l0) fun states2 =>
  if states2 ≤ l2 then
  mb (gR 3 3 l0) fun from3 =>
  mb (tI from3 l1 ((-1))) fun _ =>
  mb (gR 3 4 l0) fun queue4 =>
  mb (tI queue4 0 l1) fun _ =>
  mb (sI 3 12 l0 l1) fun _ =>
  mb (vc 3 l0 (m_X4_isMatch l0 l1)) fun c5 =>
  if c5 = 0 then
  lp (fun k s => m_X4_fewestFrom_B74 l0 k s.1 s.2.1 s.2.2) FU (0, 1, 1)
  else
  mp 0
  else
  mb (gR 3 3 l0) fun from11 =>
  mb (tI from11 l2 0) fun _ =>
  k17 ((l2 + 1))
def m_X4_fewestFrom (l0 : Nat) (l1 : Int32) : Mo Int32 :=
  if l1 < 0 then
  mp ((-9))
  else
  mb (gI 3 11 l0) fun states1 =>
  if l1 < states1 then
  lp (fun k s => m_X4_fewestFrom_B17 l0 l1 k s) FU 0
  else
  mp ((-9))
def m_X4_letterOfRow_J43 (l0 : Nat) (l3 : Int32)  : Mo Int32 :=
  mb (gR 3 3 l0) fun from3 =>
  mb (aI from3 l3) fun x4 =>
  mp ((((if (0 : Int32) < ((x4 - 1)) then ((x4 - 1)) else 0)) - ((if (0 : Int32) < ((x4 - 1)) then ((x4 - 1)) else 0)) / 8 * 8))
def m_X4_letterOfRow_B10 (l0 : Nat) (l1 : Int32)  (k10 : Int32 × Int32 → Mo Int32) (l3 : Int32) (l4 : Int32) : Mo Int32 :=
  if l4 ≤ l1 then
  m_X4_letterOfRow_J43 l0 l3
  else
  mb (gR 3 3 l0) fun from5 =>
  mb (aI from5 l3) fun x6 =>
  if x6 ≤ 0 then
  m_X4_letterOfRow_J43 l0 l3
  else
  mb (gR 3 3 l0) fun from7 =>
  mb (aI from7 l3) fun x8 =>
  mb (mp ((((x8 - 1)) / 8))) fun v9 =>
  k10 (v9, (l4 + (-1)))
def m_X4_letterOfRow (l0 : Nat) (l1 : Int32) (l2 : Int32) : Mo Int32 :=
  mb (gI 3 12 l0) fun found1 =>
  mb (mp ((l2 - 1))) fun v2 =>
  lp (fun k s => m_X4_letterOfRow_B10 l0 l1 k s.1 s.2) FU (found1, v2)
def m_X7_shortest (l0 : Nat) (l1 : Int32) (l2 : Int32) : Mo Int32 :=
  mb (vc 6 l0 (m_X7_isQuery l0 l1)) fun c1 =>
  if c1 = 0 then
  mp ((-1))
  else
  if ((-1)) ≤ l2 then
  mb (vc 6 l0 (m_X7_searchFor l0 l1)) fun c2 =>
  mb (vc 3 c2 (m_X4_fewestFrom c2 0)) fun c3 =>
  if l2 = ((-1)) then
  mp c3
  else
  if 0 ≤ c3 then
  if c3 ≤ l2 then
  mp ((-9))
  else
  mb (vc 3 c2 (m_X4_letterOfRow c2 l2 c3)) fun c4 =>
  mp ((c4 + 97))
  else
  mp c3
  else
  mp ((-1))
def m_X4_stateBehind_B4 (l0 : Nat) (l1 : Nat)  (k4 : Int32 × Int32 → Mo Int32) (l2 : Int32) (l3 : Int32) : Mo Int32 :=
  mb (gI 1 1 l1) fun letters1 =>
  if letters1 ≤ l3 then
  mp l2
  else
  if l2 = ((-1)) then
  mp l2
  else
  mb (gR 1 7 l1) fun row2 =>
  mb (aI row2 l3) fun x3 =>
  mb (vc 3 l0 (m_X4_step l0 l2 x3)) fun c4 =>
  k4 (c4, (l3 + 1))
def m_X4_stateBehind (l0 : Nat) (l1 : Nat) : Mo Int32 :=
  lp (fun k s => m_X4_stateBehind_B4 l0 l1 k s.1 s.2) FU (0, 0)
def m_X7_more (l0 : Nat) (l1 : Int32) : Mo Int32 :=
  mb (vc 6 l0 (m_X7_isQuery l0 l1)) fun c1 =>
  if c1 = 0 then
  mp ((-1))
  else
  mb (vc 6 l0 (m_X7_searchFor l0 l1)) fun c2 =>
  mb (gR 6 1 l0) fun held3 =>
  mb (vc 3 c2 (m_X4_stateBehind c2 held3)) fun c4 =>
  mb (vc 3 c2 (m_X4_fewestFrom c2 c4)) fun c5 =>
  mp c5
def m_X4_lengthenRows_J85 (l0 : Nat) (l1 : Int32) (k25 : Int32 → Mo Unit) : Mo Unit :=
  k25 ((l1 + 1))
def m_X4_lengthenRows_J79 (l0 : Nat) (l1 : Int32) (l2 : Int32) (k25 : Int32 → Mo Unit) (k35 : Int32 → Mo Unit) : Mo Unit :=
  k35 ((l2 + 1))
def m_X4_lengthenRows_B35 (l0 : Nat) (l1 : Int32) (k25 : Int32 → Mo Unit) (k35 : Int32 → Mo Unit) (l2 : Int32) : Mo Unit :=
  mb (gR 3 5 l0) fun ways5 =>
  mb (aJ ways5 l1) fun x6 =>
  if ((lg_cmp x6 0)) = 0 then
  m_X4_lengthenRows_J85 l0 l1 k25
  else
  if 8 ≤ l2 then
  m_X4_lengthenRows_J85 l0 l1 k25
  else
  mb (vc 3 l0 (m_X4_step l0 l1 l2)) fun c7 =>
  if c7 = ((-1)) then
  m_X4_lengthenRows_J79 l0 l1 l2 k25 k35
  else
  mb (gR 3 6 l0) fun waysThen8 =>
  mb (aJ waysThen8 c7) fun x9 =>
  mb (gR 3 5 l0) fun ways10 =>
  mb (aJ ways10 l1) fun x11 =>
  mb (tJ waysThen8 c7 ((x9 + x11))) fun _ =>
  m_X4_lengthenRows_J79 l0 l1 l2 k25 k35
def m_X4_lengthenRows_B25 (l0 : Nat)  (k25 : Int32 → Mo Unit) (l1 : Int32) : Mo Unit :=
  mb (gI 3 11 l0) fun states2 =>
  if states2 ≤ l1 then
  mb (gR 3 5 l0) fun ways3 =>
  mb (gR 3 6 l0) fun waysThen4 =>
  mb (sR 3 5 l0 waysThen4) fun _ =>
  mb (sR 3 6 l0 ways3) fun _ =>
  mp ()
  else
  lp (fun k s => m_X4_lengthenRows_B35 l0 l1 k25 k s) FU 0
def m_X4_lengthenRows_B2 (l0 : Nat)  (k2 : Int32 → Mo Unit) (l1 : Int32) : Mo Unit :=
  mb (gI 3 11 l0) fun states1 =>
  if states1 ≤ l1 then
  lp (fun k s => m_X4_lengthenRows_B25 l0 k s) FU 0
  else
  mb (gR 3 6 l0) fun waysThen12 =>
  mb (tJ waysThen12 l1 0) fun _ =>
  k2 ((l1 + 1))
def m_X4_lengthenRows (l0 : Nat) : Mo Unit :=
  lp (fun k s => m_X4_lengthenRows_B2 l0 k s) FU 0
def m_X4_rowsOf_J80 (l0 : Nat) (l2 : Int64) (l4 : Int32) (k52 : Int64 × Int32 → Mo Int64) : Mo Int64 :=
  k52 (l2, (l4 + 1))
def m_X4_rowsOf_B52 (l0 : Nat)  (k52 : Int64 × Int32 → Mo Int64) (l2 : Int64) (l4 : Int32) : Mo Int64 :=
  mb (gI 3 11 l0) fun states3 =>
  if states3 ≤ l4 then
  mp l2
  else
  mb (vc 3 l0 (m_X4_isMatch l0 l4)) fun c4 =>
  if c4 = 0 then
  m_X4_rowsOf_J80 l0 l2 l4 k52
  else
  mb (gR 3 5 l0) fun ways5 =>
  mb (aJ ways5 l4) fun x6 =>
  mb (mp ((l2 + x6))) fun v7 =>
  m_X4_rowsOf_J80 l0 v7 l4 k52
def m_X4_rowsOf_B32 (l0 : Nat) (l1 : Int32)  (k32 : Int32 → Mo Int64) (l2 : Int32) : Mo Int64 :=
  if l1 ≤ l2 then
  lp (fun k s => m_X4_rowsOf_B52 l0 k s.1 s.2) FU (0, 0)
  else
  mb (vc 3 l0 (m_X4_lengthenRows l0 )) fun _ =>
  k32 ((l2 + 1))
def m_X4_rowsOf_B2 (l0 : Nat) (l1 : Int32)  (k2 : Int32 → Mo Int64) (l2 : Int32) : Mo Int64 :=
  mb (gI 3 11 l0) fun states1 =>
  if states1 ≤ l2 then
  mb (gR 3 5 l0) fun ways2 =>
  mb (tJ ways2 0 1) fun _ =>
  lp (fun k s => m_X4_rowsOf_B32 l0 l1 k s) FU 0
  else
  mb (gR 3 5 l0) fun ways8 =>
  mb (tJ ways8 l2 0) fun _ =>
  k2 ((l2 + 1))
def m_X4_rowsOf (l0 : Nat) (l1 : Int32) : Mo Int64 :=
  lp (fun k s => m_X4_rowsOf_B2 l0 l1 k s) FU 0
def m_X7_many_J18   : Mo Int64 :=
  mp ((-1))
def m_X7_many (l0 : Nat) (l1 : Int32) (l2 : Int32) : Mo Int64 :=
  mb (vc 6 l0 (m_X7_isQuery l0 l1)) fun c1 =>
  if c1 = 0 then
  m_X7_many_J18 
  else
  if l2 < 0 then
  m_X7_many_J18 
  else
  if l2 ≤ 12 then
  mb (vc 6 l0 (m_X7_searchFor l0 l1)) fun c2 =>
  mb (vc 3 c2 (m_X4_rowsOf c2 l2)) fun c3 =>
  mp c3
  else
  m_X7_many_J18 
def m_X7_isWord (l0 : Nat) (l1 : Int32) : Mo Int32 :=
  if l1 < 0 then
  rZ 0
  else
  mb (gR 6 4 l0) fun words1 =>
  mb (gI 5 1 words1) fun count2 =>
  if count2 ≤ l1 then
  rZ 0
  else
  rZ 1
def m_X7_word (l0 : Nat) (l1 : Int32) (l2 : Int32) : Mo Int32 :=
  mb (vc 6 l0 (m_X7_isWord l0 l1)) fun c1 =>
  if c1 = 0 then
  mp ((-1))
  else
  if ((-1)) ≤ l2 then
  mb (gR 6 4 l0) fun words2 =>
  mb (gR 5 0 words2) fun codes3 =>
  mb (aI codes3 l1) fun x4 =>
  mb (m_X3_sizeOf x4) fun c5 =>
  if l2 = ((-1)) then
  mp c5
  else
  if c5 ≤ l2 then
  mp ((-9))
  else
  mb (m_X3_letterAt x4 l2) fun c6 =>
  mp ((c6 + 97))
  else
  mp ((-1))
def m_X7_placeOfBit_J34 (l0 : Int64) (l2 : Int32) (l3 : Int32) (l4 : Int32) (k5 : Int32 × Int32 → Mo Int32) : Mo Int32 :=
  k5 (l3, (l4 + 1))
def m_X7_placeOfBit_B5 (l0 : Int64) (l2 : Int32)  (k5 : Int32 × Int32 → Mo Int32) (l3 : Int32) (l4 : Int32) : Mo Int32 :=
  if 40 ≤ l4 then
  mp ((-9))
  else
  if ((lg_cmp ((((l0 >>> ((l4 : Int32).toInt64 &&& 63))) &&& 1)) 0)) = 0 then
  m_X7_placeOfBit_J34 l0 l2 l3 l4 k5
  else
  if l3 = l2 then
  mp l4
  else
  m_X7_placeOfBit_J34 l0 l2 ((l3 + 1)) l4 k5
def m_X7_placeOfBit (l0 : Int64) (l2 : Int32) : Mo Int32 :=
  lp (fun k s => m_X7_placeOfBit_B5 l0 l2 k s.1 s.2) FU (0, 0)
def m_J13_bitCount_95d88 (l0 : Int64) : Mo Int32 :=
  mb (mp ((l0 - ((((((l0 : Int64).toUInt64 >>> ((1 : Int32).toInt64.toUInt64 &&& Int64.toUInt64 63)).toInt64)) &&& 6148914691236517205))))) fun v1 =>
  mb (mp ((((v1 &&& 3689348814741910323)) + ((((((v1 : Int64).toUInt64 >>> ((2 : Int32).toInt64.toUInt64 &&& Int64.toUInt64 63)).toInt64)) &&& 3689348814741910323))))) fun v2 =>
  mb (mp ((((v2 + ((((v2 : Int64).toUInt64 >>> ((4 : Int32).toInt64.toUInt64 &&& Int64.toUInt64 63)).toInt64)))) &&& 1085102592571150095))) fun v3 =>
  mb (mp ((v3 + ((((v3 : Int64).toUInt64 >>> ((8 : Int32).toInt64.toUInt64 &&& Int64.toUInt64 63)).toInt64))))) fun v4 =>
  mb (mp ((v4 + ((((v4 : Int64).toUInt64 >>> ((16 : Int32).toInt64.toUInt64 &&& Int64.toUInt64 63)).toInt64))))) fun v5 =>
  mb (mp ((v5 + ((((v5 : Int64).toUInt64 >>> ((32 : Int32).toInt64.toUInt64 &&& Int64.toUInt64 63)).toInt64))))) fun v6 =>
  mp (((((v6 : Int64).toInt32)) &&& 127))
def m_X7_hit (l0 : Nat) (l1 : Int32) (l2 : Int32) : Mo Int32 :=
  mb (vc 6 l0 (m_X7_isWord l0 l1)) fun c1 =>
  if c1 = 0 then
  mp ((-1))
  else
  if ((-1)) ≤ l2 then
  if l2 = ((-1)) then
  mb (gR 6 6 l0) fun hits5 =>
  mb (aJ hits5 l1) fun x6 =>
  mb (m_J13_bitCount_95d88 x6) fun c7 =>
  mp c7
  else
  mb (gR 6 6 l0) fun hits2 =>
  mb (aJ hits2 l1) fun x3 =>
  mb (m_X7_placeOfBit x3 l2) fun c4 =>
  mp c4
  else
  mp ((-1))
def m_X7_isNode (l0 : Nat) (l1 : Int32) : Mo Int32 :=
  if l1 < 0 then
  rZ 0
  else
  mb (gR 6 5 l0) fun automaton1 =>
  mb (gI 0 0 automaton1) fun nodes2 =>
  if nodes2 ≤ l1 then
  rZ 0
  else
  rZ 1
def m_X7_node (l0 : Nat) (l1 : Int32) (l2 : Int32) : Mo Int32 :=
  mb (vc 6 l0 (m_X7_isNode l0 l1)) fun c1 =>
  if c1 = 0 then
  mp ((-1))
  else
  if l2 = 0 then
  mb (gR 6 5 l0) fun automaton2 =>
  mb (gR 0 1 automaton2) fun size3 =>
  mb (aI size3 l1) fun x4 =>
  mp x4
  else if l2 = 1 then
  if l1 = 0 then
  mp ((-9))
  else
  mb (gR 6 5 l0) fun automaton5 =>
  mb (gR 0 2 automaton5) fun last6 =>
  mb (aI last6 l1) fun x7 =>
  mp ((x7 + 97))
  else if l2 = 2 then
  if l1 = 0 then
  mp ((-9))
  else
  mb (gR 6 5 l0) fun automaton8 =>
  mb (gR 0 3 automaton8) fun parent9 =>
  mb (aI parent9 l1) fun x10 =>
  mp x10
  else if l2 = 3 then
  if l1 = 0 then
  mp ((-9))
  else
  mb (gR 6 5 l0) fun automaton11 =>
  mb (gR 0 4 automaton11) fun fail12 =>
  mb (aI fail12 l1) fun x13 =>
  mp x13
  else if l2 = 4 then
  mb (gR 6 5 l0) fun automaton14 =>
  mb (gR 0 5 automaton14) fun ends15 =>
  mb (aI ends15 l1) fun x16 =>
  mp x16
  else 
  mp ((-1))
def m_X7_next (l0 : Nat) (l1 : Int32) (l2 : Int32) : Mo Int32 :=
  mb (vc 6 l0 (m_X7_isNode l0 l1)) fun c1 =>
  if c1 = 0 then
  mp ((-1))
  else
  mb (m_X7_isLetter l2) fun c2 =>
  if c2 = 0 then
  mp ((-1))
  else
  mb (gR 6 5 l0) fun automaton3 =>
  mb (gR 0 6 automaton3) fun follow4 =>
  mb (aI follow4 ((((((l1 * 8)) + l2)) - 97))) fun x5 =>
  mp x5
def m_X7_letter (l0 : Nat) (l1 : Int32) : Mo Int32 :=
  if l1 < 0 then
  mp ((-1))
  else
  mb (gR 6 1 l0) fun held1 =>
  mb (gI 1 1 held1) fun letters2 =>
  if l1 < letters2 then
  mb (gR 6 1 l0) fun held3 =>
  mb (gR 1 7 held3) fun row4 =>
  mb (aI row4 l1) fun x5 =>
  mp ((x5 + 97))
  else
  mp ((-1))
def m_X7_matching_J30 (l0 : Nat) (l1 : Int32) (l2 : Int32) (l3 : Int32) (k4 : Int32 × Int32 → Mo Int32) : Mo Int32 :=
  k4 (l2, (l3 + 1))
def m_X7_matching_B4 (l0 : Nat) (l1 : Int32)  (k4 : Int32 × Int32 → Mo Int32) (l2 : Int32) (l3 : Int32) : Mo Int32 :=
  mb (gR 6 1 l0) fun held1 =>
  mb (gI 1 0 held1) fun queries2 =>
  if queries2 ≤ l3 then
  mp l2
  else
  mb (vc 6 l0 (m_X7_matches l0 l3 l1)) fun c3 =>
  if c3 = 0 then
  m_X7_matching_J30 l0 l1 l2 l3 k4
  else
  mb (mp ((l2 ||| (((1 : Int32) <<< (l3 &&& 31)))))) fun v4 =>
  m_X7_matching_J30 l0 l1 v4 l3 k4
def m_X7_matching (l0 : Nat) (l1 : Int32) : Mo Int32 :=
  lp (fun k s => m_X7_matching_B4 l0 l1 k s.1 s.2) FU (0, 0)
def m_X7_withoutLast (l0 : Nat) : Mo Int32 :=
  mb (gR 6 1 l0) fun held1 =>
  mb (gI 1 1 held1) fun letters2 =>
  mp ((if (0 : Int32) < ((letters2 - 1)) then ((letters2 - 1)) else 0))
def m_X7_asked_J29 (l0 : Nat) (l1 : Int32) (l2 : Int32) (k4 : Int32 × Int32 → Mo Int32) : Mo Int32 :=
  k4 (l1, (l2 + 1))
def m_X7_asked_B4 (l0 : Nat)  (k4 : Int32 × Int32 → Mo Int32) (l1 : Int32) (l2 : Int32) : Mo Int32 :=
  mb (gR 6 1 l0) fun held1 =>
  mb (gI 1 0 held1) fun queries2 =>
  if queries2 ≤ l2 then
  mp l1
  else
  mb (vc 6 l0 (m_X7_isAsked l0 l2)) fun c3 =>
  if c3 = 0 then
  m_X7_asked_J29 l0 l1 l2 k4
  else
  mb (mp ((l1 ||| (((1 : Int32) <<< (l2 &&& 31)))))) fun v4 =>
  m_X7_asked_J29 l0 v4 l2 k4
def m_X7_asked (l0 : Nat) : Mo Int32 :=
  lp (fun k s => m_X7_asked_B4 l0 k s.1 s.2) FU (0, 0)
def m_X7_allHits_B4 (l0 : Nat)  (k4 : Int32 × Int32 → Mo Int32) (l1 : Int32) (l2 : Int32) : Mo Int32 :=
  mb (gR 6 4 l0) fun words1 =>
  mb (gI 5 1 words1) fun count2 =>
  if count2 ≤ l2 then
  mp l1
  else
  mb (gR 6 6 l0) fun hits3 =>
  mb (aJ hits3 l2) fun x4 =>
  mb (m_J13_bitCount_95d88 x4) fun c5 =>
  mb (mp ((l1 + c5))) fun v6 =>
  k4 (v6, (l2 + 1))
def m_X7_allHits (l0 : Nat) : Mo Int32 :=
  lp (fun k s => m_X7_allHits_B4 l0 k s.1 s.2) FU (0, 0)
def m_X7_now (l0 : Nat) (l1 : Int32) : Mo Int32 :=
  if l1 = 0 then
  mb (gI 6 7 l0) fun at1 =>
  mp at1
  else if l1 = 1 then
  mb (gR 6 1 l0) fun held2 =>
  mb (gI 1 1 held2) fun letters3 =>
  mb (vc 6 l0 (m_X7_matching l0 letters3)) fun c4 =>
  mp c4
  else if l1 = 2 then
  mb (gR 6 1 l0) fun held5 =>
  mb (gI 1 1 held5) fun letters6 =>
  mb (vc 6 l0 (m_X7_matching l0 letters6)) fun c7 =>
  mb (vc 6 l0 (m_X7_withoutLast l0 )) fun c8 =>
  mb (vc 6 l0 (m_X7_matching l0 c8)) fun c9 =>
  mp ((c7 &&& ((c9 ^^^ ((-1))))))
  else if l1 = 3 then
  mb (vc 6 l0 (m_X7_withoutLast l0 )) fun c10 =>
  mb (vc 6 l0 (m_X7_matching l0 c10)) fun c11 =>
  mb (gR 6 1 l0) fun held12 =>
  mb (gI 1 1 held12) fun letters13 =>
  mb (vc 6 l0 (m_X7_matching l0 letters13)) fun c14 =>
  mp ((c11 &&& ((c14 ^^^ ((-1))))))
  else if l1 = 4 then
  mb (vc 6 l0 (m_X7_asked l0 )) fun c15 =>
  mp c15
  else if l1 = 5 then
  mb (vc 6 l0 (m_X7_allHits l0 )) fun c16 =>
  mp c16
  else 
  mp ((-1))
def m_X7_keep_J37 (l0 : Nat) (l2 : Nat)  : Mo Int32 :=
  mb (gR 6 1 l0) fun held6 =>
  mb (vc 1 l2 (m_X1_take l2 held6)) fun _ =>
  mb (gR 6 1 l0) fun held7 =>
  mb (gI 1 0 held7) fun queries8 =>
  mp queries8
def m_X7_keep (l0 : Nat) (l1 : Int32) : Mo Int32 :=
  if l1 < 0 then
  mp ((-1))
  else
  if l1 < 2 then
  mb (gR 6 3 l0) fun images1 =>
  mb (aQ images1 l1) fun o3 => match o3 with
  | none =>
  mb (nO 1) fun p4 =>
  mb (m_X1_init p4) fun _ =>
  mb (gR 6 3 l0) fun images5 =>
  mb (tQ images5 l1 p4) fun _ =>
  m_X7_keep_J37 l0 p4
  | some r2 =>
  m_X7_keep_J37 l0 r2
  else
  mp ((-1))
def m_X2_forget (l0 : Nat) : Mo Unit :=
  mb (sI 2 2 l0 0) fun _ =>
  mp ()
def m_X7_back (l0 : Nat) (l1 : Int32) : Mo Int32 :=
  if l1 < 0 then
  mp ((-1))
  else
  if l1 < 2 then
  mb (gR 6 3 l0) fun images1 =>
  mb (aQ images1 l1) fun o3 => match o3 with
  | none =>
  mp ((-2))
  | some r2 =>
  mb (gR 6 1 l0) fun held4 =>
  mb (vc 1 held4 (m_X1_take held4 r2)) fun _ =>
  mb (gR 6 2 l0) fun history5 =>
  mb (vc 2 history5 (m_X2_forget history5 )) fun _ =>
  mb (vc 6 l0 (m_X7_rebuild l0 )) fun _ =>
  mb (gR 6 1 l0) fun held6 =>
  mb (gI 1 0 held6) fun queries7 =>
  mp queries7
  else
  mp ((-1))
def m_X7_count (l0 : Nat) (l1 : Int32) : Mo Int32 :=
  if l1 = 0 then
  mb (gR 6 1 l0) fun held1 =>
  mb (gI 1 0 held1) fun queries2 =>
  mp queries2
  else if l1 = 1 then
  mb (gR 6 4 l0) fun words3 =>
  mb (gI 5 1 words3) fun count4 =>
  mp count4
  else if l1 = 2 then
  mb (gR 6 5 l0) fun automaton5 =>
  mb (gI 0 0 automaton5) fun nodes6 =>
  mp nodes6
  else if l1 = 3 then
  mb (gR 6 1 l0) fun held7 =>
  mb (gI 1 1 held7) fun letters8 =>
  mp letters8
  else if l1 = 4 then
  mb (gR 6 2 l0) fun history9 =>
  mb (gI 2 2 history9) fun known10 =>
  mp known10
  else if l1 = 5 then
  mb (gR 6 0 l0) fun text11 =>
  mb (gI 4 1 text11) fun size12 =>
  mp size12
  else 
  mp ((-1))
def m_X8_in (l0 : Int64) (l2 : Int64) (l4 : Int64) : Mo Int32 :=
  if ((lg_cmp l0 l2)) < 0 then
  rZ 0
  else
  if 0 < ((lg_cmp l0 l4)) then
  rZ 0
  else
  rZ 1
def m_X8_type (l0 : Nat) (l1 : Int32) : Mo Int32 :=
  mb (sI 7 0 l0 0) fun _ =>
  mb (m_X8_in (((l1 : Int32).toInt64)) 0 255) fun c1 =>
  if c1 = 0 then
  mp ((-1))
  else
  mb (gI 7 2 l0) fun typed2 =>
  if typed2 = 150 then
  mp ((-3))
  else
  mb (gR 7 1 l0) fun text3 =>
  mb (gI 7 2 l0) fun typed4 =>
  mb (tI text3 typed4 l1) fun _ =>
  mb (gI 7 2 l0) fun typed5 =>
  mb (sI 7 2 l0 ((typed5 + 1))) fun _ =>
  mb (gI 7 2 l0) fun typed6 =>
  mp typed6
def m_X8_clear (l0 : Nat) : Mo Int32 :=
  mb (sI 7 0 l0 0) fun _ =>
  mb (gI 7 2 l0) fun typed1 =>
  mb (sI 7 2 l0 0) fun _ =>
  mp typed1
def m_X8_byteAt (l0 : Nat) (l1 : Int32) : Mo Int32 :=
  mb (gI 7 2 l0) fun typed1 =>
  if typed1 ≤ l1 then
  mp ((-1))
  else
  mb (gR 7 1 l0) fun text2 =>
  mb (aI text2 l1) fun x3 =>
  mp x3
def m_X8_step_J275 (l0 : Nat)  : Mo Unit :=
  mb (gI 7 3 l0) fun cursor9 =>
  mb (gI 7 4 l0) fun start10 =>
  mb (sI 7 7 l0 ((cursor9 - start10))) fun _ =>
  mp ()
def m_X8_step_J271 (l0 : Nat) (s0 : Int32) (s1 : Int32) (s2 : Nat)  : Mo Unit :=
  mb (sI 7 3 s2 ((s1 + s0))) fun _ =>
  m_X8_step_J275 l0
def m_X8_step_J254 (l0 : Nat) (l1 : Int32) (s0 : Int32) (s1 : Nat)  : Mo Unit :=
  mb (sI 7 5 s1 s0) fun _ =>
  mb (gI 7 3 l0) fun cursor8 =>
  if 0 ≤ l1 then
  m_X8_step_J271 l0 1 cursor8 l0
  else
  m_X8_step_J271 l0 0 cursor8 l0
def m_X8_step_J226 (l0 : Nat)  : Mo Unit :=
  mb (sI 7 5 l0 4) fun _ =>
  m_X8_step_J275 l0
def m_X8_step_J182 (l0 : Nat) (l1 : Int32) (s0 : Int32) (s1 : Nat) (k125 : Unit → Mo Unit) : Mo Unit :=
  mb (sI 7 6 s1 s0) fun _ =>
  mb (gI 7 3 l0) fun cursor21 =>
  mb (sI 7 3 l0 ((cursor21 + 1))) fun _ =>
  k125 ()
def m_X8_step_B125 (l0 : Nat) (l1 : Int32)  (k125 : Unit → Mo Unit)  : Mo Unit :=
  mb (gI 7 3 l0) fun cursor11 =>
  mb (vc 7 l0 (m_X8_byteAt l0 cursor11)) fun c12 =>
  mb (m_X8_in (((c12 : Int32).toInt64)) 48 57) fun c13 =>
  if c13 = 0 then
  mb (gI 7 6 l0) fun value14 =>
  if 99 < value14 then
  m_X8_step_J226 l0
  else
  if l1 = 48 then
  mb (gI 7 3 l0) fun cursor15 =>
  mb (gI 7 4 l0) fun start16 =>
  if cursor15 ≤ ((start16 + 1)) then
  m_X8_step_J275 l0
  else
  m_X8_step_J226 l0
  else
  m_X8_step_J275 l0
  else
  mb (gI 7 6 l0) fun value17 =>
  if value17 ≤ 99 then
  mb (gI 7 6 l0) fun value18 =>
  mb (gI 7 3 l0) fun cursor19 =>
  mb (vc 7 l0 (m_X8_byteAt l0 cursor19)) fun c20 =>
  m_X8_step_J182 l0 l1 ((((((10 * value18)) + c20)) - 48)) l0 k125
  else
  mb (gI 7 6 l0) fun value22 =>
  m_X8_step_J182 l0 l1 value22 l0 k125
def m_X8_step_B67 (l0 : Nat)  (k67 : Unit → Mo Unit)  : Mo Unit :=
  mb (gI 7 3 l0) fun cursor23 =>
  mb (vc 7 l0 (m_X8_byteAt l0 cursor23)) fun c24 =>
  mb (m_X8_in (((c24 : Int32).toInt64)) 97 122) fun c25 =>
  if c25 = 0 then
  m_X8_step_J275 l0
  else
  mb (gI 7 3 l0) fun cursor26 =>
  mb (sI 7 3 l0 ((cursor26 + 1))) fun _ =>
  k67 ()
def m_X8_step_B0 (l0 : Nat)  (k0 : Unit → Mo Unit)  : Mo Unit :=
  mb (gI 7 3 l0) fun cursor1 =>
  mb (vc 7 l0 (m_X8_byteAt l0 cursor1)) fun c2 =>
  if c2 = 32 then
  mb (gI 7 3 l0) fun cursor27 =>
  mb (sI 7 3 l0 ((cursor27 + 1))) fun _ =>
  k0 ()
  else
  mb (gI 7 3 l0) fun cursor3 =>
  mb (sI 7 4 l0 cursor3) fun _ =>
  mb (gI 7 3 l0) fun cursor4 =>
  mb (vc 7 l0 (m_X8_byteAt l0 cursor4)) fun c5 =>
  mb (sI 7 6 l0 c5) fun _ =>
  mb (m_X8_in (((c5 : Int32).toInt64)) 97 122) fun c6 =>
  if c6 = 0 then
  mb (m_X8_in (((c5 : Int32).toInt64)) 48 57) fun c7 =>
  if c7 = 0 then
  if 0 ≤ c5 then
  if c5 = 59 then
  m_X8_step_J254 l0 c5 3 l0
  else
  m_X8_step_J254 l0 c5 4 l0
  else
  m_X8_step_J254 l0 c5 0 l0
  else
  mb (sI 7 5 l0 2) fun _ =>
  mb (sI 7 6 l0 0) fun _ =>
  lp (fun k s => m_X8_step_B125 l0 c5 k ) FU ()
  else
  mb (sI 7 5 l0 1) fun _ =>
  lp (fun k s => m_X8_step_B67 l0 k ) FU ()
def m_X8_step (l0 : Nat) : Mo Unit :=
  lp (fun k s => m_X8_step_B0 l0 k ) FU ()
def m_X8_isName (l0 : Nat) (l1 : Int32) : Mo Int32 :=
  mb (gI 7 5 l0) fun token1 =>
  if token1 = 1 then
  mb (gI 7 7 l0) fun size2 =>
  if size2 = 1 then
  mb (gI 7 6 l0) fun value3 =>
  if value3 = l1 then
  rZ 1
  else
  rZ 0
  else
  rZ 0
  else
  rZ 0
def m_X8_parts (l0 : Nat) (l1 : Int32) : Mo Int32 :=
  mb (aI l0 ((42 + ((17 * l1))))) fun x1 =>
  mp x1
def m_X8_of (l0 : Nat) (l1 : Int32) (l2 : Int32) (l3 : Int32) : Mo Int32 :=
  mb (aI l0 ((((((((42 + ((17 * l1)))) + 1)) + ((4 * l2)))) + l3))) fun x1 =>
  mp x1
def m_X8_copyAll_B2 (l0 : Nat) (l1 : Nat)  (k2 : Int32 → Mo Unit) (l2 : Int32) : Mo Unit :=
  if 178 ≤ l2 then
  mp ()
  else
  mb (aI l0 l2) fun x1 =>
  mb (tI l1 l2 x1) fun _ =>
  k2 ((l2 + 1))
def m_X8_copyAll (l0 : Nat) (l1 : Nat) : Mo Unit :=
  lp (fun k s => m_X8_copyAll_B2 l0 l1 k s) FU 0
def m_X8_letterOf (l0 : Int32) (l1 : Int32) : Mo Int32 :=
  mp ((((l0 >>> (((3 * ((((((l0 / 1048576)) - 1)) - l1)))) &&& 31))) &&& 7))
def m_X8_order_J54 (l2 : Int32) (l3 : Int32)  : Mo Int32 :=
  mp ((l2 - l3))
def m_X8_order_B13 (l0 : Int32) (l1 : Int32) (l2 : Int32) (l3 : Int32)  (k13 : Int32 → Mo Int32) (l4 : Int32) : Mo Int32 :=
  if l2 ≤ l4 then
  m_X8_order_J54 l2 l3
  else
  if l3 ≤ l4 then
  m_X8_order_J54 l2 l3
  else
  mb (m_X8_letterOf l0 l4) fun c3 =>
  mb (m_X8_letterOf l1 l4) fun c4 =>
  mb (mp ((c3 - c4))) fun v5 =>
  if v5 = 0 then
  k13 ((l4 + 1))
  else
  mp v5
def m_X8_order (l0 : Int32) (l1 : Int32) : Mo Int32 :=
  mb (mp ((l0 / 1048576))) fun v1 =>
  mb (mp ((l1 / 1048576))) fun v2 =>
  lp (fun k s => m_X8_order_B13 l0 l1 v1 v2 k s) FU 0
def m_X8_addWord_B53 (l0 : Nat) (l1 : Int32) (l2 : Int32)  (k53 : Int32 → Mo Unit) (l3 : Int32) : Mo Unit :=
  if l3 ≤ l2 then
  mb (gR 7 14 l0) fun words4 =>
  mb (tI words4 l2 l1) fun _ =>
  mb (gI 7 15 l0) fun wordMany5 =>
  mb (sI 7 15 l0 ((wordMany5 + 1))) fun _ =>
  mp ()
  else
  mb (gR 7 14 l0) fun words6 =>
  mb (gR 7 14 l0) fun words7 =>
  mb (aI words7 ((l3 - 1))) fun x8 =>
  mb (tI words6 l3 x8) fun _ =>
  k53 ((l3 + (-1)))
def m_X8_addWord_J48 (l0 : Nat) (l1 : Int32) (l2 : Int32)  : Mo Unit :=
  mb (gI 7 15 l0) fun wordMany3 =>
  lp (fun k s => m_X8_addWord_B53 l0 l1 l2 k s) FU wordMany3
def m_X8_addWord_J29 (l0 : Nat) (l1 : Int32) (l2 : Int32)  : Mo Unit :=
  mb (gI 7 15 l0) fun wordMany2 =>
  if wordMany2 ≤ l2 then
  m_X8_addWord_J48 l0 l1 l2
  else
  mb (gR 7 14 l0) fun words9 =>
  mb (aI words9 l2) fun x10 =>
  if x10 = l1 then
  mp ()
  else
  m_X8_addWord_J48 l0 l1 l2
def m_X8_addWord_B2 (l0 : Nat) (l1 : Int32)  (k2 : Int32 → Mo Unit) (l2 : Int32) : Mo Unit :=
  mb (gI 7 15 l0) fun wordMany1 =>
  if wordMany1 ≤ l2 then
  m_X8_addWord_J29 l0 l1 l2
  else
  mb (gR 7 14 l0) fun words11 =>
  mb (aI words11 l2) fun x12 =>
  mb (m_X8_order x12 l1) fun c13 =>
  if 0 ≤ c13 then
  m_X8_addWord_J29 l0 l1 l2
  else
  k2 ((l2 + 1))
def m_X8_addWord (l0 : Nat) (l1 : Int32) : Mo Unit :=
  lp (fun k s => m_X8_addWord_B2 l0 l1 k s) FU 0
def m_X8_layWords_J58 (l0 : Nat) (l1 : Nat) (l2 : Int32) (l3 : Int32) (k7 : Int32 → Mo Unit) (k16 : Int32 → Mo Unit) : Mo Unit :=
  k16 ((l3 + 1))
def m_X8_layWords_B16 (l0 : Nat) (l1 : Nat) (l2 : Int32) (k7 : Int32 → Mo Unit) (k16 : Int32 → Mo Unit) (l3 : Int32) : Mo Unit :=
  mb (m_X8_parts l1 l2) fun c2 =>
  if c2 ≤ l3 then
  k7 ((l2 + 1))
  else
  mb (m_X8_of l1 l2 l3 1) fun c3 =>
  mb (vc 7 l0 (m_X8_addWord l0 c3)) fun _ =>
  mb (m_X8_of l1 l2 l3 0) fun c4 =>
  if c4 = 2 then
  mb (m_X8_of l1 l2 l3 2) fun c5 =>
  mb (vc 7 l0 (m_X8_addWord l0 c5)) fun _ =>
  m_X8_layWords_J58 l0 l1 l2 l3 k7 k16
  else
  m_X8_layWords_J58 l0 l1 l2 l3 k7 k16
def m_X8_layWords_B7 (l0 : Nat) (l1 : Nat)  (k7 : Int32 → Mo Unit) (l2 : Int32) : Mo Unit :=
  mb (aI l1 0) fun x1 =>
  if x1 ≤ l2 then
  mp ()
  else
  lp (fun k s => m_X8_layWords_B16 l0 l1 l2 k7 k s) FU 0
def m_X8_layWords (l0 : Nat) (l1 : Nat) : Mo Unit :=
  mb (sI 7 15 l0 0) fun _ =>
  lp (fun k s => m_X8_layWords_B7 l0 l1 k s) FU 0
def m_X8_numberOf_B2 (l0 : Nat) (l1 : Int32)  (k2 : Int32 → Mo Int32) (l2 : Int32) : Mo Int32 :=
  mb (gR 7 14 l0) fun words1 =>
  mb (aI words1 l2) fun x2 =>
  if x2 = l1 then
  mp l2
  else
  k2 ((l2 + 1))
def m_X8_numberOf (l0 : Nat) (l1 : Int32) : Mo Int32 :=
  lp (fun k s => m_X8_numberOf_B2 l0 l1 k s) FU 0
def m_X8_nodeOf_B2 (l0 : Nat) (l1 : Int32)  (k2 : Int32 → Mo Int32) (l2 : Int32) : Mo Int32 :=
  mb (gI 7 17 l0) fun nodeMany1 =>
  if nodeMany1 ≤ l2 then
  mp ((-9))
  else
  mb (gR 7 16 l0) fun nodes2 =>
  mb (aI nodes2 l2) fun x3 =>
  if x3 = l1 then
  mp l2
  else
  k2 ((l2 + 1))
def m_X8_nodeOf (l0 : Nat) (l1 : Int32) : Mo Int32 :=
  lp (fun k s => m_X8_nodeOf_B2 l0 l1 k s) FU 0
def m_X8_firsts (l0 : Int32) (l1 : Int32) : Mo Int32 :=
  mp ((((l1 * 1048576)) + ((((l0 &&& 1048575)) >>> (((3 * ((((l0 / 1048576)) - l1)))) &&& 31)))))
def m_X8_lasts (l0 : Int32) (l1 : Int32) : Mo Int32 :=
  mp ((((l1 * 1048576)) + ((l0 &&& (((((1 : Int32) <<< (((3 * l1)) &&& 31))) - 1))))))
def m_X8_withLetter (l0 : Int32) (l1 : Int32) : Mo Int32 :=
  mp ((((((((((l0 / 1048576)) + 1)) * 1048576)) + ((((l0 &&& 262143)) * 8)))) + l1))
def m_X8_addNode_B50 (l0 : Nat) (l1 : Int32) (l2 : Int32)  (k50 : Int32 → Mo Unit) (l3 : Int32) : Mo Unit :=
  if l3 ≤ l2 then
  mb (gR 7 16 l0) fun nodes4 =>
  mb (tI nodes4 l2 l1) fun _ =>
  mb (gI 7 17 l0) fun nodeMany5 =>
  mb (sI 7 17 l0 ((nodeMany5 + 1))) fun _ =>
  mp ()
  else
  mb (gR 7 16 l0) fun nodes6 =>
  mb (gR 7 16 l0) fun nodes7 =>
  mb (aI nodes7 ((l3 - 1))) fun x8 =>
  mb (tI nodes6 l3 x8) fun _ =>
  k50 ((l3 + (-1)))
def m_X8_addNode_J45 (l0 : Nat) (l1 : Int32) (l2 : Int32)  : Mo Unit :=
  mb (gI 7 17 l0) fun nodeMany3 =>
  lp (fun k s => m_X8_addNode_B50 l0 l1 l2 k s) FU nodeMany3
def m_X8_addNode_J26 (l0 : Nat) (l1 : Int32) (l2 : Int32)  : Mo Unit :=
  mb (gI 7 17 l0) fun nodeMany2 =>
  if nodeMany2 ≤ l2 then
  m_X8_addNode_J45 l0 l1 l2
  else
  mb (gR 7 16 l0) fun nodes9 =>
  mb (aI nodes9 l2) fun x10 =>
  if x10 = l1 then
  mp ()
  else
  m_X8_addNode_J45 l0 l1 l2
def m_X8_addNode_B2 (l0 : Nat) (l1 : Int32)  (k2 : Int32 → Mo Unit) (l2 : Int32) : Mo Unit :=
  mb (gI 7 17 l0) fun nodeMany1 =>
  if nodeMany1 ≤ l2 then
  m_X8_addNode_J26 l0 l1 l2
  else
  mb (gR 7 16 l0) fun nodes11 =>
  mb (aI nodes11 l2) fun x12 =>
  if l1 ≤ x12 then
  m_X8_addNode_J26 l0 l1 l2
  else
  k2 ((l2 + 1))
def m_X8_addNode (l0 : Nat) (l1 : Int32) : Mo Unit :=
  lp (fun k s => m_X8_addNode_B2 l0 l1 k s) FU 0
def m_X8_longest_B2 (l0 : Nat) (l1 : Int32)  (k2 : Int32 → Mo Int32) (l3 : Int32) : Mo Int32 :=
  if l3 ≤ 0 then
  mp 0
  else
  mb (m_X8_lasts l1 l3) fun c1 =>
  mb (vc 7 l0 (m_X8_nodeOf l0 c1)) fun c2 =>
  if c2 = ((-9)) then
  k2 ((l3 + (-1)))
  else
  mp c2
def m_X8_longest (l0 : Nat) (l1 : Int32) (l2 : Int32) : Mo Int32 :=
  lp (fun k s => m_X8_longest_B2 l0 l1 k s) FU l2
def m_X8_make_J238 (l0 : Nat) (l1 : Int32) (l2 : Int32) (l3 : Int32) (s0 : Int32) (s1 : Int32) (s2 : Nat) (s3 : Int32) (s4 : Nat) (k71 : Int32 → Mo Unit) (k195 : Int32 → Mo Unit) : Mo Unit :=
  mb (vc 7 s2 (m_X8_longest s2 s1 s0)) fun c17 =>
  mb (tI s4 s3 c17) fun _ =>
  k195 ((l3 + 1))
def m_X8_make_B195 (l0 : Nat) (l1 : Int32) (l2 : Int32) (k71 : Int32 → Mo Unit) (k195 : Int32 → Mo Unit) (l3 : Int32) : Mo Unit :=
  if 8 ≤ l3 then
  k71 ((l1 + 1))
  else
  mb (gR 7 20 l0) fun nexts13 =>
  mb (gR 7 16 l0) fun nodes14 =>
  mb (aI nodes14 l1) fun x15 =>
  mb (m_X8_withLetter x15 l3) fun c16 =>
  if ((l2 + 1)) ≤ 6 then
  m_X8_make_J238 l0 l1 l2 l3 ((l2 + 1)) c16 l0 ((((8 * l1)) + l3)) nexts13 k71 k195
  else
  m_X8_make_J238 l0 l1 l2 l3 6 c16 l0 ((((8 * l1)) + l3)) nexts13 k71 k195
def m_X8_make_J185 (l0 : Nat) (l1 : Int32) (l2 : Int32) (l3 : Int32) (s0 : Int32) (s1 : Int32) (s2 : Int32) (s3 : Nat) (k71 : Int32 → Mo Unit) (k126 : Int32 → Mo Unit) : Mo Unit :=
  mb (tI s3 s2 ((s1 ||| s0))) fun _ =>
  k126 ((l3 + 1))
def m_X8_make_J184 (l0 : Nat) (l1 : Int32) (l2 : Int32) (l3 : Int32) (s0 : Int32) (s1 : Int32) (s2 : Nat) (k71 : Int32 → Mo Unit) (k126 : Int32 → Mo Unit) : Mo Unit :=
  m_X8_make_J185 l0 l1 l2 l3 0 s0 s1 s2 k71 k126
def m_X8_make_B126 (l0 : Nat) (l1 : Int32) (l2 : Int32) (k71 : Int32 → Mo Unit) (k126 : Int32 → Mo Unit) (l3 : Int32) : Mo Unit :=
  mb (gI 7 15 l0) fun wordMany12 =>
  if wordMany12 ≤ l3 then
  lp (fun k s => m_X8_make_B195 l0 l1 l2 k71 k s) FU 0
  else
  mb (gR 7 14 l0) fun words18 =>
  mb (aI words18 l3) fun x19 =>
  mb (mp ((x19 / 1048576))) fun v20 =>
  mb (gR 7 19 l0) fun ends21 =>
  mb (aI ends21 l1) fun x22 =>
  if l2 < v20 then
  m_X8_make_J184 l0 l1 l2 l3 x22 l1 ends21 k71 k126
  else
  mb (gR 7 16 l0) fun nodes23 =>
  mb (aI nodes23 l1) fun x24 =>
  mb (m_X8_lasts x24 v20) fun c25 =>
  mb (gR 7 14 l0) fun words26 =>
  mb (aI words26 l3) fun x27 =>
  if c25 = x27 then
  m_X8_make_J185 l0 l1 l2 l3 (((1 : Int32) <<< (l3 &&& 31))) x22 l1 ends21 k71 k126
  else
  m_X8_make_J184 l0 l1 l2 l3 x22 l1 ends21 k71 k126
def m_X8_make_J116 (l0 : Nat) (l1 : Int32) (l2 : Int32) (s0 : Int32) (s1 : Int32) (s2 : Nat) (k71 : Int32 → Mo Unit) : Mo Unit :=
  mb (tI s2 s1 s0) fun _ =>
  mb (gR 7 19 l0) fun ends11 =>
  mb (tI ends11 l1 0) fun _ =>
  lp (fun k s => m_X8_make_B126 l0 l1 l2 k71 k s) FU 0
def m_X8_make_B71 (l0 : Nat)  (k71 : Int32 → Mo Unit) (l1 : Int32) : Mo Unit :=
  mb (gI 7 17 l0) fun nodeMany3 =>
  if nodeMany3 ≤ l1 then
  mp ()
  else
  mb (gR 7 16 l0) fun nodes4 =>
  mb (aI nodes4 l1) fun x5 =>
  mb (mp ((x5 / 1048576))) fun v6 =>
  mb (gR 7 18 l0) fun fails7 =>
  if l1 = 0 then
  m_X8_make_J116 l0 l1 v6 ((-9)) l1 fails7 k71
  else
  mb (gR 7 16 l0) fun nodes8 =>
  mb (aI nodes8 l1) fun x9 =>
  mb (vc 7 l0 (m_X8_longest l0 x9 ((v6 - 1)))) fun c10 =>
  m_X8_make_J116 l0 l1 v6 c10 l1 fails7 k71
def m_X8_make_B30 (l0 : Nat) (l1 : Int32) (k20 : Int32 → Mo Unit) (k30 : Int32 → Mo Unit) (l2 : Int32) : Mo Unit :=
  mb (gR 7 14 l0) fun words28 =>
  mb (aI words28 l1) fun x29 =>
  if ((x29 / 1048576)) < l2 then
  k20 ((l1 + 1))
  else
  mb (gR 7 14 l0) fun words30 =>
  mb (aI words30 l1) fun x31 =>
  mb (m_X8_firsts x31 l2) fun c32 =>
  mb (vc 7 l0 (m_X8_addNode l0 c32)) fun _ =>
  k30 ((l2 + 1))
def m_X8_make_B20 (l0 : Nat)  (k20 : Int32 → Mo Unit) (l1 : Int32) : Mo Unit :=
  mb (gI 7 15 l0) fun wordMany2 =>
  if wordMany2 ≤ l1 then
  lp (fun k s => m_X8_make_B71 l0 k s) FU 0
  else
  lp (fun k s => m_X8_make_B30 l0 l1 k20 k s) FU 1
def m_X8_make (l0 : Nat) : Mo Unit :=
  mb (gR 7 8 l0) fun now1 =>
  mb (vc 7 l0 (m_X8_layWords l0 now1)) fun _ =>
  mb (sI 7 17 l0 0) fun _ =>
  mb (vc 7 l0 (m_X8_addNode l0 0)) fun _ =>
  lp (fun k s => m_X8_make_B20 l0 k s) FU 0
def m_X8_init (l0 : Nat) : Mo Unit :=
  mb (nA 100 150) fun p1 =>
  mb (sR 7 1 l0 p1) fun _ =>
  mb (nA 100 178) fun p2 =>
  mb (sR 7 8 l0 p2) fun _ =>
  mb (nA 100 178) fun p3 =>
  mb (sR 7 9 l0 p3) fun _ =>
  mb (nA 100 1780) fun p4 =>
  mb (sR 7 10 l0 p4) fun _ =>
  mb (nA 102 2) fun p5 =>
  mb (sR 7 12 l0 p5) fun _ =>
  mb (nA 100 356) fun p6 =>
  mb (sR 7 13 l0 p6) fun _ =>
  mb (nA 100 64) fun p7 =>
  mb (sR 7 14 l0 p7) fun _ =>
  mb (nA 100 100) fun p8 =>
  mb (sR 7 16 l0 p8) fun _ =>
  mb (nA 100 100) fun p9 =>
  mb (sR 7 18 l0 p9) fun _ =>
  mb (nA 100 100) fun p10 =>
  mb (sR 7 19 l0 p10) fun _ =>
  mb (nA 100 800) fun p11 =>
  mb (sR 7 20 l0 p11) fun _ =>
  mb (nA 100 40) fun p12 =>
  mb (sR 7 21 l0 p12) fun _ =>
  mb (nA 101 15520) fun p13 =>
  mb (sR 7 28 l0 p13) fun _ =>
  mb (nA 101 15520) fun p14 =>
  mb (sR 7 29 l0 p14) fun _ =>
  mb (vc 7 l0 (m_X8_make l0 )) fun _ =>
  mp ()
def m_X8_readWord_B38 (l0 : Nat) (l1 : Int32)  (k38 : Int32 × Int32 → Mo Int32) (l2 : Int32) (l3 : Int32) : Mo Int32 :=
  mb (gI 7 3 l0) fun cursor6 =>
  if cursor6 ≤ l3 then
  mb (vc 7 l0 (m_X8_addWord l0 ((l1 + l2)))) fun _ =>
  mb (gI 7 15 l0) fun wordMany7 =>
  if wordMany7 ≤ 16 then
  mp ((l1 + l2))
  else
  mp 0
  else
  mb (gR 7 1 l0) fun text8 =>
  mb (aI text8 l3) fun x9 =>
  if x9 ≤ 104 then
  mb (gR 7 1 l0) fun text10 =>
  mb (aI text10 l3) fun x11 =>
  mb (mp ((((((8 * l2)) + x11)) - 97))) fun v12 =>
  k38 (v12, (l3 + 1))
  else
  mp 0
def m_X8_readWord (l0 : Nat) : Mo Int32 :=
  mb (vc 7 l0 (m_X8_step l0 )) fun _ =>
  mb (gI 7 5 l0) fun token1 =>
  if token1 = 1 then
  mb (gI 7 7 l0) fun size2 =>
  if size2 ≤ 6 then
  mb (gI 7 7 l0) fun size3 =>
  mb (mp ((size3 * 1048576))) fun v4 =>
  mb (gI 7 4 l0) fun start5 =>
  lp (fun k s => m_X8_readWord_B38 l0 v4 k s.1 s.2) FU (0, start5)
  else
  mp 0
  else
  mp 0
def m_X8_readPart_J165 (l0 : Nat) (l2 : Int32)  : Mo Int32 :=
  mb (gR 7 9 l0) fun fresh12 =>
  mb (aI fresh12 ((42 + ((17 * l2))))) fun x13 =>
  mb (tI fresh12 ((42 + ((17 * l2)))) ((x13 + 1))) fun _ =>
  rZ 1
def m_X8_readPart_J107 (l0 : Nat) (l1 : Int32) (l2 : Int32) (l4 : Int32) (s0 : Int32) (s1 : Int32) (s2 : Nat)  : Mo Int32 :=
  mb (tI s2 s1 s0) fun _ =>
  mb (gR 7 9 l0) fun fresh11 =>
  mb (tI fresh11 ((l4 + 3)) 0) fun _ =>
  if l1 = 2 then
  mb (vc 7 l0 (m_X8_step l0 )) fun _ =>
  mb (gI 7 5 l0) fun token14 =>
  if token14 = 2 then
  mb (gI 7 6 l0) fun value15 =>
  mb (m_X8_in (((value15 : Int32).toInt64)) 1 9) fun c16 =>
  if c16 = 0 then
  rZ 0
  else
  mb (gR 7 9 l0) fun fresh17 =>
  mb (gI 7 6 l0) fun value18 =>
  mb (tI fresh17 ((l4 + 3)) value18) fun _ =>
  m_X8_readPart_J165 l0 l2
  else
  rZ 0
  else
  m_X8_readPart_J165 l0 l2
def m_X8_readPart_J60 (l0 : Nat) (l1 : Int32) (l2 : Int32) (l4 : Int32) (l5 : Int32) (s0 : Int32)  : Mo Int32 :=
  if s0 = 0 then
  rZ 0
  else
  mb (gR 7 9 l0) fun fresh8 =>
  mb (tI fresh8 l4 l1) fun _ =>
  mb (gR 7 9 l0) fun fresh9 =>
  mb (tI fresh9 ((l4 + 1)) s0) fun _ =>
  mb (gR 7 9 l0) fun fresh10 =>
  if l1 = 2 then
  m_X8_readPart_J107 l0 l1 l2 l4 l5 ((l4 + 2)) fresh10
  else
  m_X8_readPart_J107 l0 l1 l2 l4 0 ((l4 + 2)) fresh10
def m_X8_readPart (l0 : Nat) (l1 : Int32) : Mo Int32 :=
  mb (gR 7 9 l0) fun fresh1 =>
  mb (aI fresh1 0) fun x2 =>
  mb (mp ((x2 - 1))) fun v3 =>
  mb (gR 7 9 l0) fun fresh4 =>
  mb (m_X8_parts fresh4 v3) fun c5 =>
  mb (mp ((((((42 + ((17 * v3)))) + 1)) + ((4 * c5))))) fun v6 =>
  mb (vc 7 l0 (m_X8_readWord l0 )) fun c7 =>
  if c7 = 0 then
  rZ 0
  else
  if l1 = 2 then
  mb (vc 7 l0 (m_X8_readWord l0 )) fun c19 =>
  m_X8_readPart_J60 l0 l1 v3 v6 c7 c19
  else
  m_X8_readPart_J60 l0 l1 v3 v6 c7 c7
def m_X8_hasNear_J39 (l0 : Nat) (l1 : Int32) (l3 : Int32) (s0 : Int32) (k4 : Int32 × Int32 → Mo Int32) : Mo Int32 :=
  k4 (s0, (l3 + 1))
def m_X8_hasNear_J34 (l0 : Nat) (l1 : Int32) (l3 : Int32) (k4 : Int32 × Int32 → Mo Int32) : Mo Int32 :=
  m_X8_hasNear_J39 l0 l1 l3 1 k4
def m_X8_hasNear_B4 (l0 : Nat) (l1 : Int32)  (k4 : Int32 × Int32 → Mo Int32) (l2 : Int32) (l3 : Int32) : Mo Int32 :=
  mb (gR 7 9 l0) fun fresh1 =>
  mb (m_X8_parts fresh1 l1) fun c2 =>
  if c2 ≤ l3 then
  rZ l2
  else
  if l2 = 0 then
  mb (gR 7 9 l0) fun fresh3 =>
  mb (m_X8_of fresh3 l1 l3 0) fun c4 =>
  if c4 = 2 then
  m_X8_hasNear_J34 l0 l1 l3 k4
  else
  m_X8_hasNear_J39 l0 l1 l3 0 k4
  else
  m_X8_hasNear_J34 l0 l1 l3 k4
def m_X8_hasNear (l0 : Nat) (l1 : Int32) : Mo Int32 :=
  lp (fun k s => m_X8_hasNear_B4 l0 l1 k s.1 s.2) FU (0, 0)
def m_X8_isWhole_J33   : Mo Int32 :=
  rZ 1
def m_X8_isWhole (l0 : Nat) : Mo Int32 :=
  mb (gR 7 9 l0) fun fresh1 =>
  mb (aI fresh1 0) fun x2 =>
  mb (gR 7 8 l0) fun now3 =>
  mb (aI now3 0) fun x4 =>
  if x2 = x4 then
  m_X8_isWhole_J33 
  else
  mb (gR 7 9 l0) fun fresh5 =>
  mb (gR 7 9 l0) fun fresh6 =>
  mb (aI fresh6 0) fun x7 =>
  mb (m_X8_parts fresh5 ((x7 - 1))) fun c8 =>
  if c8 ≤ 0 then
  rZ 0
  else
  m_X8_isWhole_J33 
def m_X8_readItem_J174 (l0 : Nat) (l1 : Int32)  : Mo Int32 :=
  mb (vc 7 l0 (m_X8_readPart l0 l1)) fun c14 =>
  if c14 = 0 then
  rZ 0
  else
  rZ 1
def m_X8_readItem_J116 (l0 : Nat) (s0 : Int32)  : Mo Int32 :=
  if s0 = ((-9)) then
  rZ 0
  else
  mb (gR 7 9 l0) fun fresh5 =>
  mb (aI fresh5 0) fun x6 =>
  mb (gR 7 8 l0) fun now7 =>
  mb (aI now7 0) fun x8 =>
  if x6 = x8 then
  rZ 0
  else
  mb (gR 7 9 l0) fun fresh9 =>
  mb (aI fresh9 0) fun x10 =>
  mb (mp ((x10 - 1))) fun v11 =>
  mb (gR 7 9 l0) fun fresh12 =>
  mb (m_X8_parts fresh12 v11) fun c13 =>
  if 4 ≤ c13 then
  rZ 0
  else
  if s0 = 2 then
  mb (vc 7 l0 (m_X8_hasNear l0 v11)) fun c15 =>
  if c15 = 0 then
  m_X8_readItem_J174 l0 s0
  else
  rZ 0
  else
  m_X8_readItem_J174 l0 s0
def m_X8_readItem_B31 (l0 : Nat)  (k31 : Int32 → Mo Int32) (l1 : Int32) : Mo Int32 :=
  if 17 ≤ l1 then
  mb (gR 7 9 l0) fun fresh19 =>
  mb (aI fresh19 0) fun x20 =>
  mb (tI fresh19 0 ((x20 + 1))) fun _ =>
  rZ 1
  else
  mb (gR 7 9 l0) fun fresh21 =>
  mb (gR 7 9 l0) fun fresh22 =>
  mb (aI fresh22 0) fun x23 =>
  mb (tI fresh21 ((((42 + ((17 * x23)))) + l1)) 0) fun _ =>
  k31 ((l1 + 1))
def m_X8_readItem (l0 : Nat) : Mo Int32 :=
  mb (vc 7 l0 (m_X8_isName l0 113)) fun c1 =>
  if c1 = 0 then
  mb (vc 7 l0 (m_X8_isName l0 104)) fun c2 =>
  if c2 = 0 then
  mb (vc 7 l0 (m_X8_isName l0 110)) fun c3 =>
  if c3 = 0 then
  mb (vc 7 l0 (m_X8_isName l0 112)) fun c4 =>
  if c4 = 0 then
  m_X8_readItem_J116 l0 ((-9))
  else
  m_X8_readItem_J116 l0 2
  else
  m_X8_readItem_J116 l0 1
  else
  m_X8_readItem_J116 l0 0
  else
  mb (vc 7 l0 (m_X8_isWhole l0 )) fun c16 =>
  if c16 = 0 then
  rZ 0
  else
  mb (gR 7 9 l0) fun fresh17 =>
  mb (aI fresh17 0) fun x18 =>
  if x18 = 8 then
  rZ 0
  else
  lp (fun k s => m_X8_readItem_B31 l0 k s) FU 0
def m_X8_keepAct_B52 (l0 : Nat)  (k52 : Int32 → Mo Unit) (l1 : Int32) : Mo Unit :=
  if 178 ≤ l1 then
  mb (gI 7 11 l0) fun acts2 =>
  mb (sI 7 11 l0 ((acts2 + 1))) fun _ =>
  mp ()
  else
  mb (gR 7 10 l0) fun was3 =>
  mb (gI 7 11 l0) fun acts4 =>
  mb (gR 7 8 l0) fun now5 =>
  mb (aI now5 l1) fun x6 =>
  mb (tI was3 ((((178 * acts4)) + l1)) x6) fun _ =>
  k52 ((l1 + 1))
def m_X8_keepAct_J50 (l0 : Nat)  : Mo Unit :=
  lp (fun k s => m_X8_keepAct_B52 l0 k s) FU 0
def m_X8_keepAct_B11 (l0 : Nat)  (k11 : Int32 → Mo Unit) (l1 : Int32) : Mo Unit :=
  if 1602 ≤ l1 then
  mb (gI 7 11 l0) fun acts7 =>
  mb (sI 7 11 l0 ((acts7 - 1))) fun _ =>
  m_X8_keepAct_J50 l0
  else
  mb (gR 7 10 l0) fun was8 =>
  mb (gR 7 10 l0) fun was9 =>
  mb (aI was9 ((l1 + 178))) fun x10 =>
  mb (tI was8 l1 x10) fun _ =>
  k11 ((l1 + 1))
def m_X8_keepAct (l0 : Nat) : Mo Unit :=
  mb (gI 7 11 l0) fun acts1 =>
  if acts1 = 10 then
  lp (fun k s => m_X8_keepAct_B11 l0 k s) FU 0
  else
  m_X8_keepAct_J50 l0
def m_X8_adds_J67 (l0 : Nat) (l1 : Int32) (k33 : Unit → Mo Int32) : Mo Int32 :=
  if l1 = 0 then
  mb (gI 7 4 l0) fun start15 =>
  mb (vc 7 l0 (m_X8_make l0 )) fun _ =>
  mp ((((-10)) - start15))
  else
  mb (vc 7 l0 (m_X8_step l0 )) fun _ =>
  k33 ()
def m_X8_adds_J66 (l0 : Nat) (s0 : Int32) (k33 : Unit → Mo Int32) : Mo Int32 :=
  m_X8_adds_J67 l0 s0 k33
def m_X8_adds_B33 (l0 : Nat)  (k33 : Unit → Mo Int32)  : Mo Int32 :=
  mb (gI 7 5 l0) fun token4 =>
  if token4 = 0 then
  mb (vc 7 l0 (m_X8_isWhole l0 )) fun c5 =>
  if c5 = 0 then
  mb (vc 7 l0 (m_X8_make l0 )) fun _ =>
  mb (gI 7 2 l0) fun typed13 =>
  mp ((((-10)) - typed13))
  else
  mb (sI 7 2 l0 0) fun _ =>
  mb (vc 7 l0 (m_X8_keepAct l0 )) fun _ =>
  mb (gR 7 9 l0) fun fresh6 =>
  mb (aI fresh6 0) fun x7 =>
  mb (gR 7 8 l0) fun now8 =>
  mb (aI now8 0) fun x9 =>
  mb (mp ((x7 - x9))) fun v10 =>
  mb (gR 7 9 l0) fun fresh11 =>
  mb (gR 7 8 l0) fun now12 =>
  mb (m_X8_copyAll fresh11 now12) fun _ =>
  mb (vc 7 l0 (m_X8_make l0 )) fun _ =>
  mp v10
  else
  mb (vc 7 l0 (m_X8_readItem l0 )) fun c14 =>
  if c14 = 0 then
  m_X8_adds_J67 l0 c14 k33
  else
  mb (vc 7 l0 (m_X8_step l0 )) fun _ =>
  mb (gI 7 5 l0) fun token16 =>
  if token16 = 3 then
  m_X8_adds_J66 l0 1 k33
  else
  m_X8_adds_J66 l0 0 k33
def m_X8_adds (l0 : Nat) : Mo Int32 :=
  mb (sI 7 0 l0 0) fun _ =>
  mb (sI 7 3 l0 0) fun _ =>
  mb (gR 7 8 l0) fun now1 =>
  mb (gR 7 9 l0) fun fresh2 =>
  mb (m_X8_copyAll now1 fresh2) fun _ =>
  mb (gR 7 8 l0) fun now3 =>
  mb (vc 7 l0 (m_X8_layWords l0 now3)) fun _ =>
  mb (vc 7 l0 (m_X8_step l0 )) fun _ =>
  lp (fun k s => m_X8_adds_B33 l0 k ) FU ()
def m_X8_isQuery (l0 : Nat) (l1 : Int32) : Mo Int32 :=
  mb (gR 7 8 l0) fun now1 =>
  mb (aI now1 0) fun x2 =>
  mb (m_X8_in (((l1 : Int32).toInt64)) 0 ((((x2 - 1) : Int32).toInt64))) fun c3 =>
  rZ c3
def m_X8_drops_B76 (l0 : Nat)  (k76 : Int32 → Mo Int32) (l2 : Int32) : Mo Int32 :=
  if 17 ≤ l2 then
  mb (vc 7 l0 (m_X8_make l0 )) fun _ =>
  mb (gR 7 8 l0) fun now7 =>
  mb (aI now7 0) fun x8 =>
  mp x8
  else
  mb (gR 7 8 l0) fun now9 =>
  mb (gR 7 8 l0) fun now10 =>
  mb (aI now10 0) fun x11 =>
  mb (tI now9 ((((42 + ((17 * x11)))) + l2)) 0) fun _ =>
  k76 ((l2 + 1))
def m_X8_drops_B37 (l0 : Nat)  (k37 : Int32 → Mo Int32) (l2 : Int32) : Mo Int32 :=
  mb (gR 7 8 l0) fun now5 =>
  mb (aI now5 0) fun x6 =>
  if ((42 + ((17 * x6)))) ≤ l2 then
  lp (fun k s => m_X8_drops_B76 l0 k s) FU 0
  else
  mb (gR 7 8 l0) fun now12 =>
  mb (gR 7 8 l0) fun now13 =>
  mb (aI now13 ((l2 + 17))) fun x14 =>
  mb (tI now12 l2 x14) fun _ =>
  k37 ((l2 + 1))
def m_X8_drops (l0 : Nat) (l1 : Int32) : Mo Int32 :=
  mb (sI 7 0 l0 0) fun _ =>
  mb (vc 7 l0 (m_X8_isQuery l0 l1)) fun c1 =>
  if c1 = 0 then
  mp ((-1))
  else
  mb (vc 7 l0 (m_X8_keepAct l0 )) fun _ =>
  mb (gR 7 8 l0) fun now2 =>
  mb (aI now2 0) fun x3 =>
  mb (tI now2 0 ((x3 - 1))) fun _ =>
  mb (mp ((42 + ((17 * l1))))) fun v4 =>
  lp (fun k s => m_X8_drops_B37 l0 k s) FU v4
def m_X8_nodeAt_B4 (l0 : Nat) (l1 : Int32)  (k4 : Int32 × Int32 → Mo Int32) (l2 : Int32) (l3 : Int32) : Mo Int32 :=
  if l1 ≤ l3 then
  mp l2
  else
  mb (gR 7 20 l0) fun nexts1 =>
  mb (gR 7 8 l0) fun now2 =>
  mb (aI now2 ((2 + l3))) fun x3 =>
  mb (aI nexts1 ((((8 * l2)) + x3))) fun x4 =>
  k4 (x4, (l3 + 1))
def m_X8_nodeAt (l0 : Nat) (l1 : Int32) : Mo Int32 :=
  lp (fun k s => m_X8_nodeAt_B4 l0 l1 k s.1 s.2) FU (0, 0)
def m_X8_feeds (l0 : Nat) (l1 : Int32) : Mo Int32 :=
  mb (sI 7 0 l0 0) fun _ =>
  mb (m_X8_in (((l1 : Int32).toInt64)) 97 104) fun c1 =>
  if c1 = 0 then
  mp ((-1))
  else
  mb (gR 7 8 l0) fun now2 =>
  mb (aI now2 1) fun x3 =>
  if x3 = 40 then
  mp ((-3))
  else
  mb (vc 7 l0 (m_X8_keepAct l0 )) fun _ =>
  mb (gR 7 8 l0) fun now4 =>
  mb (gR 7 8 l0) fun now5 =>
  mb (aI now5 1) fun x6 =>
  mb (tI now4 ((2 + x6)) ((l1 - 97))) fun _ =>
  mb (gR 7 8 l0) fun now7 =>
  mb (aI now7 1) fun x8 =>
  mb (tI now7 1 ((x8 + 1))) fun _ =>
  mb (gR 7 8 l0) fun now9 =>
  mb (aI now9 1) fun x10 =>
  mb (vc 7 l0 (m_X8_nodeAt l0 x10)) fun c11 =>
  mp c11
def m_X8_cuts (l0 : Nat) : Mo Int32 :=
  mb (sI 7 0 l0 0) fun _ =>
  mb (gR 7 8 l0) fun now1 =>
  mb (aI now1 1) fun x2 =>
  if x2 = 0 then
  mp ((-2))
  else
  mb (vc 7 l0 (m_X8_keepAct l0 )) fun _ =>
  mb (gR 7 8 l0) fun now3 =>
  mb (aI now3 1) fun x4 =>
  mb (tI now3 1 ((x4 - 1))) fun _ =>
  mb (gR 7 8 l0) fun now5 =>
  mb (gR 7 8 l0) fun now6 =>
  mb (aI now6 1) fun x7 =>
  mb (aI now5 ((2 + x7))) fun x8 =>
  mb (gR 7 8 l0) fun now9 =>
  mb (gR 7 8 l0) fun now10 =>
  mb (aI now10 1) fun x11 =>
  mb (tI now9 ((2 + x11)) 0) fun _ =>
  mp ((97 + x8))
def m_X8_undo_B27 (l0 : Nat)  (k27 : Int32 → Mo Int32) (l1 : Int32) : Mo Int32 :=
  if 178 ≤ l1 then
  mb (vc 7 l0 (m_X8_make l0 )) fun _ =>
  mb (gI 7 11 l0) fun acts3 =>
  mp acts3
  else
  mb (gR 7 8 l0) fun now4 =>
  mb (gR 7 10 l0) fun was5 =>
  mb (gI 7 11 l0) fun acts6 =>
  mb (aI was5 ((((178 * acts6)) + l1))) fun x7 =>
  mb (tI now4 l1 x7) fun _ =>
  k27 ((l1 + 1))
def m_X8_undo (l0 : Nat) : Mo Int32 :=
  mb (sI 7 0 l0 0) fun _ =>
  mb (gI 7 11 l0) fun acts1 =>
  if acts1 = 0 then
  mp ((-2))
  else
  mb (gI 7 11 l0) fun acts2 =>
  mb (sI 7 11 l0 ((acts2 - 1))) fun _ =>
  lp (fun k s => m_X8_undo_B27 l0 k s) FU 0
def m_X8_has (l0 : Int32) (l1 : Int32) : Mo Int32 :=
  if ((((l0 >>> (l1 &&& 31))) &&& 1)) = 1 then
  rZ 1
  else
  rZ 0
def m_X8_layEnds_B4 (l0 : Nat)  (k4 : Int32 × Int32 → Mo Unit) (l1 : Int32) (l2 : Int32) : Mo Unit :=
  mb (gR 7 8 l0) fun now1 =>
  mb (aI now1 1) fun x2 =>
  if x2 ≤ l2 then
  mp ()
  else
  mb (gR 7 20 l0) fun nexts3 =>
  mb (gR 7 8 l0) fun now4 =>
  mb (aI now4 ((2 + l2))) fun x5 =>
  mb (aI nexts3 ((((8 * l1)) + x5))) fun x6 =>
  mb (gR 7 21 l0) fun ended7 =>
  mb (gR 7 19 l0) fun ends8 =>
  mb (aI ends8 x6) fun x9 =>
  mb (tI ended7 l2 x9) fun _ =>
  k4 (x6, (l2 + 1))
def m_X8_layEnds (l0 : Nat) : Mo Unit :=
  lp (fun k s => m_X8_layEnds_B4 l0 k s.1 s.2) FU (0, 0)
def m_X8_hits_J31 (l0 : Nat) (l1 : Int32) (l2 : Int32) (l4 : Int32) (s0 : Int32) (s1 : Int32) (k5 : Int32 × Int32 → Mo Int32) : Mo Int32 :=
  mb (mp ((s1 + s0))) fun v4 =>
  k5 (v4, (l4 + 1))
def m_X8_hits_B5 (l0 : Nat) (l1 : Int32) (l2 : Int32)  (k5 : Int32 × Int32 → Mo Int32) (l3 : Int32) (l4 : Int32) : Mo Int32 :=
  if l2 ≤ l4 then
  mp l3
  else
  mb (gR 7 21 l0) fun ended1 =>
  mb (aI ended1 l4) fun x2 =>
  mb (m_X8_has x2 l1) fun c3 =>
  if c3 = 0 then
  m_X8_hits_J31 l0 l1 l2 l4 0 l3 k5
  else
  m_X8_hits_J31 l0 l1 l2 l4 1 l3 k5
def m_X8_hits (l0 : Nat) (l1 : Int32) (l2 : Int32) : Mo Int32 :=
  lp (fun k s => m_X8_hits_B5 l0 l1 l2 k s.1 s.2) FU (0, 0)
def m_X8_holds_J172 (l0 : Nat) (l1 : Int32) (l2 : Int32) (l3 : Int32) (l4 : Int32) (l6 : Int32) (l7 : Int32) (l8 : Int32) (k90 : Int32 × Int32 → Mo Int32) : Mo Int32 :=
  k90 (l7, (l8 + 1))
def m_X8_holds_J164 (l0 : Nat) (l1 : Int32) (l2 : Int32) (l3 : Int32) (l4 : Int32) (l6 : Int32) (l8 : Int32) (l9 : Int32) (s0 : Int32) (k90 : Int32 × Int32 → Mo Int32) (k99 : Int32 × Int32 → Mo Int32) : Mo Int32 :=
  k99 (s0, (l9 + 1))
def m_X8_holds_J159 (l0 : Nat) (l1 : Int32) (l2 : Int32) (l3 : Int32) (l4 : Int32) (l6 : Int32) (l8 : Int32) (l9 : Int32) (k90 : Int32 × Int32 → Mo Int32) (k99 : Int32 × Int32 → Mo Int32) : Mo Int32 :=
  m_X8_holds_J164 l0 l1 l2 l3 l4 l6 l8 l9 1 k90 k99
def m_X8_holds_B99 (l0 : Nat) (l1 : Int32) (l2 : Int32) (l3 : Int32) (l4 : Int32) (l6 : Int32) (l8 : Int32) (k90 : Int32 × Int32 → Mo Int32) (k99 : Int32 × Int32 → Mo Int32) (l7 : Int32) (l9 : Int32) : Mo Int32 :=
  mb (gR 7 8 l0) fun now9 =>
  mb (m_X8_of now9 l1 l2 3) fun c10 =>
  if c10 < l9 then
  m_X8_holds_J172 l0 l1 l2 l3 l4 l6 l7 l8 k90
  else
  if l8 < l9 then
  m_X8_holds_J172 l0 l1 l2 l3 l4 l6 l7 l8 k90
  else
  mb (gR 7 21 l0) fun ended11 =>
  mb (aI ended11 l8) fun x12 =>
  mb (m_X8_has x12 l4) fun c13 =>
  if c13 = 0 then
  m_X8_holds_J172 l0 l1 l2 l3 l4 l6 l7 l8 k90
  else
  if l7 = 0 then
  mb (gR 7 21 l0) fun ended14 =>
  mb (aI ended14 ((l8 - l9))) fun x15 =>
  mb (m_X8_has x15 l6) fun c16 =>
  if c16 = 0 then
  m_X8_holds_J164 l0 l1 l2 l3 l4 l6 l8 l9 0 k90 k99
  else
  m_X8_holds_J159 l0 l1 l2 l3 l4 l6 l8 l9 k90 k99
  else
  m_X8_holds_J159 l0 l1 l2 l3 l4 l6 l8 l9 k90 k99
def m_X8_holds_B90 (l0 : Nat) (l1 : Int32) (l2 : Int32) (l3 : Int32) (l4 : Int32) (l6 : Int32)  (k90 : Int32 × Int32 → Mo Int32) (l7 : Int32) (l8 : Int32) : Mo Int32 :=
  if l3 ≤ l8 then
  rZ l7
  else
  lp (fun k s => m_X8_holds_B99 l0 l1 l2 l3 l4 l6 l8 k90 k s.1 s.2) FU (l7, 1)
def m_X8_holds_J59 (s0 : Int32) (s1 : Int32)  : Mo Int32 :=
  if s1 = s0 then
  rZ 1
  else
  rZ 0
def m_X8_holds_J44 (l0 : Nat) (l3 : Int32) (l4 : Int32) (s0 : Int32)  : Mo Int32 :=
  mb (vc 7 l0 (m_X8_hits l0 l4 l3)) fun c17 =>
  if c17 ≤ 0 then
  m_X8_holds_J59 0 s0
  else
  m_X8_holds_J59 1 s0
def m_X8_holds (l0 : Nat) (l1 : Int32) (l2 : Int32) (l3 : Int32) : Mo Int32 :=
  mb (gR 7 8 l0) fun now1 =>
  mb (m_X8_of now1 l1 l2 1) fun c2 =>
  mb (vc 7 l0 (m_X8_numberOf l0 c2)) fun c3 =>
  mb (gR 7 8 l0) fun now4 =>
  mb (m_X8_of now4 l1 l2 0) fun c5 =>
  if c5 = 2 then
  mb (gR 7 8 l0) fun now6 =>
  mb (m_X8_of now6 l1 l2 2) fun c7 =>
  mb (vc 7 l0 (m_X8_numberOf l0 c7)) fun c8 =>
  lp (fun k s => m_X8_holds_B90 l0 l1 l2 l3 c3 c8 k s.1 s.2) FU (0, 0)
  else
  if c5 = 0 then
  m_X8_holds_J44 l0 l3 c3 1
  else
  m_X8_holds_J44 l0 l3 c3 0
def m_X8_matches_J38 (l0 : Nat) (l1 : Int32) (l2 : Int32) (l4 : Int32) (s0 : Int32) (k5 : Int32 × Int32 → Mo Int32) : Mo Int32 :=
  k5 (s0, (l4 + 1))
def m_X8_matches_J37 (l0 : Nat) (l1 : Int32) (l2 : Int32) (l4 : Int32) (k5 : Int32 × Int32 → Mo Int32) : Mo Int32 :=
  m_X8_matches_J38 l0 l1 l2 l4 0 k5
def m_X8_matches_B5 (l0 : Nat) (l1 : Int32) (l2 : Int32)  (k5 : Int32 × Int32 → Mo Int32) (l3 : Int32) (l4 : Int32) : Mo Int32 :=
  mb (gR 7 8 l0) fun now1 =>
  mb (m_X8_parts now1 l1) fun c2 =>
  if c2 ≤ l4 then
  rZ l3
  else
  if l3 = 0 then
  m_X8_matches_J37 l0 l1 l2 l4 k5
  else
  mb (vc 7 l0 (m_X8_holds l0 l1 l4 l2)) fun c3 =>
  if c3 = 0 then
  m_X8_matches_J37 l0 l1 l2 l4 k5
  else
  m_X8_matches_J38 l0 l1 l2 l4 1 k5
def m_X8_matches (l0 : Nat) (l1 : Int32) (l2 : Int32) : Mo Int32 :=
  lp (fun k s => m_X8_matches_B5 l0 l1 l2 k s.1 s.2) FU (1, 0)
def m_X8_since_B19 (l0 : Nat) (l1 : Int32)  (k19 : Int32 → Mo Int32) (l2 : Int32) : Mo Int32 :=
  if l2 ≤ 0 then
  mp l2
  else
  mb (vc 7 l0 (m_X8_matches l0 l1 ((l2 - 1)))) fun c4 =>
  if c4 = 0 then
  mp l2
  else
  k19 ((l2 + (-1)))
def m_X8_since (l0 : Nat) (l1 : Int32) : Mo Int32 :=
  mb (gR 7 8 l0) fun now1 =>
  mb (aI now1 1) fun x2 =>
  mb (vc 7 l0 (m_X8_matches l0 l1 x2)) fun c3 =>
  if c3 = 0 then
  mp ((-9))
  else
  lp (fun k s => m_X8_since_B19 l0 l1 k s) FU x2
def m_X8_key_J101 (l0 : Nat) (l1 : Int32) (l2 : Int32) (l3 : Int32) (k5 : Int32 × Int32 → Mo Int32) : Mo Int32 :=
  k5 (l2, (l3 + 1))
def m_X8_key_J100 (l0 : Nat) (l1 : Int32) (l3 : Int32) (s0 : Int32) (k5 : Int32 × Int32 → Mo Int32) : Mo Int32 :=
  m_X8_key_J101 l0 l1 s0 l3 k5
def m_X8_key_J94 (l0 : Nat) (l1 : Int32) (l3 : Int32) (l4 : Int32) (k5 : Int32 × Int32 → Mo Int32) : Mo Int32 :=
  m_X8_key_J100 l0 l1 l3 l4 k5
def m_X8_key_J99 (l0 : Nat) (l1 : Int32) (l2 : Int32) (l3 : Int32) (k5 : Int32 × Int32 → Mo Int32) : Mo Int32 :=
  m_X8_key_J100 l0 l1 l3 l2 k5
def m_X8_key_J76 (l0 : Nat) (l1 : Int32) (l2 : Int32) (l3 : Int32) (l4 : Int32) (s0 : Int32) (k5 : Int32 × Int32 → Mo Int32) : Mo Int32 :=
  if 0 < s0 then
  m_X8_key_J94 l0 l1 l3 l4 k5
  else
  if s0 = 0 then
  if l2 ≤ l4 then
  m_X8_key_J99 l0 l1 l2 l3 k5
  else
  m_X8_key_J94 l0 l1 l3 l4 k5
  else
  m_X8_key_J99 l0 l1 l2 l3 k5
def m_X8_key_B5 (l0 : Nat) (l1 : Int32)  (k5 : Int32 × Int32 → Mo Int32) (l2 : Int32) (l3 : Int32) : Mo Int32 :=
  mb (gR 7 8 l0) fun now1 =>
  mb (m_X8_parts now1 l1) fun c2 =>
  if c2 ≤ l3 then
  mp l2
  else
  mb (gR 7 8 l0) fun now3 =>
  mb (m_X8_of now3 l1 l3 0) fun c4 =>
  if c4 = 0 then
  mb (gR 7 8 l0) fun now5 =>
  mb (m_X8_of now5 l1 l3 1) fun c6 =>
  mb (vc 7 l0 (m_X8_numberOf l0 c6)) fun c7 =>
  if l2 = ((-9)) then
  m_X8_key_J76 l0 l1 l2 l3 c7 1 k5
  else
  mb (gR 7 14 l0) fun words8 =>
  mb (aI words8 c7) fun x9 =>
  mb (gR 7 14 l0) fun words10 =>
  mb (aI words10 l2) fun x11 =>
  m_X8_key_J76 l0 l1 l2 l3 c7 ((((x9 / 1048576)) - ((x11 / 1048576)))) k5
  else
  m_X8_key_J101 l0 l1 l2 l3 k5
def m_X8_key (l0 : Nat) (l1 : Int32) : Mo Int32 :=
  lp (fun k s => m_X8_key_B5 l0 l1 k s.1 s.2) FU ((-9), 0)
def m_X8_isAsked_J26   : Mo Int32 :=
  rZ 1
def m_X8_isAsked (l0 : Nat) (l1 : Int32) : Mo Int32 :=
  mb (vc 7 l0 (m_X8_key l0 l1)) fun c1 =>
  if c1 = ((-9)) then
  m_X8_isAsked_J26 
  else
  mb (gR 7 8 l0) fun now2 =>
  mb (aI now2 1) fun x3 =>
  mb (vc 7 l0 (m_X8_hits l0 c1 x3)) fun c4 =>
  if c4 ≤ 0 then
  rZ 0
  else
  m_X8_isAsked_J26 
def m_X8_query (l0 : Nat) (l1 : Int32) (l2 : Int32) : Mo Int32 :=
  mb (sI 7 0 l0 0) fun _ =>
  mb (vc 7 l0 (m_X8_isQuery l0 l1)) fun c1 =>
  if c1 = 0 then
  mp ((-1))
  else
  mb (vc 7 l0 (m_X8_layEnds l0 )) fun _ =>
  if l2 = 0 then
  mb (gR 7 8 l0) fun now2 =>
  mb (m_X8_parts now2 l1) fun c3 =>
  mp c3
  else if l2 = 1 then
  mb (gR 7 8 l0) fun now4 =>
  mb (aI now4 1) fun x5 =>
  mb (vc 7 l0 (m_X8_matches l0 l1 x5)) fun c6 =>
  if c6 = 0 then
  mp 0
  else
  mp 1
  else if l2 = 2 then
  mb (vc 7 l0 (m_X8_since l0 l1)) fun c7 =>
  mp c7
  else if l2 = 3 then
  mb (vc 7 l0 (m_X8_key l0 l1)) fun c8 =>
  mp c8
  else if l2 = 4 then
  mb (vc 7 l0 (m_X8_isAsked l0 l1)) fun c9 =>
  if c9 = 0 then
  mp 0
  else
  mp 1
  else 
  mp ((-1))
def m_X8_part_J54 (l0 : Nat) (l1 : Int32) (l2 : Int32) (l3 : Int32) (s0 : Int32)  : Mo Int32 :=
  mb (vc 7 l0 (m_X8_layEnds l0 )) fun _ =>
  if l3 = 0 then
  mb (gR 7 8 l0) fun now7 =>
  mb (m_X8_of now7 l1 l2 0) fun c8 =>
  mp c8
  else if l3 = 1 then
  mb (gR 7 8 l0) fun now9 =>
  mb (m_X8_of now9 l1 l2 1) fun c10 =>
  mb (vc 7 l0 (m_X8_numberOf l0 c10)) fun c11 =>
  mp c11
  else if l3 = 2 then
  if s0 = 0 then
  mp ((-9))
  else
  mb (gR 7 8 l0) fun now12 =>
  mb (m_X8_of now12 l1 l2 2) fun c13 =>
  mb (vc 7 l0 (m_X8_numberOf l0 c13)) fun c14 =>
  mp c14
  else if l3 = 3 then
  if s0 = 0 then
  mp ((-9))
  else
  mb (gR 7 8 l0) fun now15 =>
  mb (m_X8_of now15 l1 l2 3) fun c16 =>
  mp c16
  else if l3 = 4 then
  mb (gR 7 8 l0) fun now17 =>
  mb (aI now17 1) fun x18 =>
  mb (vc 7 l0 (m_X8_holds l0 l1 l2 x18)) fun c19 =>
  if c19 = 0 then
  mp 0
  else
  mp 1
  else 
  mp ((-1))
def m_X8_part (l0 : Nat) (l1 : Int32) (l2 : Int32) (l3 : Int32) : Mo Int32 :=
  mb (sI 7 0 l0 0) fun _ =>
  mb (vc 7 l0 (m_X8_isQuery l0 l1)) fun c1 =>
  if c1 = 0 then
  mp ((-1))
  else
  mb (gR 7 8 l0) fun now2 =>
  mb (m_X8_parts now2 l1) fun c3 =>
  mb (m_X8_in (((l2 : Int32).toInt64)) 0 ((((c3 - 1) : Int32).toInt64))) fun c4 =>
  if c4 = 0 then
  mp ((-1))
  else
  mb (gR 7 8 l0) fun now5 =>
  mb (m_X8_of now5 l1 l2 0) fun c6 =>
  if c6 = 2 then
  m_X8_part_J54 l0 l1 l2 l3 1
  else
  m_X8_part_J54 l0 l1 l2 l3 0
def m_X8_takes_J149 (l0 : Nat) (l1 : Int32) (l2 : Int32) (k18 : Int32 → Mo Unit) : Mo Unit :=
  k18 ((l2 + 1))
def m_X8_takes_J97 (l0 : Nat) (l1 : Int32) (l2 : Int32) (l3 : Int32) (l4 : Int32) (s0 : Int32) (s1 : Int32) (s2 : Nat) (k18 : Int32 → Mo Unit) : Mo Unit :=
  mb (sI 7 23 s2 ((s1 ||| s0))) fun _ =>
  if l4 = 2 then
  mb (sI 7 24 l0 l2) fun _ =>
  mb (sI 7 25 l0 l3) fun _ =>
  mb (gR 7 8 l0) fun now10 =>
  mb (m_X8_of now10 l1 l2 2) fun c11 =>
  mb (vc 7 l0 (m_X8_numberOf l0 c11)) fun c12 =>
  mb (sI 7 26 l0 c12) fun _ =>
  mb (gR 7 8 l0) fun now13 =>
  mb (m_X8_of now13 l1 l2 3) fun c14 =>
  mb (sI 7 27 l0 c14) fun _ =>
  m_X8_takes_J149 l0 l1 l2 k18
  else
  m_X8_takes_J149 l0 l1 l2 k18
def m_X8_takes_J75 (l0 : Nat) (l1 : Int32) (l2 : Int32) (l3 : Int32) (l4 : Int32) (s0 : Int32) (s1 : Int32) (s2 : Nat) (k18 : Int32 → Mo Unit) : Mo Unit :=
  mb (sI 7 22 s2 ((s1 ||| s0))) fun _ =>
  mb (gI 7 23 l0) fun due9 =>
  if l4 = 1 then
  m_X8_takes_J97 l0 l1 l2 l3 l4 0 due9 l0 k18
  else
  m_X8_takes_J97 l0 l1 l2 l3 l4 (((1 : Int32) <<< (l2 &&& 31))) due9 l0 k18
def m_X8_takes_B18 (l0 : Nat) (l1 : Int32)  (k18 : Int32 → Mo Unit) (l2 : Int32) : Mo Unit :=
  mb (gR 7 8 l0) fun now1 =>
  mb (m_X8_parts now1 l1) fun c2 =>
  if c2 ≤ l2 then
  mp ()
  else
  mb (gR 7 8 l0) fun now3 =>
  mb (m_X8_of now3 l1 l2 1) fun c4 =>
  mb (vc 7 l0 (m_X8_numberOf l0 c4)) fun c5 =>
  mb (gR 7 8 l0) fun now6 =>
  mb (m_X8_of now6 l1 l2 0) fun c7 =>
  mb (gI 7 22 l0) fun lacks8 =>
  if c7 = 1 then
  m_X8_takes_J75 l0 l1 l2 c5 c7 (((1 : Int32) <<< (c5 &&& 31))) lacks8 l0 k18
  else
  m_X8_takes_J75 l0 l1 l2 c5 c7 0 lacks8 l0 k18
def m_X8_takes (l0 : Nat) (l1 : Int32) : Mo Unit :=
  mb (sI 7 22 l0 0) fun _ =>
  mb (sI 7 23 l0 0) fun _ =>
  mb (sI 7 24 l0 ((-9))) fun _ =>
  lp (fun k s => m_X8_takes_B18 l0 l1 k s) FU 0
def m_X8_stateOf (l0 : Int32) (l1 : Int32) (l2 : Int32) : Mo Int32 :=
  mp ((((((((l0 * 16)) + l1)) * 10)) + l2))
def m_X8_begins (l0 : Nat) : Mo Int32 :=
  mb (m_X8_stateOf 0 0 9) fun c1 =>
  mp c1
def m_X8_isDone (l0 : Nat) (l1 : Int32) : Mo Int32 :=
  if l1 < 0 then
  rZ 0
  else
  mb (gI 7 23 l0) fun due1 =>
  if ((((l1 / 10)) &&& 15)) = due1 then
  rZ 1
  else
  rZ 0
def m_X8_behind_J285 (l4 : Int32) (l5 : Int32) (s0 : Int32)  : Mo Int32 :=
  mb (m_X8_stateOf l4 l5 s0) fun c19 =>
  mp c19
def m_X8_behind_J283 (l4 : Int32) (l5 : Int32)  : Mo Int32 :=
  m_X8_behind_J285 l4 l5 9
def m_X8_behind_J217 (l0 : Nat) (l2 : Int32) (l4 : Int32) (l5 : Int32) (l6 : Int32)  : Mo Int32 :=
  mb (gI 7 24 l0) fun nearPart12 =>
  mb (m_X8_has l5 nearPart12) fun c13 =>
  if c13 = 0 then
  mb (gR 7 19 l0) fun ends14 =>
  mb (aI ends14 l4) fun x15 =>
  mb (gI 7 26 l0) fun nearOther16 =>
  mb (m_X8_has x15 nearOther16) fun c17 =>
  if c17 = 0 then
  mb (gI 7 27 l0) fun nearBy18 =>
  if nearBy18 ≤ l6 then
  m_X8_behind_J283 l4 l5
  else
  if ((l2 - l2 / 10 * 10)) = 9 then
  m_X8_behind_J283 l4 l5
  else
  m_X8_behind_J285 l4 l5 l6
  else
  m_X8_behind_J285 l4 l5 0
  else
  mb (m_X8_stateOf l4 l5 9) fun c20 =>
  mp c20
def m_X8_behind_J162 (l0 : Nat) (l2 : Int32) (l4 : Int32) (l5 : Int32) (s0 : Int32)  : Mo Int32 :=
  mb (gI 7 27 l0) fun nearBy11 =>
  if nearBy11 < s0 then
  m_X8_behind_J217 l0 l2 l4 l5 s0
  else
  if 9 < s0 then
  m_X8_behind_J217 l0 l2 l4 l5 s0
  else
  if ((l2 - l2 / 10 * 10)) = 9 then
  m_X8_behind_J217 l0 l2 l4 l5 s0
  else
  mb (gR 7 19 l0) fun ends21 =>
  mb (aI ends21 l4) fun x22 =>
  mb (gI 7 25 l0) fun nearWord23 =>
  mb (m_X8_has x22 nearWord23) fun c24 =>
  if c24 = 0 then
  m_X8_behind_J217 l0 l2 l4 l5 s0
  else
  mb (gI 7 24 l0) fun nearPart25 =>
  mb (mp ((l5 ||| (((1 : Int32) <<< (nearPart25 &&& 31)))))) fun v26 =>
  m_X8_behind_J217 l0 l2 l4 v26 s0
def m_X8_behind_J118 (l0 : Nat) (l1 : Int32) (l2 : Int32) (l4 : Int32) (l6 : Int32) (l7 : Int32) (s0 : Int32) (s1 : Int32) (k53 : Int32 × Int32 → Mo Int32) : Mo Int32 :=
  mb (mp ((s1 ||| s0))) fun v30 =>
  k53 (v30, (l7 + 1))
def m_X8_behind_J117 (l0 : Nat) (l1 : Int32) (l2 : Int32) (l4 : Int32) (l6 : Int32) (l7 : Int32) (s0 : Int32) (k53 : Int32 × Int32 → Mo Int32) : Mo Int32 :=
  m_X8_behind_J118 l0 l1 l2 l4 l6 l7 0 s0 k53
def m_X8_behind_B53 (l0 : Nat) (l1 : Int32) (l2 : Int32) (l4 : Int32) (l6 : Int32)  (k53 : Int32 × Int32 → Mo Int32) (l5 : Int32) (l7 : Int32) : Mo Int32 :=
  mb (gR 7 8 l0) fun now8 =>
  mb (m_X8_parts now8 l1) fun c9 =>
  if c9 ≤ l7 then
  mb (gI 7 24 l0) fun nearPart10 =>
  if nearPart10 = ((-9)) then
  mb (m_X8_stateOf l4 l5 9) fun c27 =>
  mp c27
  else
  if 9 ≤ l6 then
  m_X8_behind_J162 l0 l2 l4 l5 9
  else
  m_X8_behind_J162 l0 l2 l4 l5 ((l6 + 1))
  else
  mb (gR 7 8 l0) fun now28 =>
  mb (m_X8_of now28 l1 l7 0) fun c29 =>
  if c29 = 0 then
  mb (gR 7 19 l0) fun ends31 =>
  mb (aI ends31 l4) fun x32 =>
  mb (gR 7 8 l0) fun now33 =>
  mb (m_X8_of now33 l1 l7 1) fun c34 =>
  mb (vc 7 l0 (m_X8_numberOf l0 c34)) fun c35 =>
  mb (m_X8_has x32 c35) fun c36 =>
  if c36 = 0 then
  m_X8_behind_J117 l0 l1 l2 l4 l6 l7 l5 k53
  else
  m_X8_behind_J118 l0 l1 l2 l4 l6 l7 (((1 : Int32) <<< (l7 &&& 31))) l5 k53
  else
  m_X8_behind_J117 l0 l1 l2 l4 l6 l7 l5 k53
def m_X8_behind (l0 : Nat) (l1 : Int32) (l2 : Int32) (l3 : Int32) : Mo Int32 :=
  mb (gR 7 20 l0) fun nexts1 =>
  mb (aI nexts1 ((((8 * ((l2 / 160)))) + l3))) fun x2 =>
  mb (mp ((((l2 / 10)) &&& 15))) fun v3 =>
  mb (mp ((l2 - l2 / 10 * 10))) fun v4 =>
  mb (gR 7 19 l0) fun ends5 =>
  mb (aI ends5 x2) fun x6 =>
  mb (gI 7 22 l0) fun lacks7 =>
  if ((x6 &&& lacks7)) = 0 then
  lp (fun k s => m_X8_behind_B53 l0 l1 l2 x2 v4 k s.1 s.2) FU (v3, 0)
  else
  mp ((-9))
def m_X8_nearest_J189 (l0 : Nat) (l1 : Int32) (l3 : Int32) (l4 : Int32) (l5 : Int32) (l6 : Int32) (l7 : Int32) (k59 : Int32 × Int32 → Mo Int32) (k88 : Int32 × Int32 → Mo Int32) (k109 : Int32 × Int32 → Mo Int32) : Mo Int32 :=
  k109 (l4, (l7 + 1))
def m_X8_nearest_B109 (l0 : Nat) (l1 : Int32) (l3 : Int32) (l5 : Int32) (l6 : Int32) (k59 : Int32 × Int32 → Mo Int32) (k88 : Int32 × Int32 → Mo Int32) (k109 : Int32 × Int32 → Mo Int32) (l4 : Int32) (l7 : Int32) : Mo Int32 :=
  if 8 ≤ l7 then
  k88 (l3, l4)
  else
  mb (vc 7 l0 (m_X8_behind l0 l1 l6 l7)) fun c9 =>
  if c9 = ((-9)) then
  m_X8_nearest_J189 l0 l1 l3 l4 l5 l6 l7 k59 k88 k109
  else
  mb (gR 7 29 l0) fun came10 =>
  mb (aJ came10 c9) fun x11 =>
  if 0 ≤ ((lg_cmp x11 0)) then
  m_X8_nearest_J189 l0 l1 l3 l4 l5 l6 l7 k59 k88 k109
  else
  mb (gR 7 29 l0) fun came12 =>
  mb (tJ came12 c9 ((((10 * (((l6 : Int32).toInt64)))) + (((l7 : Int32).toInt64))))) fun _ =>
  mb (gR 7 28 l0) fun queue13 =>
  mb (tJ queue13 l4 (((c9 : Int32).toInt64))) fun _ =>
  mb (vc 7 l0 (m_X8_isDone l0 c9)) fun c14 =>
  if c14 = 0 then
  m_X8_nearest_J189 l0 l1 l3 ((l4 + 1)) l5 l6 l7 k59 k88 k109
  else
  mp c9
def m_X8_nearest_B88 (l0 : Nat) (l1 : Int32) (l5 : Int32) (k59 : Int32 × Int32 → Mo Int32) (k88 : Int32 × Int32 → Mo Int32) (l3 : Int32) (l4 : Int32) : Mo Int32 :=
  if l5 ≤ l3 then
  k59 (l3, l4)
  else
  mb (gR 7 28 l0) fun queue6 =>
  mb (aJ queue6 l3) fun x7 =>
  mb (mp (((x7 : Int64).toInt32))) fun v8 =>
  lp (fun k s => m_X8_nearest_B109 l0 l1 ((l3 + 1)) l5 v8 k59 k88 k s.1 s.2) FU (l4, 0)
def m_X8_nearest_B59 (l0 : Nat) (l1 : Int32)  (k59 : Int32 × Int32 → Mo Int32) (l3 : Int32) (l4 : Int32) : Mo Int32 :=
  if l4 ≤ l3 then
  mp ((-9))
  else
  mb (gI 7 30 l0) fun depth4 =>
  if 60 ≤ depth4 then
  mp ((-9))
  else
  mb (gI 7 30 l0) fun depth5 =>
  mb (sI 7 30 l0 ((depth5 + 1))) fun _ =>
  lp (fun k s => m_X8_nearest_B88 l0 l1 l4 k59 k s.1 s.2) FU (l3, l4)
def m_X8_nearest_B17 (l0 : Nat) (l1 : Int32) (l2 : Int32)  (k17 : Int32 → Mo Int32) (l3 : Int32) : Mo Int32 :=
  if 15520 ≤ l3 then
  mb (gR 7 28 l0) fun queue2 =>
  mb (tJ queue2 0 (((l2 : Int32).toInt64))) fun _ =>
  mb (gR 7 29 l0) fun came3 =>
  mb (tJ came3 l2 0) fun _ =>
  lp (fun k s => m_X8_nearest_B59 l0 l1 k s.1 s.2) FU (0, 1)
  else
  mb (gR 7 29 l0) fun came15 =>
  mb (tJ came15 l3 ((-9))) fun _ =>
  k17 ((l3 + 1))
def m_X8_nearest (l0 : Nat) (l1 : Int32) (l2 : Int32) : Mo Int32 :=
  mb (sI 7 30 l0 0) fun _ =>
  mb (vc 7 l0 (m_X8_isDone l0 l2)) fun c1 =>
  if c1 = 0 then
  lp (fun k s => m_X8_nearest_B17 l0 l1 l2 k s) FU 0
  else
  mp l2
def m_X8_shortest_J57 (l0 : Nat) (l2 : Int32)  : Mo Int32 :=
  if l2 = ((-1)) then
  mb (gI 7 30 l0) fun depth4 =>
  mp depth4
  else
  mp ((-9))
def m_X8_shortest_B80 (l0 : Nat) (l2 : Int32)  (k80 : Int32 × Int32 → Mo Int32) (l3 : Int32) (l4 : Int32) : Mo Int32 :=
  if l4 ≤ l2 then
  mb (gR 7 29 l0) fun came8 =>
  mb (aJ came8 l3) fun x9 =>
  mp ((97 + ((((x9 - x9 / 10 * 10) : Int64).toInt32))))
  else
  mb (gR 7 29 l0) fun came10 =>
  mb (aJ came10 l3) fun x11 =>
  mb (mp ((((x11 / 10) : Int64).toInt32))) fun v12 =>
  k80 (v12, (l4 + (-1)))
def m_X8_shortest (l0 : Nat) (l1 : Int32) (l2 : Int32) : Mo Int32 :=
  mb (sI 7 0 l0 0) fun _ =>
  mb (vc 7 l0 (m_X8_isQuery l0 l1)) fun c1 =>
  if c1 = 0 then
  mp ((-1))
  else
  if ((-1)) ≤ l2 then
  mb (vc 7 l0 (m_X8_takes l0 l1)) fun _ =>
  mb (vc 7 l0 (m_X8_begins l0 )) fun c2 =>
  mb (vc 7 l0 (m_X8_nearest l0 l1 c2)) fun c3 =>
  if c3 = ((-9)) then
  mp ((-9))
  else
  if l2 = ((-1)) then
  m_X8_shortest_J57 l0 l2
  else
  mb (gI 7 30 l0) fun depth5 =>
  if l2 < depth5 then
  mb (gI 7 30 l0) fun depth6 =>
  mb (mp ((depth6 - 1))) fun v7 =>
  lp (fun k s => m_X8_shortest_B80 l0 l2 k s.1 s.2) FU (c3, v7)
  else
  m_X8_shortest_J57 l0 l2
  else
  mp ((-1))
def m_X8_more_J64 (l0 : Nat) (l1 : Int32) (l2 : Int32)  : Mo Int32 :=
  if l2 = ((-9)) then
  mp ((-9))
  else
  mb (vc 7 l0 (m_X8_nearest l0 l1 l2)) fun c5 =>
  if c5 = ((-9)) then
  mp ((-9))
  else
  mb (gI 7 30 l0) fun depth6 =>
  mp depth6
def m_X8_more_B27 (l0 : Nat) (l1 : Int32)  (k27 : Int32 × Int32 → Mo Int32) (l2 : Int32) (l3 : Int32) : Mo Int32 :=
  mb (gR 7 8 l0) fun now3 =>
  mb (aI now3 1) fun x4 =>
  if x4 ≤ l3 then
  m_X8_more_J64 l0 l1 l2
  else
  if l2 = ((-9)) then
  m_X8_more_J64 l0 l1 l2
  else
  mb (gR 7 8 l0) fun now7 =>
  mb (aI now7 ((2 + l3))) fun x8 =>
  mb (vc 7 l0 (m_X8_behind l0 l1 l2 x8)) fun c9 =>
  k27 (c9, (l3 + 1))
def m_X8_more (l0 : Nat) (l1 : Int32) : Mo Int32 :=
  mb (sI 7 0 l0 0) fun _ =>
  mb (vc 7 l0 (m_X8_isQuery l0 l1)) fun c1 =>
  if c1 = 0 then
  mp ((-1))
  else
  mb (vc 7 l0 (m_X8_takes l0 l1)) fun _ =>
  mb (vc 7 l0 (m_X8_begins l0 )) fun c2 =>
  lp (fun k s => m_X8_more_B27 l0 l1 k s.1 s.2) FU (c2, 0)
def m_X8_many_J25   : Mo Int64 :=
  mp ((-1))
def m_X8_many_J259 (l0 : Nat) (l5 : Int32) (s0 : Int64) (s1 : Int64) (k225 : Int64 × Int32 → Mo Int64) : Mo Int64 :=
  mb (mp ((s1 + s0))) fun v7 =>
  k225 (v7, (l5 + 1))
def m_X8_many_B225 (l0 : Nat)  (k225 : Int64 × Int32 → Mo Int64) (l3 : Int64) (l5 : Int32) : Mo Int64 :=
  mb (gI 7 17 l0) fun nodeMany5 =>
  if ((160 * nodeMany5)) ≤ l5 then
  mp l3
  else
  mb (vc 7 l0 (m_X8_isDone l0 l5)) fun c6 =>
  if c6 = 0 then
  m_X8_many_J259 l0 l5 0 l3 k225
  else
  mb (gR 7 28 l0) fun queue8 =>
  mb (aJ queue8 l5) fun x9 =>
  m_X8_many_J259 l0 l5 x9 l3 k225
def m_X8_many_B186 (l0 : Nat) (l1 : Int32) (l2 : Int32) (l3 : Int32) (k68 : Int32 → Mo Int64) (k186 : Int32 → Mo Int64) (l4 : Int32) : Mo Int64 :=
  if 15520 ≤ l4 then
  k68 ((l3 + 1))
  else
  mb (gR 7 28 l0) fun queue11 =>
  mb (gR 7 29 l0) fun came12 =>
  mb (aJ came12 l4) fun x13 =>
  mb (tJ queue11 l4 x13) fun _ =>
  k186 ((l4 + 1))
def m_X8_many_J177 (l0 : Nat) (l1 : Int32) (l2 : Int32) (l3 : Int32) (l4 : Int32) (k68 : Int32 → Mo Int64) (k101 : Int32 → Mo Int64) : Mo Int64 :=
  k101 ((l4 + 1))
def m_X8_many_J171 (l0 : Nat) (l1 : Int32) (l2 : Int32) (l3 : Int32) (l4 : Int32) (l5 : Int32) (k68 : Int32 → Mo Int64) (k101 : Int32 → Mo Int64) (k117 : Int32 → Mo Int64) : Mo Int64 :=
  k117 ((l5 + 1))
def m_X8_many_B117 (l0 : Nat) (l1 : Int32) (l2 : Int32) (l3 : Int32) (l4 : Int32) (k68 : Int32 → Mo Int64) (k101 : Int32 → Mo Int64) (k117 : Int32 → Mo Int64) (l5 : Int32) : Mo Int64 :=
  if 8 ≤ l5 then
  m_X8_many_J177 l0 l1 l2 l3 l4 k68 k101
  else
  mb (gR 7 28 l0) fun queue14 =>
  mb (aJ queue14 l4) fun x15 =>
  if ((lg_cmp x15 0)) ≤ 0 then
  m_X8_many_J177 l0 l1 l2 l3 l4 k68 k101
  else
  mb (vc 7 l0 (m_X8_behind l0 l1 l4 l5)) fun c16 =>
  if c16 = ((-9)) then
  m_X8_many_J171 l0 l1 l2 l3 l4 l5 k68 k101 k117
  else
  mb (gR 7 29 l0) fun came17 =>
  mb (aJ came17 c16) fun x18 =>
  mb (gR 7 28 l0) fun queue19 =>
  mb (aJ queue19 l4) fun x20 =>
  mb (tJ came17 c16 ((x18 + x20))) fun _ =>
  m_X8_many_J171 l0 l1 l2 l3 l4 l5 k68 k101 k117
def m_X8_many_B101 (l0 : Nat) (l1 : Int32) (l2 : Int32) (l3 : Int32) (k68 : Int32 → Mo Int64) (k101 : Int32 → Mo Int64) (l4 : Int32) : Mo Int64 :=
  mb (gI 7 17 l0) fun nodeMany10 =>
  if ((160 * nodeMany10)) ≤ l4 then
  lp (fun k s => m_X8_many_B186 l0 l1 l2 l3 k68 k s) FU 0
  else
  lp (fun k s => m_X8_many_B117 l0 l1 l2 l3 l4 k68 k101 k s) FU 0
def m_X8_many_B76 (l0 : Nat) (l1 : Int32) (l2 : Int32) (l3 : Int32) (k68 : Int32 → Mo Int64) (k76 : Int32 → Mo Int64) (l4 : Int32) : Mo Int64 :=
  if 15520 ≤ l4 then
  lp (fun k s => m_X8_many_B101 l0 l1 l2 l3 k68 k s) FU 0
  else
  mb (gR 7 29 l0) fun came21 =>
  mb (tJ came21 l4 0) fun _ =>
  k76 ((l4 + 1))
def m_X8_many_B68 (l0 : Nat) (l1 : Int32) (l2 : Int32)  (k68 : Int32 → Mo Int64) (l3 : Int32) : Mo Int64 :=
  if l2 ≤ l3 then
  lp (fun k s => m_X8_many_B225 l0 k s.1 s.2) FU (0, 0)
  else
  lp (fun k s => m_X8_many_B76 l0 l1 l2 l3 k68 k s) FU 0
def m_X8_many_B36 (l0 : Nat) (l1 : Int32) (l2 : Int32)  (k36 : Int32 → Mo Int64) (l3 : Int32) : Mo Int64 :=
  if 15520 ≤ l3 then
  mb (gR 7 28 l0) fun queue3 =>
  mb (vc 7 l0 (m_X8_begins l0 )) fun c4 =>
  mb (tJ queue3 c4 1) fun _ =>
  lp (fun k s => m_X8_many_B68 l0 l1 l2 k s) FU 0
  else
  mb (gR 7 28 l0) fun queue22 =>
  mb (tJ queue22 l3 0) fun _ =>
  k36 ((l3 + 1))
def m_X8_many (l0 : Nat) (l1 : Int32) (l2 : Int32) : Mo Int64 :=
  mb (sI 7 0 l0 0) fun _ =>
  mb (vc 7 l0 (m_X8_isQuery l0 l1)) fun c1 =>
  if c1 = 0 then
  m_X8_many_J25 
  else
  mb (m_X8_in (((l2 : Int32).toInt64)) 0 12) fun c2 =>
  if c2 = 0 then
  m_X8_many_J25 
  else
  mb (vc 7 l0 (m_X8_takes l0 l1)) fun _ =>
  lp (fun k s => m_X8_many_B36 l0 l1 l2 k s) FU 0
def m_X8_word (l0 : Nat) (l1 : Int32) (l2 : Int32) : Mo Int32 :=
  mb (sI 7 0 l0 0) fun _ =>
  mb (gI 7 15 l0) fun wordMany1 =>
  mb (m_X8_in (((l1 : Int32).toInt64)) 0 ((((wordMany1 - 1) : Int32).toInt64))) fun c2 =>
  if c2 = 0 then
  mp ((-1))
  else
  if ((-1)) ≤ l2 then
  mb (gR 7 14 l0) fun words3 =>
  mb (aI words3 l1) fun x4 =>
  mb (mp ((x4 / 1048576))) fun v5 =>
  if l2 = ((-1)) then
  mp v5
  else
  if v5 ≤ l2 then
  mp ((-9))
  else
  mb (gR 7 14 l0) fun words6 =>
  mb (aI words6 l1) fun x7 =>
  mb (m_X8_letterOf x7 l2) fun c8 =>
  mp ((97 + c8))
  else
  mp ((-1))
def m_X8_hit_J89 (l0 : Nat) (l1 : Int32) (l3 : Int32) (l4 : Int32) (k54 : Int32 × Int32 → Mo Int32) : Mo Int32 :=
  k54 (l3, (l4 + 1))
def m_X8_hit_B54 (l0 : Nat) (l1 : Int32)  (k54 : Int32 × Int32 → Mo Int32) (l3 : Int32) (l4 : Int32) : Mo Int32 :=
  mb (gR 7 8 l0) fun now3 =>
  mb (aI now3 1) fun x4 =>
  if x4 ≤ l4 then
  mp ((-9))
  else
  mb (gR 7 21 l0) fun ended5 =>
  mb (aI ended5 l4) fun x6 =>
  mb (m_X8_has x6 l1) fun c7 =>
  if c7 = 0 then
  m_X8_hit_J89 l0 l1 l3 l4 k54
  else
  if l3 = 0 then
  mp l4
  else
  m_X8_hit_J89 l0 l1 ((l3 + (-1))) l4 k54
def m_X8_hit (l0 : Nat) (l1 : Int32) (l2 : Int32) : Mo Int32 :=
  mb (sI 7 0 l0 0) fun _ =>
  mb (gI 7 15 l0) fun wordMany1 =>
  mb (m_X8_in (((l1 : Int32).toInt64)) 0 ((((wordMany1 - 1) : Int32).toInt64))) fun c2 =>
  if c2 = 0 then
  mp ((-1))
  else
  if ((-1)) ≤ l2 then
  mb (vc 7 l0 (m_X8_layEnds l0 )) fun _ =>
  if l2 = ((-1)) then
  mb (gR 7 8 l0) fun now8 =>
  mb (aI now8 1) fun x9 =>
  mb (vc 7 l0 (m_X8_hits l0 l1 x9)) fun c10 =>
  mp c10
  else
  lp (fun k s => m_X8_hit_B54 l0 l1 k s.1 s.2) FU (l2, 0)
  else
  mp ((-1))
def m_X8_node (l0 : Nat) (l1 : Int32) (l2 : Int32) : Mo Int32 :=
  mb (sI 7 0 l0 0) fun _ =>
  mb (gI 7 17 l0) fun nodeMany1 =>
  mb (m_X8_in (((l1 : Int32).toInt64)) 0 ((((nodeMany1 - 1) : Int32).toInt64))) fun c2 =>
  if c2 = 0 then
  mp ((-1))
  else
  mb (gR 7 16 l0) fun nodes3 =>
  mb (aI nodes3 l1) fun x4 =>
  mb (mp ((x4 / 1048576))) fun v5 =>
  if l2 = 0 then
  mp v5
  else if l2 = 1 then
  if v5 = 0 then
  mp ((-9))
  else
  mb (gR 7 16 l0) fun nodes6 =>
  mb (aI nodes6 l1) fun x7 =>
  mp ((97 + ((x7 &&& 7))))
  else if l2 = 2 then
  if v5 = 0 then
  mp ((-9))
  else
  mb (gR 7 16 l0) fun nodes8 =>
  mb (aI nodes8 l1) fun x9 =>
  mb (m_X8_firsts x9 ((v5 - 1))) fun c10 =>
  mb (vc 7 l0 (m_X8_nodeOf l0 c10)) fun c11 =>
  mp c11
  else if l2 = 3 then
  mb (gR 7 18 l0) fun fails12 =>
  mb (aI fails12 l1) fun x13 =>
  mp x13
  else if l2 = 4 then
  mb (gR 7 19 l0) fun ends14 =>
  mb (aI ends14 l1) fun x15 =>
  mp x15
  else 
  mp ((-1))
def m_X8_next (l0 : Nat) (l1 : Int32) (l2 : Int32) : Mo Int32 :=
  mb (sI 7 0 l0 0) fun _ =>
  mb (gI 7 17 l0) fun nodeMany1 =>
  mb (m_X8_in (((l1 : Int32).toInt64)) 0 ((((nodeMany1 - 1) : Int32).toInt64))) fun c2 =>
  if c2 = 0 then
  mp ((-1))
  else
  mb (m_X8_in (((l2 : Int32).toInt64)) 97 104) fun c3 =>
  if c3 = 0 then
  mp ((-1))
  else
  mb (gR 7 20 l0) fun nexts4 =>
  mb (aI nexts4 ((((((8 * l1)) + l2)) - 97))) fun x5 =>
  mp x5
def m_X8_letter (l0 : Nat) (l1 : Int32) : Mo Int32 :=
  mb (sI 7 0 l0 0) fun _ =>
  mb (gR 7 8 l0) fun now1 =>
  mb (aI now1 1) fun x2 =>
  mb (m_X8_in (((l1 : Int32).toInt64)) 0 ((((x2 - 1) : Int32).toInt64))) fun c3 =>
  if c3 = 0 then
  mp ((-1))
  else
  mb (gR 7 8 l0) fun now4 =>
  mb (aI now4 ((2 + l1))) fun x5 =>
  mp ((97 + x5))
def m_X8_allHits_B4 (l0 : Nat)  (k4 : Int32 × Int32 → Mo Int32) (l1 : Int32) (l2 : Int32) : Mo Int32 :=
  mb (gI 7 15 l0) fun wordMany1 =>
  if wordMany1 ≤ l2 then
  mp l1
  else
  mb (gR 7 8 l0) fun now2 =>
  mb (aI now2 1) fun x3 =>
  mb (vc 7 l0 (m_X8_hits l0 l2 x3)) fun c4 =>
  mb (mp ((l1 + c4))) fun v5 =>
  k4 (v5, (l2 + 1))
def m_X8_allHits (l0 : Nat) : Mo Int32 :=
  lp (fun k s => m_X8_allHits_B4 l0 k s.1 s.2) FU (0, 0)
def m_X8_now_J32 (l0 : Nat) (l1 : Int32)  : Mo Int32 :=
  if l1 = 0 then
  mb (gR 7 8 l0) fun now3 =>
  mb (aI now3 1) fun x4 =>
  mb (vc 7 l0 (m_X8_nodeAt l0 x4)) fun c5 =>
  mp c5
  else
  mb (vc 7 l0 (m_X8_allHits l0 )) fun c2 =>
  mp c2
def m_X8_now_J186 (l0 : Nat) (l1 : Int32) (l3 : Int32) (s0 : Int32) (s1 : Int32) (k58 : Int32 × Int32 → Mo Int32) : Mo Int32 :=
  mb (mp ((s1 ||| s0))) fun v17 =>
  k58 (v17, (l3 + 1))
def m_X8_now_J171 (l0 : Nat) (l1 : Int32) (l2 : Int32) (l3 : Int32) (s0 : Int32) (k58 : Int32 × Int32 → Mo Int32) : Mo Int32 :=
  if s0 = 0 then
  m_X8_now_J186 l0 l1 l3 0 l2 k58
  else
  m_X8_now_J186 l0 l1 l3 (((1 : Int32) <<< (l3 &&& 31))) l2 k58
def m_X8_now_J162 (l0 : Nat) (l1 : Int32) (l2 : Int32) (l3 : Int32) (k58 : Int32 × Int32 → Mo Int32) : Mo Int32 :=
  m_X8_now_J171 l0 l1 l2 l3 0 k58
def m_X8_now_J139 (l0 : Nat) (l1 : Int32) (l2 : Int32) (l3 : Int32) (k58 : Int32 × Int32 → Mo Int32) : Mo Int32 :=
  m_X8_now_J171 l0 l1 l2 l3 0 k58
def m_X8_now_J108 (l0 : Nat) (l1 : Int32) (l2 : Int32) (l3 : Int32) (l4 : Int32) (s0 : Int32) (k58 : Int32 × Int32 → Mo Int32) : Mo Int32 :=
  if l1 = 1 then
  m_X8_now_J171 l0 l1 l2 l3 l4 k58
  else
  if l1 = 2 then
  if l4 = 0 then
  m_X8_now_J139 l0 l1 l2 l3 k58
  else
  if s0 = 0 then
  m_X8_now_J171 l0 l1 l2 l3 1 k58
  else
  m_X8_now_J139 l0 l1 l2 l3 k58
  else
  if l1 = 3 then
  if s0 = 0 then
  m_X8_now_J162 l0 l1 l2 l3 k58
  else
  if l4 = 0 then
  m_X8_now_J171 l0 l1 l2 l3 1 k58
  else
  m_X8_now_J162 l0 l1 l2 l3 k58
  else
  mb (vc 7 l0 (m_X8_isAsked l0 l3)) fun c16 =>
  m_X8_now_J171 l0 l1 l2 l3 c16 k58
def m_X8_now_B58 (l0 : Nat) (l1 : Int32)  (k58 : Int32 × Int32 → Mo Int32) (l2 : Int32) (l3 : Int32) : Mo Int32 :=
  mb (gR 7 8 l0) fun now6 =>
  mb (aI now6 0) fun x7 =>
  if x7 ≤ l3 then
  mp l2
  else
  mb (gR 7 8 l0) fun now8 =>
  mb (aI now8 1) fun x9 =>
  mb (vc 7 l0 (m_X8_matches l0 l3 x9)) fun c10 =>
  mb (gR 7 8 l0) fun now11 =>
  mb (aI now11 1) fun x12 =>
  if x12 = 0 then
  m_X8_now_J108 l0 l1 l2 l3 c10 c10 k58
  else
  mb (gR 7 8 l0) fun now13 =>
  mb (aI now13 1) fun x14 =>
  mb (vc 7 l0 (m_X8_matches l0 l3 ((x14 - 1)))) fun c15 =>
  m_X8_now_J108 l0 l1 l2 l3 c10 c15 k58
def m_X8_now (l0 : Nat) (l1 : Int32) : Mo Int32 :=
  mb (sI 7 0 l0 0) fun _ =>
  mb (m_X8_in (((l1 : Int32).toInt64)) 0 5) fun c1 =>
  if c1 = 0 then
  mp ((-1))
  else
  mb (vc 7 l0 (m_X8_layEnds l0 )) fun _ =>
  if l1 = 0 then
  m_X8_now_J32 l0 l1
  else
  if l1 = 5 then
  m_X8_now_J32 l0 l1
  else
  lp (fun k s => m_X8_now_B58 l0 l1 k s.1 s.2) FU (0, 0)
def m_X8_keep_B19 (l0 : Nat) (l1 : Int32)  (k19 : Int32 → Mo Int32) (l2 : Int32) : Mo Int32 :=
  if 178 ≤ l2 then
  mb (gR 7 12 l0) fun isKept2 =>
  mb (tZ isKept2 l1 1) fun _ =>
  mb (gR 7 8 l0) fun now3 =>
  mb (aI now3 0) fun x4 =>
  mp x4
  else
  mb (gR 7 13 l0) fun kept5 =>
  mb (gR 7 8 l0) fun now6 =>
  mb (aI now6 l2) fun x7 =>
  mb (tI kept5 ((((178 * l1)) + l2)) x7) fun _ =>
  k19 ((l2 + 1))
def m_X8_keep (l0 : Nat) (l1 : Int32) : Mo Int32 :=
  mb (sI 7 0 l0 0) fun _ =>
  mb (m_X8_in (((l1 : Int32).toInt64)) 0 1) fun c1 =>
  if c1 = 0 then
  mp ((-1))
  else
  lp (fun k s => m_X8_keep_B19 l0 l1 k s) FU 0
def m_X8_back_B31 (l0 : Nat) (l1 : Int32)  (k31 : Int32 → Mo Int32) (l2 : Int32) : Mo Int32 :=
  if 178 ≤ l2 then
  mb (sI 7 11 l0 0) fun _ =>
  mb (vc 7 l0 (m_X8_make l0 )) fun _ =>
  mb (gR 7 8 l0) fun now4 =>
  mb (aI now4 0) fun x5 =>
  mp x5
  else
  mb (gR 7 8 l0) fun now6 =>
  mb (gR 7 13 l0) fun kept7 =>
  mb (aI kept7 ((((178 * l1)) + l2))) fun x8 =>
  mb (tI now6 l2 x8) fun _ =>
  k31 ((l2 + 1))
def m_X8_back (l0 : Nat) (l1 : Int32) : Mo Int32 :=
  mb (sI 7 0 l0 0) fun _ =>
  mb (m_X8_in (((l1 : Int32).toInt64)) 0 1) fun c1 =>
  if c1 = 0 then
  mp ((-1))
  else
  mb (gR 7 12 l0) fun isKept2 =>
  mb (aZ isKept2 l1) fun x3 =>
  if x3 = 0 then
  mp ((-2))
  else
  lp (fun k s => m_X8_back_B31 l0 l1 k s) FU 0
def m_X8_count (l0 : Nat) (l1 : Int32) : Mo Int32 :=
  mb (sI 7 0 l0 0) fun _ =>
  if l1 = 0 then
  mb (gR 7 8 l0) fun now1 =>
  mb (aI now1 0) fun x2 =>
  mp x2
  else if l1 = 1 then
  mb (gI 7 15 l0) fun wordMany3 =>
  mp wordMany3
  else if l1 = 2 then
  mb (gI 7 17 l0) fun nodeMany4 =>
  mp nodeMany4
  else if l1 = 3 then
  mb (gR 7 8 l0) fun now5 =>
  mb (aI now5 1) fun x6 =>
  mp x6
  else if l1 = 4 then
  mb (gI 7 11 l0) fun acts7 =>
  mp acts7
  else if l1 = 5 then
  mb (gI 7 2 l0) fun typed8 =>
  mp typed8
  else 
  mp ((-1))
/-- the script, from outside the memory -/
def sc (xs : Nat → Int32) (L : Nat) (i : Int32) : Mo Int32 := fun w => if ¬ i < 0 ∧ i.toNatClampNeg < L then some (xs i.toNatClampNeg, w) else none
def m_L_law_J666 (L : Nat) (xs : Nat → Int32) (l1 : Nat) (l2 : Nat) (l3 : Int32) (k18 : Int32 → Mo Int32) : Mo Int32 :=
  k18 ((l3 + 4))
def m_L_law_B18 (L : Nat) (xs : Nat → Int32) (l1 : Nat) (l2 : Nat)  (k18 : Int32 → Mo Int32) (l3 : Int32) : Mo Int32 :=
  if ((((Int32.ofNat L)) - 4)) < l3 then
  mp 1
  else
  mb (sc xs L l3) fun x3 =>
  if ((x3 &&& 31)) = 0 then
  mb (sc xs L ((l3 + 1))) fun x4 =>
  mb (vc 6 l1 (m_X7_type l1 x4)) fun c5 =>
  mb (sc xs L ((l3 + 1))) fun x6 =>
  mb (vc 7 l2 (m_X8_type l2 x6)) fun c7 =>
  if c5 = c7 then
  m_L_law_J666 L xs l1 l2 l3 k18
  else
  mz
  else if ((x3 &&& 31)) = 1 then
  mb (vc 6 l1 (m_X7_clear l1 )) fun c8 =>
  mb (vc 7 l2 (m_X8_clear l2 )) fun c9 =>
  if c8 = c9 then
  m_L_law_J666 L xs l1 l2 l3 k18
  else
  mz
  else if ((x3 &&& 31)) = 2 then
  mb (vc 6 l1 (m_X7_adds l1 )) fun c10 =>
  mb (vc 7 l2 (m_X8_adds l2 )) fun c11 =>
  if c10 = c11 then
  m_L_law_J666 L xs l1 l2 l3 k18
  else
  mz
  else if ((x3 &&& 31)) = 3 then
  mb (sc xs L ((l3 + 1))) fun x12 =>
  mb (vc 6 l1 (m_X7_drops l1 x12)) fun c13 =>
  mb (sc xs L ((l3 + 1))) fun x14 =>
  mb (vc 7 l2 (m_X8_drops l2 x14)) fun c15 =>
  if c13 = c15 then
  m_L_law_J666 L xs l1 l2 l3 k18
  else
  mz
  else if ((x3 &&& 31)) = 4 then
  mb (sc xs L ((l3 + 1))) fun x16 =>
  mb (vc 6 l1 (m_X7_feeds l1 x16)) fun c17 =>
  mb (sc xs L ((l3 + 1))) fun x18 =>
  mb (vc 7 l2 (m_X8_feeds l2 x18)) fun c19 =>
  if c17 = c19 then
  m_L_law_J666 L xs l1 l2 l3 k18
  else
  mz
  else if ((x3 &&& 31)) = 5 then
  mb (vc 6 l1 (m_X7_cuts l1 )) fun c20 =>
  mb (vc 7 l2 (m_X8_cuts l2 )) fun c21 =>
  if c20 = c21 then
  m_L_law_J666 L xs l1 l2 l3 k18
  else
  mz
  else if ((x3 &&& 31)) = 6 then
  mb (vc 6 l1 (m_X7_undo l1 )) fun c22 =>
  mb (vc 7 l2 (m_X8_undo l2 )) fun c23 =>
  if c22 = c23 then
  m_L_law_J666 L xs l1 l2 l3 k18
  else
  mz
  else if ((x3 &&& 31)) = 7 then
  mb (sc xs L ((l3 + 1))) fun x24 =>
  mb (sc xs L ((l3 + 2))) fun x25 =>
  mb (vc 6 l1 (m_X7_query l1 x24 x25)) fun c26 =>
  mb (sc xs L ((l3 + 1))) fun x27 =>
  mb (sc xs L ((l3 + 2))) fun x28 =>
  mb (vc 7 l2 (m_X8_query l2 x27 x28)) fun c29 =>
  if c26 = c29 then
  m_L_law_J666 L xs l1 l2 l3 k18
  else
  mz
  else if ((x3 &&& 31)) = 8 then
  mb (sc xs L ((l3 + 1))) fun x30 =>
  mb (sc xs L ((l3 + 2))) fun x31 =>
  mb (sc xs L ((l3 + 3))) fun x32 =>
  mb (vc 6 l1 (m_X7_part l1 x30 x31 x32)) fun c33 =>
  mb (sc xs L ((l3 + 1))) fun x34 =>
  mb (sc xs L ((l3 + 2))) fun x35 =>
  mb (sc xs L ((l3 + 3))) fun x36 =>
  mb (vc 7 l2 (m_X8_part l2 x34 x35 x36)) fun c37 =>
  if c33 = c37 then
  m_L_law_J666 L xs l1 l2 l3 k18
  else
  mz
  else if ((x3 &&& 31)) = 9 then
  mb (sc xs L ((l3 + 1))) fun x38 =>
  mb (sc xs L ((l3 + 2))) fun x39 =>
  mb (vc 6 l1 (m_X7_shortest l1 x38 x39)) fun c40 =>
  mb (sc xs L ((l3 + 1))) fun x41 =>
  mb (sc xs L ((l3 + 2))) fun x42 =>
  mb (vc 7 l2 (m_X8_shortest l2 x41 x42)) fun c43 =>
  if c40 = c43 then
  m_L_law_J666 L xs l1 l2 l3 k18
  else
  mz
  else if ((x3 &&& 31)) = 10 then
  mb (sc xs L ((l3 + 1))) fun x44 =>
  mb (vc 6 l1 (m_X7_more l1 x44)) fun c45 =>
  mb (sc xs L ((l3 + 1))) fun x46 =>
  mb (vc 7 l2 (m_X8_more l2 x46)) fun c47 =>
  if c45 = c47 then
  m_L_law_J666 L xs l1 l2 l3 k18
  else
  mz
  else if ((x3 &&& 31)) = 11 then
  mb (sc xs L ((l3 + 1))) fun x48 =>
  mb (sc xs L ((l3 + 2))) fun x49 =>
  mb (vc 6 l1 (m_X7_many l1 x48 x49)) fun c50 =>
  mb (sc xs L ((l3 + 1))) fun x51 =>
  mb (sc xs L ((l3 + 2))) fun x52 =>
  mb (vc 7 l2 (m_X8_many l2 x51 x52)) fun c53 =>
  if ((lg_cmp c50 c53)) = 0 then
  m_L_law_J666 L xs l1 l2 l3 k18
  else
  mz
  else if ((x3 &&& 31)) = 12 then
  mb (sc xs L ((l3 + 1))) fun x54 =>
  mb (sc xs L ((l3 + 2))) fun x55 =>
  mb (vc 6 l1 (m_X7_word l1 x54 x55)) fun c56 =>
  mb (sc xs L ((l3 + 1))) fun x57 =>
  mb (sc xs L ((l3 + 2))) fun x58 =>
  mb (vc 7 l2 (m_X8_word l2 x57 x58)) fun c59 =>
  if c56 = c59 then
  m_L_law_J666 L xs l1 l2 l3 k18
  else
  mz
  else if ((x3 &&& 31)) = 13 then
  mb (sc xs L ((l3 + 1))) fun x60 =>
  mb (sc xs L ((l3 + 2))) fun x61 =>
  mb (vc 6 l1 (m_X7_hit l1 x60 x61)) fun c62 =>
  mb (sc xs L ((l3 + 1))) fun x63 =>
  mb (sc xs L ((l3 + 2))) fun x64 =>
  mb (vc 7 l2 (m_X8_hit l2 x63 x64)) fun c65 =>
  if c62 = c65 then
  m_L_law_J666 L xs l1 l2 l3 k18
  else
  mz
  else if ((x3 &&& 31)) = 14 then
  mb (sc xs L ((l3 + 1))) fun x66 =>
  mb (sc xs L ((l3 + 2))) fun x67 =>
  mb (vc 6 l1 (m_X7_node l1 x66 x67)) fun c68 =>
  mb (sc xs L ((l3 + 1))) fun x69 =>
  mb (sc xs L ((l3 + 2))) fun x70 =>
  mb (vc 7 l2 (m_X8_node l2 x69 x70)) fun c71 =>
  if c68 = c71 then
  m_L_law_J666 L xs l1 l2 l3 k18
  else
  mz
  else if ((x3 &&& 31)) = 15 then
  mb (sc xs L ((l3 + 1))) fun x72 =>
  mb (sc xs L ((l3 + 2))) fun x73 =>
  mb (vc 6 l1 (m_X7_next l1 x72 x73)) fun c74 =>
  mb (sc xs L ((l3 + 1))) fun x75 =>
  mb (sc xs L ((l3 + 2))) fun x76 =>
  mb (vc 7 l2 (m_X8_next l2 x75 x76)) fun c77 =>
  if c74 = c77 then
  m_L_law_J666 L xs l1 l2 l3 k18
  else
  mz
  else if ((x3 &&& 31)) = 16 then
  mb (sc xs L ((l3 + 1))) fun x78 =>
  mb (vc 6 l1 (m_X7_letter l1 x78)) fun c79 =>
  mb (sc xs L ((l3 + 1))) fun x80 =>
  mb (vc 7 l2 (m_X8_letter l2 x80)) fun c81 =>
  if c79 = c81 then
  m_L_law_J666 L xs l1 l2 l3 k18
  else
  mz
  else if ((x3 &&& 31)) = 17 then
  mb (sc xs L ((l3 + 1))) fun x82 =>
  mb (vc 6 l1 (m_X7_now l1 x82)) fun c83 =>
  mb (sc xs L ((l3 + 1))) fun x84 =>
  mb (vc 7 l2 (m_X8_now l2 x84)) fun c85 =>
  if c83 = c85 then
  m_L_law_J666 L xs l1 l2 l3 k18
  else
  mz
  else if ((x3 &&& 31)) = 18 then
  mb (sc xs L ((l3 + 1))) fun x86 =>
  mb (vc 6 l1 (m_X7_keep l1 x86)) fun c87 =>
  mb (sc xs L ((l3 + 1))) fun x88 =>
  mb (vc 7 l2 (m_X8_keep l2 x88)) fun c89 =>
  if c87 = c89 then
  m_L_law_J666 L xs l1 l2 l3 k18
  else
  mz
  else if ((x3 &&& 31)) = 19 then
  mb (sc xs L ((l3 + 1))) fun x90 =>
  mb (vc 6 l1 (m_X7_back l1 x90)) fun c91 =>
  mb (sc xs L ((l3 + 1))) fun x92 =>
  mb (vc 7 l2 (m_X8_back l2 x92)) fun c93 =>
  if c91 = c93 then
  m_L_law_J666 L xs l1 l2 l3 k18
  else
  mz
  else if ((x3 &&& 31)) = 20 then
  mb (sc xs L ((l3 + 1))) fun x94 =>
  mb (vc 6 l1 (m_X7_count l1 x94)) fun c95 =>
  mb (sc xs L ((l3 + 1))) fun x96 =>
  mb (vc 7 l2 (m_X8_count l2 x96)) fun c97 =>
  if c95 = c97 then
  m_L_law_J666 L xs l1 l2 l3 k18
  else
  mz
  else 
  m_L_law_J666 L xs l1 l2 l3 k18
def m_L_law (L : Nat) (xs : Nat → Int32) : Mo Int32 :=
  mb (nO 6) fun p1 =>
  mb (m_X7_init p1) fun _ =>
  mb (nO 7) fun p2 =>
  mb (m_X8_init p2) fun _ =>
  lp (fun k s => m_L_law_B18 L xs p1 p2 k s) FU 0
