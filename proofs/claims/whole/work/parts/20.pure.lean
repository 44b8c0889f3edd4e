def fX0_empty : Option (Int32) :=
  some 0
def fX7_has (p1 : Int32) (p2 : Int32) : Option (Int32) :=
  if ((p1 >>> (p2 &&& 31)) &&& 1) = 0 then
    some 0
  else
    some 1
def fX0_holds (c_kept : Int32) (p1 : Int32) : Option (Int32) :=
  if p1 < 0 then
    some 0
  else
    if 2 ≤ p1 then
      some 0
    else
      (fX7_has c_kept p1).bind fun r_3 =>
      if r_3 = 0 then
        some 0
      else
        some 1
def fX3_copyRow_L1 (nf : Nat) (ng : Nat) (f_ : Nat → Int32) : Nat → Int32 → (Nat → Int32) → Option (Int32 × (Nat → Int32))
  | 0, _, _ => none
  | fu + 1, v2_1, g__2 =>
    if (Int32.ofNat nf) ≤ v2_1 then
      some (v2_1, g__2)
    else
      if (Int32.ofNat ng) ≤ v2_1 then
        some (v2_1, g__2)
      else
        gd (inB v2_1 nf = true) <|
        gd (inB v2_1 ng = true) <|
        bd (upd g__2 v2_1.toNatClampNeg (f_ v2_1.toNatClampNeg)) fun g__5 =>
        bd (v2_1 + 1) fun v2_6 =>
        fX3_copyRow_L1 nf ng f_ fu v2_6 g__5
def fX3_copyRow (nf : Nat) (ng : Nat) (f_ : Nat → Int32) (g_ : Nat → Int32) : Option (Nat → Int32) :=
  (fX3_copyRow_L1 nf ng f_ 500 0 g_).bind fun z_7 =>
  some z_7.2
def fX3_copyFrom (c_priorities : Nat → Int32) (c_names : Nat → Int32) (c_wants : Nat → Int32) (c_blocks : Nat → Int32) (c_upTo : Nat → Int32) (c_clashedTo : Nat → Int32) (c_zoneSets : Nat → Int32) (c_places : Nat → Int32) (c_notices : Nat → Int32) (c_news : Nat → Int32) (d_switches : Int32) (d_hosts : Int32) (d_renewing : Int32) (d_priorities : Nat → Int32) (d_names : Nat → Int32) (d_wants : Nat → Int32) (d_blocks : Nat → Int32) (d_upTo : Nat → Int32) (d_clashedTo : Nat → Int32) (d_zoneSets : Nat → Int32) (d_places : Nat → Int32) (d_notices : Nat → Int32) (d_news : Nat → Int32) : Option (Int32 × Int32 × Int32 × (Nat → Int32) × (Nat → Int32) × (Nat → Int32) × (Nat → Int32) × (Nat → Int32) × (Nat → Int32) × (Nat → Int32) × (Nat → Int32) × (Nat → Int32) × (Nat → Int32)) :=
  gd ((d_renewing = 0 ∨ d_renewing = 1)) <|
  (fX3_copyRow 6 6 d_priorities c_priorities).bind fun z_1 =>
  (fX3_copyRow 6 6 d_names c_names).bind fun z_2 =>
  (fX3_copyRow 6 6 d_wants c_wants).bind fun z_3 =>
  (fX3_copyRow 6 6 d_blocks c_blocks).bind fun z_4 =>
  (fX3_copyRow 6 6 d_upTo c_upTo).bind fun z_5 =>
  (fX3_copyRow 6 6 d_clashedTo c_clashedTo).bind fun z_6 =>
  (fX3_copyRow 24 24 d_zoneSets c_zoneSets).bind fun z_7 =>
  (fX3_copyRow 8 8 d_places c_places).bind fun z_8 =>
  (fX3_copyRow 8 8 d_notices c_notices).bind fun z_9 =>
  (fX3_copyRow 8 8 d_news c_news).bind fun z_10 =>
  some (d_switches, d_hosts, d_renewing, z_1, z_2, z_3, z_4, z_5, z_6, z_7, z_8, z_9, z_10)
def fX0_store (c_nets : Nat → NetT) (c_kept : Int32) (d_switches : Int32) (d_hosts : Int32) (d_renewing : Int32) (d_priorities : Nat → Int32) (d_names : Nat → Int32) (d_wants : Nat → Int32) (d_blocks : Nat → Int32) (d_upTo : Nat → Int32) (d_clashedTo : Nat → Int32) (d_zoneSets : Nat → Int32) (d_places : Nat → Int32) (d_notices : Nat → Int32) (d_news : Nat → Int32) (p1 : Int32) : Option ((Nat → NetT) × Int32) :=
  if p1 < 0 then
    some (c_nets, c_kept)
  else
    if 2 ≤ p1 then
      some (c_nets, c_kept)
    else
      gd (inB p1 2 = true) <|
      (fX3_copyFrom ((c_nets p1.toNatClampNeg).2.2.2.1) ((c_nets p1.toNatClampNeg).2.2.2.2.1) ((c_nets p1.toNatClampNeg).2.2.2.2.2.1) ((c_nets p1.toNatClampNeg).2.2.2.2.2.2.1) ((c_nets p1.toNatClampNeg).2.2.2.2.2.2.2.1) ((c_nets p1.toNatClampNeg).2.2.2.2.2.2.2.2.1) ((c_nets p1.toNatClampNeg).2.2.2.2.2.2.2.2.2.1) ((c_nets p1.toNatClampNeg).2.2.2.2.2.2.2.2.2.2.1) ((c_nets p1.toNatClampNeg).2.2.2.2.2.2.2.2.2.2.2.1) ((c_nets p1.toNatClampNeg).2.2.2.2.2.2.2.2.2.2.2.2) d_switches d_hosts d_renewing d_priorities d_names d_wants d_blocks d_upTo d_clashedTo d_zoneSets d_places d_notices d_news).bind fun z_3 =>
      bd (updN c_nets p1.toNatClampNeg z_3) fun c_nets_4 =>
      bd (c_kept ||| (1 <<< (p1 &&& 31))) fun c_kept_5 =>
      some (c_nets_4, c_kept_5)
def fX0_restoreTo (c_nets : Nat → NetT) (c_kept : Int32) (d_switches : Int32) (d_hosts : Int32) (d_renewing : Int32) (d_priorities : Nat → Int32) (d_names : Nat → Int32) (d_wants : Nat → Int32) (d_blocks : Nat → Int32) (d_upTo : Nat → Int32) (d_clashedTo : Nat → Int32) (d_zoneSets : Nat → Int32) (d_places : Nat → Int32) (d_notices : Nat → Int32) (d_news : Nat → Int32) (p1 : Int32) : Option (Int32 × Int32 × Int32 × (Nat → Int32) × (Nat → Int32) × (Nat → Int32) × (Nat → Int32) × (Nat → Int32) × (Nat → Int32) × (Nat → Int32) × (Nat → Int32) × (Nat → Int32) × (Nat → Int32)) :=
  (fX0_holds c_kept p1).bind fun r_1 =>
  if r_1 = 0 then
    some (d_switches, d_hosts, d_renewing, d_priorities, d_names, d_wants, d_blocks, d_upTo, d_clashedTo, d_zoneSets, d_places, d_notices, d_news)
  else
    gd (inB p1 2 = true) <|
    (fX3_copyFrom d_priorities d_names d_wants d_blocks d_upTo d_clashedTo d_zoneSets d_places d_notices d_news ((c_nets p1.toNatClampNeg).1) ((c_nets p1.toNatClampNeg).2.1) ((c_nets p1.toNatClampNeg).2.2.1) ((c_nets p1.toNatClampNeg).2.2.2.1) ((c_nets p1.toNatClampNeg).2.2.2.2.1) ((c_nets p1.toNatClampNeg).2.2.2.2.2.1) ((c_nets p1.toNatClampNeg).2.2.2.2.2.2.1) ((c_nets p1.toNatClampNeg).2.2.2.2.2.2.2.1) ((c_nets p1.toNatClampNeg).2.2.2.2.2.2.2.2.1) ((c_nets p1.toNatClampNeg).2.2.2.2.2.2.2.2.2.1) ((c_nets p1.toNatClampNeg).2.2.2.2.2.2.2.2.2.2.1) ((c_nets p1.toNatClampNeg).2.2.2.2.2.2.2.2.2.2.2.1) ((c_nets p1.toNatClampNeg).2.2.2.2.2.2.2.2.2.2.2.2)).bind fun z_3 =>
    some (z_3.1, z_3.2.1, z_3.2.2.1, z_3.2.2.2.1, z_3.2.2.2.2.1, z_3.2.2.2.2.2.1, z_3.2.2.2.2.2.2.1, z_3.2.2.2.2.2.2.2.1, z_3.2.2.2.2.2.2.2.2.1, z_3.2.2.2.2.2.2.2.2.2.1, z_3.2.2.2.2.2.2.2.2.2.2.1, z_3.2.2.2.2.2.2.2.2.2.2.2.1, z_3.2.2.2.2.2.2.2.2.2.2.2.2)
def fX1_size (c_size : Int32) : Option (Int32) :=
  some c_size
def fX1_empty : Option (Int32 × Int32 × Int64 × Int64) :=
  some (0, 0, 0, 0)
def fX7_viewBit (p1 : Int32) (p2 : Int32) : Option (Int64) :=
  some (lshl 1 ((8 * p1) + p2))
def fX1_add (c_size : Int32) (c_mentioned : Int32) (c_seen : Int64) (c_unseen : Int64) (p1 : Int32) (p2 : Int32) (p3 : Int32) : Option (Int32 × Int32 × Int32 × Int64 × Int64) :=
  if c_size < 6 then
    if p3 = 0 then
      (fX7_viewBit p1 p2).bind fun r_3 =>
      bd (c_unseen ||| r_3) fun c_unseen_4 =>
      bd (c_mentioned ||| ((1 <<< (p1 &&& 31)) ||| (1 <<< (p2 &&& 31)))) fun c_mentioned_5 =>
      bd (c_size + 1) fun c_size_6 =>
      some (1, c_size_6, c_mentioned_5, c_seen, c_unseen_4)
    else
      (fX7_viewBit p1 p2).bind fun r_7 =>
      bd (c_seen ||| r_7) fun c_seen_8 =>
      bd (c_mentioned ||| ((1 <<< (p1 &&& 31)) ||| (1 <<< (p2 &&& 31)))) fun c_mentioned_9 =>
      bd (c_size + 1) fun c_size_10 =>
      some (1, c_size_10, c_mentioned_9, c_seen_8, c_unseen)
  else
    some (0, c_size, c_mentioned, c_seen, c_unseen)
def fX1_fit (c_mentioned : Int32) (c_seen : Int64) (c_unseen : Int64) (p1 : Int64) (p2 : Int32) : Option (Int32) :=
  if (c_mentioned &&& (p2 ^^^ (-1))) = 0 then
    if (lg_cmp (p1 &&& c_seen) c_seen) = 0 then
      if (lg_cmp (p1 &&& c_unseen) 0) = 0 then
        some 1
      else
        some 0
    else
      some 0
  else
    some 0
def fX2_size (c_size : Int32) : Option (Int32) :=
  some c_size
def fX2_empty : Option (Int32) :=
  some 0
def fX2_remember (c_nets : Nat → NetT) (c_oldest : Int32) (c_size : Int32) (d_switches : Int32) (d_hosts : Int32) (d_renewing : Int32) (d_priorities : Nat → Int32) (d_names : Nat → Int32) (d_wants : Nat → Int32) (d_blocks : Nat → Int32) (d_upTo : Nat → Int32) (d_clashedTo : Nat → Int32) (d_zoneSets : Nat → Int32) (d_places : Nat → Int32) (d_notices : Nat → Int32) (d_news : Nat → Int32) : Option ((Nat → NetT) × Int32 × Int32) :=
  if c_size = 5 then
    bd ((c_oldest + 1) - (c_oldest + 1) / 5 * 5) fun c_oldest_5 =>
    bd (c_size - 1) fun c_size_6 =>
    gd (inB ((c_oldest_5 + c_size_6) - (c_oldest_5 + c_size_6) / 5 * 5) 5 = true) <|
    (fX3_copyFrom ((c_nets (((c_oldest_5 + c_size_6) - (c_oldest_5 + c_size_6) / 5 * 5).toNatClampNeg)).2.2.2.1) ((c_nets (((c_oldest_5 + c_size_6) - (c_oldest_5 + c_size_6) / 5 * 5).toNatClampNeg)).2.2.2.2.1) ((c_nets (((c_oldest_5 + c_size_6) - (c_oldest_5 + c_size_6) / 5 * 5).toNatClampNeg)).2.2.2.2.2.1) ((c_nets (((c_oldest_5 + c_size_6) - (c_oldest_5 + c_size_6) / 5 * 5).toNatClampNeg)).2.2.2.2.2.2.1) ((c_nets (((c_oldest_5 + c_size_6) - (c_oldest_5 + c_size_6) / 5 * 5).toNatClampNeg)).2.2.2.2.2.2.2.1) ((c_nets (((c_oldest_5 + c_size_6) - (c_oldest_5 + c_size_6) / 5 * 5).toNatClampNeg)).2.2.2.2.2.2.2.2.1) ((c_nets (((c_oldest_5 + c_size_6) - (c_oldest_5 + c_size_6) / 5 * 5).toNatClampNeg)).2.2.2.2.2.2.2.2.2.1) ((c_nets (((c_oldest_5 + c_size_6) - (c_oldest_5 + c_size_6) / 5 * 5).toNatClampNeg)).2.2.2.2.2.2.2.2.2.2.1) ((c_nets (((c_oldest_5 + c_size_6) - (c_oldest_5 + c_size_6) / 5 * 5).toNatClampNeg)).2.2.2.2.2.2.2.2.2.2.2.1) ((c_nets (((c_oldest_5 + c_size_6) - (c_oldest_5 + c_size_6) / 5 * 5).toNatClampNeg)).2.2.2.2.2.2.2.2.2.2.2.2) d_switches d_hosts d_renewing d_priorities d_names d_wants d_blocks d_upTo d_clashedTo d_zoneSets d_places d_notices d_news).bind fun z_7 =>
    bd (updN c_nets (((c_oldest_5 + c_size_6) - (c_oldest_5 + c_size_6) / 5 * 5).toNatClampNeg) z_7) fun c_nets_8 =>
    bd (c_size_6 + 1) fun c_size_9 =>
    some (c_nets_8, c_oldest_5, c_size_9)
  else
    gd (inB ((c_oldest + c_size) - (c_oldest + c_size) / 5 * 5) 5 = true) <|
    (fX3_copyFrom ((c_nets (((c_oldest + c_size) - (c_oldest + c_size) / 5 * 5).toNatClampNeg)).2.2.2.1) ((c_nets (((c_oldest + c_size) - (c_oldest + c_size) / 5 * 5).toNatClampNeg)).2.2.2.2.1) ((c_nets (((c_oldest + c_size) - (c_oldest + c_size) / 5 * 5).toNatClampNeg)).2.2.2.2.2.1) ((c_nets (((c_oldest + c_size) - (c_oldest + c_size) / 5 * 5).toNatClampNeg)).2.2.2.2.2.2.1) ((c_nets (((c_oldest + c_size) - (c_oldest + c_size) / 5 * 5).toNatClampNeg)).2.2.2.2.2.2.2.1) ((c_nets (((c_oldest + c_size) - (c_oldest + c_size) / 5 * 5).toNatClampNeg)).2.2.2.2.2.2.2.2.1) ((c_nets (((c_oldest + c_size) - (c_oldest + c_size) / 5 * 5).toNatClampNeg)).2.2.2.2.2.2.2.2.2.1) ((c_nets (((c_oldest + c_size) - (c_oldest + c_size) / 5 * 5).toNatClampNeg)).2.2.2.2.2.2.2.2.2.2.1) ((c_nets (((c_oldest + c_size) - (c_oldest + c_size) / 5 * 5).toNatClampNeg)).2.2.2.2.2.2.2.2.2.2.2.1) ((c_nets (((c_oldest + c_size) - (c_oldest + c_size) / 5 * 5).toNatClampNeg)).2.2.2.2.2.2.2.2.2.2.2.2) d_switches d_hosts d_renewing d_priorities d_names d_wants d_blocks d_upTo d_clashedTo d_zoneSets d_places d_notices d_news).bind fun z_2 =>
    bd (updN c_nets (((c_oldest + c_size) - (c_oldest + c_size) / 5 * 5).toNatClampNeg) z_2) fun c_nets_3 =>
    bd (c_size + 1) fun c_size_4 =>
    some (c_nets_3, c_oldest, c_size_4)
def fX2_restoreTo (c_nets : Nat → NetT) (c_oldest : Int32) (c_size : Int32) (d_switches : Int32) (d_hosts : Int32) (d_renewing : Int32) (d_priorities : Nat → Int32) (d_names : Nat → Int32) (d_wants : Nat → Int32) (d_blocks : Nat → Int32) (d_upTo : Nat → Int32) (d_clashedTo : Nat → Int32) (d_zoneSets : Nat → Int32) (d_places : Nat → Int32) (d_notices : Nat → Int32) (d_news : Nat → Int32) : Option (Int32 × Int32 × Int32 × Int32 × (Nat → Int32) × (Nat → Int32) × (Nat → Int32) × (Nat → Int32) × (Nat → Int32) × (Nat → Int32) × (Nat → Int32) × (Nat → Int32) × (Nat → Int32) × (Nat → Int32)) :=
  if c_size ≤ 0 then
    some (c_size, d_switches, d_hosts, d_renewing, d_priorities, d_names, d_wants, d_blocks, d_upTo, d_clashedTo, d_zoneSets, d_places, d_notices, d_news)
  else
    bd (c_size - 1) fun c_size_2 =>
    gd (inB ((c_oldest + c_size_2) - (c_oldest + c_size_2) / 5 * 5) 5 = true) <|
    (fX3_copyFrom d_priorities d_names d_wants d_blocks d_upTo d_clashedTo d_zoneSets d_places d_notices d_news ((c_nets (((c_oldest + c_size_2) - (c_oldest + c_size_2) / 5 * 5).toNatClampNeg)).1) ((c_nets (((c_oldest + c_size_2) - (c_oldest + c_size_2) / 5 * 5).toNatClampNeg)).2.1) ((c_nets (((c_oldest + c_size_2) - (c_oldest + c_size_2) / 5 * 5).toNatClampNeg)).2.2.1) ((c_nets (((c_oldest + c_size_2) - (c_oldest + c_size_2) / 5 * 5).toNatClampNeg)).2.2.2.1) ((c_nets (((c_oldest + c_size_2) - (c_oldest + c_size_2) / 5 * 5).toNatClampNeg)).2.2.2.2.1) ((c_nets (((c_oldest + c_size_2) - (c_oldest + c_size_2) / 5 * 5).toNatClampNeg)).2.2.2.2.2.1) ((c_nets (((c_oldest + c_size_2) - (c_oldest + c_size_2) / 5 * 5).toNatClampNeg)).2.2.2.2.2.2.1) ((c_nets (((c_oldest + c_size_2) - (c_oldest + c_size_2) / 5 * 5).toNatClampNeg)).2.2.2.2.2.2.2.1) ((c_nets (((c_oldest + c_size_2) - (c_oldest + c_size_2) / 5 * 5).toNatClampNeg)).2.2.2.2.2.2.2.2.1) ((c_nets (((c_oldest + c_size_2) - (c_oldest + c_size_2) / 5 * 5).toNatClampNeg)).2.2.2.2.2.2.2.2.2.1) ((c_nets (((c_oldest + c_size_2) - (c_oldest + c_size_2) / 5 * 5).toNatClampNeg)).2.2.2.2.2.2.2.2.2.2.1) ((c_nets (((c_oldest + c_size_2) - (c_oldest + c_size_2) / 5 * 5).toNatClampNeg)).2.2.2.2.2.2.2.2.2.2.2.1) ((c_nets (((c_oldest + c_size_2) - (c_oldest + c_size_2) / 5 * 5).toNatClampNeg)).2.2.2.2.2.2.2.2.2.2.2.2)).bind fun z_3 =>
    some (c_size_2, z_3.1, z_3.2.1, z_3.2.2.1, z_3.2.2.2.1, z_3.2.2.2.2.1, z_3.2.2.2.2.2.1, z_3.2.2.2.2.2.2.1, z_3.2.2.2.2.2.2.2.1, z_3.2.2.2.2.2.2.2.2.1, z_3.2.2.2.2.2.2.2.2.2.1, z_3.2.2.2.2.2.2.2.2.2.2.1, z_3.2.2.2.2.2.2.2.2.2.2.2.1, z_3.2.2.2.2.2.2.2.2.2.2.2.2)
def fX3_empty : Option (Int32 × Int32 × Int32) :=
  some (0, 0, 0)
def fX3_addSwitch_L1 (c_switches : Int32) : Nat → Int32 → (Nat → Int32) → Option (Int32 × (Nat → Int32))
  | 0, _, _ => none
  | fu + 1, v4_9, c_zoneSets_10 =>
    if 4 ≤ v4_9 then
      some (v4_9, c_zoneSets_10)
    else
      gd (inB ((c_switches * 4) + v4_9) 24 = true) <|
      bd (upd c_zoneSets_10 ((c_switches * 4) + v4_9).toNatClampNeg 0) fun c_zoneSets_12 =>
      bd (v4_9 + 1) fun v4_13 =>
      fX3_addSwitch_L1 c_switches fu v4_13 c_zoneSets_12
def fX3_addSwitch_L2 (c_switches : Int32) : Nat → Int32 → (Nat → Int32) → Option (Int32 × (Nat → Int32))
  | 0, _, _ => none
  | fu + 1, v4_19, c_zoneSets_20 =>
    if 4 ≤ v4_19 then
      some (v4_19, c_zoneSets_20)
    else
      gd (inB ((c_switches * 4) + v4_19) 24 = true) <|
      bd (upd c_zoneSets_20 ((c_switches * 4) + v4_19).toNatClampNeg 0) fun c_zoneSets_22 =>
      bd (v4_19 + 1) fun v4_23 =>
      fX3_addSwitch_L2 c_switches fu v4_23 c_zoneSets_22
def fX3_addSwitch (c_switches : Int32) (c_priorities : Nat → Int32) (c_names : Nat → Int32) (c_wants : Nat → Int32) (c_blocks : Nat → Int32) (c_upTo : Nat → Int32) (c_clashedTo : Nat → Int32) (c_zoneSets : Nat → Int32) (p1 : Int32) (p2 : Int32) (p3 : Int32) : Option (Int32 × (Nat → Int32) × (Nat → Int32) × (Nat → Int32) × (Nat → Int32) × (Nat → Int32) × (Nat → Int32) × (Nat → Int32)) :=
  if c_switches < 6 then
    gd (inB c_switches 6 = true) <|
    bd (upd c_priorities c_switches.toNatClampNeg p1) fun c_priorities_2 =>
    gd (inB c_switches 6 = true) <|
    bd (upd c_names c_switches.toNatClampNeg p2) fun c_names_3 =>
    gd (inB c_switches 6 = true) <|
    bd (upd c_wants c_switches.toNatClampNeg p3) fun c_wants_4 =>
    if p3 = 0 then
      gd (inB c_switches 6 = true) <|
      bd (upd c_blocks c_switches.toNatClampNeg 1) fun c_blocks_16 =>
      gd (inB c_switches 6 = true) <|
      bd (upd c_upTo c_switches.toNatClampNeg 0) fun c_upTo_17 =>
      gd (inB c_switches 6 = true) <|
      bd (upd c_clashedTo c_switches.toNatClampNeg 0) fun c_clashedTo_18 =>
      (fX3_addSwitch_L2 c_switches 500 0 c_zoneSets).bind fun z_24 =>
      bd (c_switches + 1) fun c_switches_25 =>
      some (c_switches_25, c_priorities_2, c_names_3, c_wants_4, c_blocks_16, c_upTo_17, c_clashedTo_18, z_24.2)
    else
      gd (inB c_switches 6 = true) <|
      bd (upd c_blocks c_switches.toNatClampNeg p3) fun c_blocks_6 =>
      gd (inB c_switches 6 = true) <|
      bd (upd c_upTo c_switches.toNatClampNeg 0) fun c_upTo_7 =>
      gd (inB c_switches 6 = true) <|
      bd (upd c_clashedTo c_switches.toNatClampNeg 0) fun c_clashedTo_8 =>
      (fX3_addSwitch_L1 c_switches 500 0 c_zoneSets).bind fun z_14 =>
      bd (c_switches + 1) fun c_switches_15 =>
      some (c_switches_15, c_priorities_2, c_names_3, c_wants_4, c_blocks_6, c_upTo_7, c_clashedTo_8, z_14.2)
  else
    some (c_switches, c_priorities, c_names, c_wants, c_blocks, c_upTo, c_clashedTo, c_zoneSets)
def fX3_addHost (c_hosts : Int32) (c_places : Nat → Int32) (c_notices : Nat → Int32) (c_news : Nat → Int32) (p1 : Int32) : Option (Int32 × (Nat → Int32) × (Nat → Int32) × (Nat → Int32)) :=
  if c_hosts < 8 then
    gd (inB c_hosts 8 = true) <|
    bd (upd c_places c_hosts.toNatClampNeg p1) fun c_places_2 =>
    gd (inB c_hosts 8 = true) <|
    bd (upd c_notices c_hosts.toNatClampNeg 0) fun c_notices_3 =>
    gd (inB c_hosts 8 = true) <|
    bd (upd c_news c_hosts.toNatClampNeg 0) fun c_news_4 =>
    bd (c_hosts + 1) fun c_hosts_5 =>
    some (c_hosts_5, c_places_2, c_notices_3, c_news_4)
  else
    some (c_hosts, c_places, c_notices, c_news)
def fX3_switchTotal (c_switches : Int32) : Option (Int32) :=
  some c_switches
def fX3_hostTotal (c_hosts : Int32) : Option (Int32) :=
  some c_hosts
def fX3_everyHost (c_hosts : Int32) : Option (Int32) :=
  some ((1 <<< (c_hosts &&& 31)) - 1)
def fX3_hasSwitch (c_switches : Int32) (p1 : Int32) : Option (Int32) :=
  if p1 < 0 then
    some 0
  else
    if c_switches ≤ p1 then
      some 0
    else
      some 1
def fX3_hasTwo (c_switches : Int32) (p1 : Int32) (p2 : Int32) : Option (Int32) :=
  if p1 = p2 then
    some 0
  else
    (fX3_hasSwitch c_switches p1).bind fun r_2 =>
    if r_2 = 0 then
      some 0
    else
      (fX3_hasSwitch c_switches p2).bind fun r_4 =>
      if r_4 = 0 then
        some 0
      else
        some 1
def fX3_hasHost (c_hosts : Int32) (p1 : Int32) : Option (Int32) :=
  if p1 < 0 then
    some 0
  else
    if c_hosts ≤ p1 then
      some 0
    else
      some 1
def fX3_hasName_L1 (c_switches : Int32) (c_names : Nat → Int32) (p1 : Int32) : Nat → Int32 → Option ((Int32) ⊕ (Int32))
  | 0, _ => none
  | fu + 1, v2_1 =>
    if c_switches ≤ v2_1 then
      some (Sum.inr v2_1)
    else
      gd (inB v2_1 6 = true) <|
      if (c_names v2_1.toNatClampNeg) = p1 then
        some (Sum.inl 1)
      else
        bd (v2_1 + 1) fun v2_4 =>
        fX3_hasName_L1 c_switches c_names p1 fu v2_4
def fX3_hasName (c_switches : Int32) (c_names : Nat → Int32) (p1 : Int32) : Option (Int32) :=
  (fX3_hasName_L1 c_switches c_names p1 500 0).bind fun v2_5 =>
  Sum.elim (fun y => some y) (fun y_6 =>
    some 0) v2_5
def fX3_isRenewing (c_renewing : Int32) : Option (Int32) :=
  gd ((c_renewing = 0 ∨ c_renewing = 1)) <|
  some c_renewing
def fX3_setRenewing (p1 : Int32) : Option (Int32) :=
  gd ((p1 = 0 ∨ p1 = 1)) <|
  some p1
def fX3_priorityOf (c_switches : Int32) (c_priorities : Nat → Int32) (p1 : Int32) : Option (Int32) :=
  (fX3_hasSwitch c_switches p1).bind fun r_1 =>
  if r_1 = 0 then
    some (-1)
  else
    gd (inB p1 6 = true) <|
    some (c_priorities p1.toNatClampNeg)
def fX3_setPriority (c_switches : Int32) (c_priorities : Nat → Int32) (p1 : Int32) (p2 : Int32) : Option (Nat → Int32) :=
  (fX3_hasSwitch c_switches p1).bind fun r_1 =>
  if r_1 = 0 then
    some c_priorities
  else
    gd (inB p1 6 = true) <|
    bd (upd c_priorities p1.toNatClampNeg p2) fun c_priorities_3 =>
    some c_priorities_3
def fX3_nameOf (c_switches : Int32) (c_names : Nat → Int32) (p1 : Int32) : Option (Int32) :=
  (fX3_hasSwitch c_switches p1).bind fun r_1 =>
  if r_1 = 0 then
    some (-1)
  else
    gd (inB p1 6 = true) <|
    some (c_names p1.toNatClampNeg)
def fX3_wantOf (c_switches : Int32) (c_wants : Nat → Int32) (p1 : Int32) : Option (Int32) :=
  (fX3_hasSwitch c_switches p1).bind fun r_1 =>
  if r_1 = 0 then
    some (-1)
  else
    gd (inB p1 6 = true) <|
    some (c_wants p1.toNatClampNeg)
def fX3_blockOf (c_switches : Int32) (c_blocks : Nat → Int32) (p1 : Int32) : Option (Int32) :=
  (fX3_hasSwitch c_switches p1).bind fun r_1 =>
  if r_1 = 0 then
    some (-1)
  else
    gd (inB p1 6 = true) <|
    some (c_blocks p1.toNatClampNeg)
def fX3_placeOf (c_hosts : Int32) (c_places : Nat → Int32) (p1 : Int32) : Option (Int32) :=
  (fX3_hasHost c_hosts p1).bind fun r_1 =>
  if r_1 = 0 then
    some (-9)
  else
    gd (inB p1 8 = true) <|
    some (c_places p1.toNatClampNeg)
def fX3_setPlace (c_hosts : Int32) (c_places : Nat → Int32) (p1 : Int32) (p2 : Int32) : Option (Nat → Int32) :=
  (fX3_hasHost c_hosts p1).bind fun r_1 =>
  if r_1 = 0 then
    some c_places
  else
    gd (inB p1 8 = true) <|
    bd (upd c_places p1.toNatClampNeg p2) fun c_places_3 =>
    some c_places_3
def fX3_noticesOf (c_hosts : Int32) (c_notices : Nat → Int32) (p1 : Int32) : Option (Int32) :=
  (fX3_hasHost c_hosts p1).bind fun r_1 =>
  if r_1 = 0 then
    some (-1)
  else
    gd (inB p1 8 = true) <|
    some (c_notices p1.toNatClampNeg)
def fX3_newsOf (c_hosts : Int32) (c_news : Nat → Int32) (p1 : Int32) : Option (Int32) :=
  (fX3_hasHost c_hosts p1).bind fun r_1 =>
  if r_1 = 0 then
    some (-1)
  else
    gd (inB p1 8 = true) <|
    some (c_news p1.toNatClampNeg)
def fX3_noticeTotal_L1 (c_hosts : Int32) (c_notices : Nat → Int32) : Nat → Int32 → Int32 → Option (Int32 × Int32)
  | 0, _, _ => none
  | fu + 1, v1_1, v2_2 =>
    if c_hosts ≤ v2_2 then
      some (v1_1, v2_2)
    else
      gd (inB v2_2 8 = true) <|
      bd (v1_1 + (c_notices v2_2.toNatClampNeg)) fun v1_4 =>
      bd (v2_2 + 1) fun v2_5 =>
      fX3_noticeTotal_L1 c_hosts c_notices fu v1_4 v2_5
def fX3_noticeTotal (c_hosts : Int32) (c_notices : Nat → Int32) : Option (Int32) :=
  (fX3_noticeTotal_L1 c_hosts c_notices 500 0 0).bind fun z_6 =>
  some z_6.1
def fX3_linkState (c_switches : Int32) (c_upTo : Nat → Int32) (c_clashedTo : Nat → Int32) (p1 : Int32) (p2 : Int32) : Option (Int32) :=
  (fX3_hasTwo c_switches p1 p2).bind fun r_1 =>
  if r_1 = 0 then
    some 0
  else
    gd (inB p1 6 = true) <|
    (fX7_has (c_upTo p1.toNatClampNeg) p2).bind fun r_3 =>
    if r_3 = 0 then
      gd (inB p1 6 = true) <|
      (fX7_has (c_clashedTo p1.toNatClampNeg) p2).bind fun r_5 =>
      if r_5 = 0 then
        some 0
      else
        some 2
    else
      some 1
def fX3_isUp (c_switches : Int32) (c_upTo : Nat → Int32) (c_clashedTo : Nat → Int32) (p1 : Int32) (p2 : Int32) : Option (Int32) :=
  (fX3_linkState c_switches c_upTo c_clashedTo p1 p2).bind fun r_1 =>
  if r_1 = 1 then
    some 1
  else
    some 0
def fX3_setEnd (c_upTo : Nat → Int32) (c_clashedTo : Nat → Int32) (p1 : Int32) (p2 : Int32) (p3 : Int32) : Option ((Nat → Int32) × (Nat → Int32)) :=
  if p3 = 1 then
    gd (inB p1 6 = true) <|
    gd (inB p1 6 = true) <|
    bd (upd c_upTo p1.toNatClampNeg ((c_upTo p1.toNatClampNeg) ||| p2)) fun c_upTo_6 =>
    if p3 = 2 then
      gd (inB p1 6 = true) <|
      gd (inB p1 6 = true) <|
      bd (upd c_clashedTo p1.toNatClampNeg ((c_clashedTo p1.toNatClampNeg) ||| p2)) fun c_clashedTo_9 =>
      some (c_upTo_6, c_clashedTo_9)
    else
      gd (inB p1 6 = true) <|
      gd (inB p1 6 = true) <|
      bd (upd c_clashedTo p1.toNatClampNeg ((c_clashedTo p1.toNatClampNeg) &&& (p2 ^^^ (-1)))) fun c_clashedTo_8 =>
      some (c_upTo_6, c_clashedTo_8)
  else
    gd (inB p1 6 = true) <|
    gd (inB p1 6 = true) <|
    bd (upd c_upTo p1.toNatClampNeg ((c_upTo p1.toNatClampNeg) &&& (p2 ^^^ (-1)))) fun c_upTo_2 =>
    if p3 = 2 then
      gd (inB p1 6 = true) <|
      gd (inB p1 6 = true) <|
      bd (upd c_clashedTo p1.toNatClampNeg ((c_clashedTo p1.toNatClampNeg) ||| p2)) fun c_clashedTo_5 =>
      some (c_upTo_2, c_clashedTo_5)
    else
      gd (inB p1 6 = true) <|
      gd (inB p1 6 = true) <|
      bd (upd c_clashedTo p1.toNatClampNeg ((c_clashedTo p1.toNatClampNeg) &&& (p2 ^^^ (-1)))) fun c_clashedTo_4 =>
      some (c_upTo_2, c_clashedTo_4)
def fX3_setLink (c_switches : Int32) (c_upTo : Nat → Int32) (c_clashedTo : Nat → Int32) (p1 : Int32) (p2 : Int32) (p3 : Int32) : Option ((Nat → Int32) × (Nat → Int32)) :=
  (fX3_hasTwo c_switches p1 p2).bind fun r_1 =>
  if r_1 = 0 then
    some (c_upTo, c_clashedTo)
  else
    (fX3_setEnd c_upTo c_clashedTo p1 (1 <<< (p2 &&& 31)) p3).bind fun z_3 =>
    (fX3_setEnd z_3.1 z_3.2 p2 (1 <<< (p1 &&& 31)) p3).bind fun z_4 =>
    some (z_4.1, z_4.2)
def fJ6_bitCount_0f7a4 (p1 : Int32) : Option (Int32) :=
  bd (p1 - ((iushr p1 1) &&& 1431655765)) fun v0_1 =>
  bd ((v0_1 &&& 858993459) + ((iushr v0_1 2) &&& 858993459)) fun v0_2 =>
  bd ((v0_2 + (iushr v0_2 4)) &&& 252645135) fun v0_3 =>
  bd (v0_3 + (iushr v0_3 8)) fun v0_4 =>
  bd (v0_4 + (iushr v0_4 16)) fun v0_5 =>
  some (v0_5 &&& 63)
def fX3_linkTotal_L1 (c_switches : Int32) (c_upTo : Nat → Int32) (c_clashedTo : Nat → Int32) (p1 : Int32) : Nat → Int32 → Int32 → Option (Int32 × Int32)
  | 0, _, _ => none
  | fu + 1, v2_1, v3_2 =>
    if c_switches ≤ v3_2 then
      some (v2_1, v3_2)
    else
      if p1 = 1 then
        gd (inB v3_2 6 = true) <|
        (fJ6_bitCount_0f7a4 (c_upTo v3_2.toNatClampNeg)).bind fun r_8 =>
        bd (v2_1 + r_8) fun v2_9 =>
        bd (v3_2 + 1) fun v3_10 =>
        fX3_linkTotal_L1 c_switches c_upTo c_clashedTo p1 fu v2_9 v3_10
      else
        gd (inB v3_2 6 = true) <|
        (fJ6_bitCount_0f7a4 (c_clashedTo v3_2.toNatClampNeg)).bind fun r_5 =>
        bd (v2_1 + r_5) fun v2_6 =>
        bd (v3_2 + 1) fun v3_7 =>
        fX3_linkTotal_L1 c_switches c_upTo c_clashedTo p1 fu v2_6 v3_7
def fX3_linkTotal (c_switches : Int32) (c_upTo : Nat → Int32) (c_clashedTo : Nat → Int32) (p1 : Int32) : Option (Int32) :=
  (fX3_linkTotal_L1 c_switches c_upTo c_clashedTo p1 500 0 0).bind fun z_11 =>
  some (z_11.1 / 2)
def fX3_spread_L1 (c_switches : Int32) (c_upTo : Nat → Int32) (p1 : Int32) : Nat → Int32 → Int32 → Option (Int32 × Int32)
  | 0, _, _ => none
  | fu + 1, v2_1, v3_2 =>
    if c_switches ≤ v3_2 then
      some (v2_1, v3_2)
    else
      (fX7_has p1 v3_2).bind fun r_4 =>
      if r_4 = 0 then
        bd (v3_2 + 1) fun v3_6 =>
        fX3_spread_L1 c_switches c_upTo p1 fu v2_1 v3_6
      else
        gd (inB v3_2 6 = true) <|
        bd (v2_1 ||| (c_upTo v3_2.toNatClampNeg)) fun v2_7 =>
        bd (v3_2 + 1) fun v3_8 =>
        fX3_spread_L1 c_switches c_upTo p1 fu v2_7 v3_8
def fX3_spread (c_switches : Int32) (c_upTo : Nat → Int32) (p1 : Int32) : Option (Int32) :=
  (fX3_spread_L1 c_switches c_upTo p1 500 p1 0).bind fun z_9 =>
  some z_9.1
def fX3_fabricOf_L1 (c_switches : Int32) (c_upTo : Nat → Int32) : Nat → Int32 → Int32 → Option (Int32 × Int32)
  | 0, _, _ => none
  | fu + 1, v2_2, v3_3 =>
    if c_switches ≤ v3_3 then
      some (v2_2, v3_3)
    else
      (fX3_spread c_switches c_upTo v2_2).bind fun r_5 =>
      bd (v3_3 + 1) fun v3_6 =>
      fX3_fabricOf_L1 c_switches c_upTo fu r_5 v3_6
def fX3_fabricOf (c_switches : Int32) (c_upTo : Nat → Int32) (p1 : Int32) : Option (Int32) :=
  bd (1 <<< (p1 &&& 31)) fun v2_1 =>
  (fX3_fabricOf_L1 c_switches c_upTo 500 v2_1 1).bind fun z_7 =>
  some z_7.1
def fX3_fabricTotal_L1 (c_switches : Int32) (c_upTo : Nat → Int32) : Nat → Int32 → Int32 → Int32 → Option (Int32 × Int32 × Int32)
  | 0, _, _, _ => none
  | fu + 1, v1_1, v2_2, v3_3 =>
    if c_switches ≤ v3_3 then
      some (v1_1, v2_2, v3_3)
    else
      (fX7_has v2_2 v3_3).bind fun r_5 =>
      if r_5 = 0 then
        (fX3_fabricOf c_switches c_upTo v3_3).bind fun r_8 =>
        bd (v2_2 ||| r_8) fun v2_9 =>
        bd (v1_1 + 1) fun v1_10 =>
        bd (v3_3 + 1) fun v3_11 =>
        fX3_fabricTotal_L1 c_switches c_upTo fu v1_10 v2_9 v3_11
      else
        bd (v3_3 + 1) fun v3_7 =>
        fX3_fabricTotal_L1 c_switches c_upTo fu v1_1 v2_2 v3_7
def fX3_fabricTotal (c_switches : Int32) (c_upTo : Nat → Int32) : Option (Int32) :=
  (fX3_fabricTotal_L1 c_switches c_upTo 500 0 0 0).bind fun z_12 =>
  some z_12.1
def fX3_goesAhead (c_switches : Int32) (c_priorities : Nat → Int32) (c_names : Nat → Int32) (p1 : Int32) (p2 : Int32) : Option (Int32) :=
  (fX3_priorityOf c_switches c_priorities p1).bind fun r_1 =>
  (fX3_priorityOf c_switches c_priorities p2).bind fun r_2 =>
  if r_1 = r_2 then
    (fX3_nameOf c_switches c_names p1).bind fun r_4 =>
    (fX3_nameOf c_switches c_names p2).bind fun r_5 =>
    if r_5 ≤ r_4 then
      some 0
    else
      some 1
  else
    (fX3_priorityOf c_switches c_priorities p1).bind fun r_7 =>
    (fX3_priorityOf c_switches c_priorities p2).bind fun r_8 =>
    if r_8 ≤ r_7 then
      some 0
    else
      some 1
def fX3_principalOf_L1 (c_switches : Int32) (c_priorities : Nat → Int32) (c_names : Nat → Int32) (p1 : Int32) : Nat → Int32 → Int32 → Option (Int32 × Int32)
  | 0, _, _ => none
  | fu + 1, v2_1, v3_2 =>
    if c_switches ≤ v3_2 then
      some (v2_1, v3_2)
    else
      (fX7_has p1 v3_2).bind fun r_4 =>
      if r_4 = 0 then
        bd (v3_2 + 1) fun v3_6 =>
        fX3_principalOf_L1 c_switches c_priorities c_names p1 fu v2_1 v3_6
      else
        if v2_1 = (-9) then
          bd (v3_2 + 1) fun v3_8 =>
          fX3_principalOf_L1 c_switches c_priorities c_names p1 fu v3_2 v3_8
        else
          (fX3_goesAhead c_switches c_priorities c_names v3_2 v2_1).bind fun r_9 =>
          if r_9 = 0 then
            bd (v3_2 + 1) fun v3_11 =>
            fX3_principalOf_L1 c_switches c_priorities c_names p1 fu v2_1 v3_11
          else
            bd (v3_2 + 1) fun v3_12 =>
            fX3_principalOf_L1 c_switches c_priorities c_names p1 fu v3_2 v3_12
def fX3_principalOf (c_switches : Int32) (c_priorities : Nat → Int32) (c_names : Nat → Int32) (p1 : Int32) : Option (Int32) :=
  (fX3_principalOf_L1 c_switches c_priorities c_names p1 500 (-9) 0).bind fun z_13 =>
  some z_13.1
def fX3_farOf_L1 (c_switches : Int32) (c_upTo : Nat → Int32) (p1 : Int32) : Nat → Int32 → Int32 → Option (Int32 × Int32)
  | 0, _, _ => none
  | fu + 1, v2_4, v3_5 =>
    if c_switches ≤ v3_5 then
      some (v2_4, v3_5)
    else
      (fX7_has v2_4 p1).bind fun r_7 =>
      if r_7 = 0 then
        (fX3_spread c_switches c_upTo v2_4).bind fun r_9 =>
        bd (v3_5 + 1) fun v3_10 =>
        fX3_farOf_L1 c_switches c_upTo p1 fu r_9 v3_10
      else
        some (v2_4, v3_5)
def fX3_farOf (c_switches : Int32) (c_priorities : Nat → Int32) (c_names : Nat → Int32) (c_upTo : Nat → Int32) (p1 : Int32) : Option (Int32) :=
  (fX3_fabricOf c_switches c_upTo p1).bind fun r_1 =>
  (fX3_principalOf c_switches c_priorities c_names r_1).bind fun r_2 =>
  bd (1 <<< (r_2 &&& 31)) fun v2_3 =>
  (fX3_farOf_L1 c_switches c_upTo p1 500 v2_3 0).bind fun z_11 =>
  some z_11.2
def fX3_lowestNameOf_L1 (c_switches : Int32) (c_names : Nat → Int32) (p1 : Int32) : Nat → Int32 → Int32 → Option (Int32 × Int32)
  | 0, _, _ => none
  | fu + 1, v2_1, v3_2 =>
    if c_switches ≤ v3_2 then
      some (v2_1, v3_2)
    else
      (fX7_has p1 v3_2).bind fun r_4 =>
      if r_4 = 0 then
        bd (v3_2 + 1) fun v3_6 =>
        fX3_lowestNameOf_L1 c_switches c_names p1 fu v2_1 v3_6
      else
        if v2_1 = (-9) then
          bd (v3_2 + 1) fun v3_8 =>
          fX3_lowestNameOf_L1 c_switches c_names p1 fu v3_2 v3_8
        else
          gd (inB v3_2 6 = true) <|
          (fX3_nameOf c_switches c_names v2_1).bind fun r_9 =>
          if r_9 ≤ (c_names v3_2.toNatClampNeg) then
            bd (v3_2 + 1) fun v3_11 =>
            fX3_lowestNameOf_L1 c_switches c_names p1 fu v2_1 v3_11
          else
            bd (v3_2 + 1) fun v3_12 =>
            fX3_lowestNameOf_L1 c_switches c_names p1 fu v3_2 v3_12
def fX3_lowestNameOf (c_switches : Int32) (c_names : Nat → Int32) (p1 : Int32) : Option (Int32) :=
  (fX3_lowestNameOf_L1 c_switches c_names p1 500 (-9) 0).bind fun z_13 =>
  some z_13.1
def fX3_blockFor_L1 (p2 : Int32) : Nat → Int32 → Option (Int32)
  | 0, _ => none
  | fu + 1, v4_3 =>
    if 8 ≤ v4_3 then
      some v4_3
    else
      (fX7_has p2 v4_3).bind fun r_5 =>
      if r_5 = 0 then
        some v4_3
      else
        bd (v4_3 + 1) fun v4_7 =>
        fX3_blockFor_L1 p2 fu v4_7
def fX3_blockFor_L2 (p2 : Int32) : Nat → Int32 → Option (Int32)
  | 0, _ => none
  | fu + 1, v4_11 =>
    if 8 ≤ v4_11 then
      some v4_11
    else
      (fX7_has p2 v4_11).bind fun r_13 =>
      if r_13 = 0 then
        some v4_11
      else
        bd (v4_11 + 1) fun v4_15 =>
        fX3_blockFor_L2 p2 fu v4_15
def fX3_blockFor (c_switches : Int32) (c_wants : Nat → Int32) (p1 : Int32) (p2 : Int32) : Option (Int32) :=
  (fX3_wantOf c_switches c_wants p1).bind fun r_1 =>
  if r_1 ≤ 0 then
    (fX3_blockFor_L1 p2 500 1).bind fun v4_8 =>
    some v4_8
  else
    (fX7_has p2 r_1).bind fun r_9 =>
    if r_9 = 0 then
      some r_1
    else
      (fX3_blockFor_L2 p2 500 1).bind fun v4_16 =>
      some v4_16
def fX3_setBlock (c_switches : Int32) (c_blocks : Nat → Int32) (p1 : Int32) (p2 : Int32) : Option (Nat → Int32) :=
  (fX3_hasSwitch c_switches p1).bind fun r_1 =>
  if r_1 = 0 then
    some c_blocks
  else
    gd (inB p1 6 = true) <|
    bd (upd c_blocks p1.toNatClampNeg p2) fun c_blocks_3 =>
    some c_blocks_3
def fX3_handOut_L1 (c_switches : Int32) (c_names : Nat → Int32) (c_wants : Nat → Int32) (c_upTo : Nat → Int32) (p1 : Int32) : Nat → Int32 → Int32 → Int32 → Int32 → Int32 → (Nat → Int32) → Option (Int32 × Int32 × Int32 × Int32 × Int32 × (Nat → Int32))
  | 0, _, _, _, _, _, _ => none
  | fu + 1, v2_3, v3_4, v4_5, v5_6, v6_7, c_blocks_8 =>
    if c_switches ≤ v6_7 then
      some (v2_3, v3_4, v4_5, v5_6, v6_7, c_blocks_8)
    else
      if v3_4 = p1 then
        some (v2_3, v3_4, v4_5, v5_6, v6_7, c_blocks_8)
      else
        if v3_4 = v5_6 then
          (fX3_spread c_switches c_upTo v5_6).bind fun r_25 =>
          (fX3_lowestNameOf c_switches c_names (r_25 &&& (v3_4 ^^^ (-1)))).bind fun r_26 =>
          (fX3_blockFor c_switches c_wants r_26 v4_5).bind fun r_27 =>
          (fX3_blockOf c_switches c_blocks_8 r_26).bind fun r_28 =>
          if r_28 = r_27 then
            (fX3_setBlock c_switches c_blocks_8 r_26 r_27).bind fun z_30 =>
            bd (v4_5 ||| (1 <<< (r_27 &&& 31))) fun v4_31 =>
            bd (v3_4 ||| (1 <<< (r_26 &&& 31))) fun v3_32 =>
            bd (v6_7 + 1) fun v6_33 =>
            fX3_handOut_L1 c_switches c_names c_wants c_upTo p1 fu v2_3 v3_32 v4_31 r_25 v6_33 z_30
          else
            bd (v2_3 + 1) fun v2_34 =>
            (fX3_setBlock c_switches c_blocks_8 r_26 r_27).bind fun z_35 =>
            bd (v4_5 ||| (1 <<< (r_27 &&& 31))) fun v4_36 =>
            bd (v3_4 ||| (1 <<< (r_26 &&& 31))) fun v3_37 =>
            bd (v6_7 + 1) fun v6_38 =>
            fX3_handOut_L1 c_switches c_names c_wants c_upTo p1 fu v2_34 v3_37 v4_36 r_25 v6_38 z_35
        else
          (fX3_lowestNameOf c_switches c_names (v5_6 &&& (v3_4 ^^^ (-1)))).bind fun r_12 =>
          (fX3_blockFor c_switches c_wants r_12 v4_5).bind fun r_13 =>
          (fX3_blockOf c_switches c_blocks_8 r_12).bind fun r_14 =>
          if r_14 = r_13 then
            (fX3_setBlock c_switches c_blocks_8 r_12 r_13).bind fun z_16 =>
            bd (v4_5 ||| (1 <<< (r_13 &&& 31))) fun v4_17 =>
            bd (v3_4 ||| (1 <<< (r_12 &&& 31))) fun v3_18 =>
            bd (v6_7 + 1) fun v6_19 =>
            fX3_handOut_L1 c_switches c_names c_wants c_upTo p1 fu v2_3 v3_18 v4_17 v5_6 v6_19 z_16
          else
            bd (v2_3 + 1) fun v2_20 =>
            (fX3_setBlock c_switches c_blocks_8 r_12 r_13).bind fun z_21 =>
            bd (v4_5 ||| (1 <<< (r_13 &&& 31))) fun v4_22 =>
            bd (v3_4 ||| (1 <<< (r_12 &&& 31))) fun v3_23 =>
            bd (v6_7 + 1) fun v6_24 =>
            fX3_handOut_L1 c_switches c_names c_wants c_upTo p1 fu v2_20 v3_23 v4_22 v5_6 v6_24 z_21
def fX3_handOut (c_switches : Int32) (c_priorities : Nat → Int32) (c_names : Nat → Int32) (c_wants : Nat → Int32) (c_blocks : Nat → Int32) (c_upTo : Nat → Int32) (p1 : Int32) : Option (Int32 × (Nat → Int32)) :=
  (fX3_principalOf c_switches c_priorities c_names p1).bind fun r_1 =>
  bd (1 <<< (r_1 &&& 31)) fun v5_2 =>
  (fX3_handOut_L1 c_switches c_names c_wants c_upTo p1 500 0 0 0 v5_2 0 c_blocks).bind fun z_39 =>
  some (z_39.1, z_39.2.2.2.2.2)
def fX3_blocksIn_L1 (c_switches : Int32) (c_blocks : Nat → Int32) (p1 : Int32) : Nat → Int32 → Int32 → Option (Int32 × Int32)
  | 0, _, _ => none
  | fu + 1, v2_1, v3_2 =>
    if c_switches ≤ v3_2 then
      some (v2_1, v3_2)
    else
      (fX7_has p1 v3_2).bind fun r_4 =>
      if r_4 = 0 then
        bd (v3_2 + 1) fun v3_6 =>
        fX3_blocksIn_L1 c_switches c_blocks p1 fu v2_1 v3_6
      else
        gd (inB v3_2 6 = true) <|
        bd (v2_1 ||| (1 <<< ((c_blocks v3_2.toNatClampNeg) &&& 31))) fun v2_7 =>
        bd (v3_2 + 1) fun v3_8 =>
        fX3_blocksIn_L1 c_switches c_blocks p1 fu v2_7 v3_8
def fX3_blocksIn (c_switches : Int32) (c_blocks : Nat → Int32) (p1 : Int32) : Option (Int32) :=
  (fX3_blocksIn_L1 c_switches c_blocks p1 500 0 0).bind fun z_9 =>
  some z_9.1
def fX3_zoneSet (c_switches : Int32) (c_zoneSets : Nat → Int32) (p1 : Int32) (p2 : Int32) : Option (Int32) :=
  if p1 < 0 then
    some 0
  else
    if c_switches ≤ p1 then
      some 0
    else
      if p2 < 0 then
        some 0
      else
        if 4 ≤ p2 then
          some 0
        else
          gd (inB ((p1 * 4) + p2) 24 = true) <|
          some (c_zoneSets ((p1 * 4) + p2).toNatClampNeg)
def fX3_setZone_L1 (c_switches : Int32) (p1 : Int32) (p2 : Int32) (p3 : Int32) : Nat → Int32 → (Nat → Int32) → Option (Int32 × (Nat → Int32))
  | 0, _, _ => none
  | fu + 1, v4_3, c_zoneSets_4 =>
    if c_switches ≤ v4_3 then
      some (v4_3, c_zoneSets_4)
    else
      (fX7_has p1 v4_3).bind fun r_6 =>
      if r_6 = 0 then
        bd (v4_3 + 1) fun v4_8 =>
        fX3_setZone_L1 c_switches p1 p2 p3 fu v4_8 c_zoneSets_4
      else
        gd (inB ((v4_3 * 4) + p2) 24 = true) <|
        bd (upd c_zoneSets_4 ((v4_3 * 4) + p2).toNatClampNeg p3) fun c_zoneSets_9 =>
        bd (v4_3 + 1) fun v4_10 =>
        fX3_setZone_L1 c_switches p1 p2 p3 fu v4_10 c_zoneSets_9
def fX3_setZone (c_switches : Int32) (c_zoneSets : Nat → Int32) (p1 : Int32) (p2 : Int32) (p3 : Int32) : Option (Nat → Int32) :=
  if p2 < 0 then
    some c_zoneSets
  else
    if p2 < 4 then
      (fX3_setZone_L1 c_switches p1 p2 p3 500 0 c_zoneSets).bind fun z_11 =>
      some z_11.2
    else
      some c_zoneSets
def fX3_zonesClash_L1 (c_switches : Int32) (c_zoneSets : Nat → Int32) (p1 : Int32) (p2 : Int32) : Nat → Int32 → Option ((Int32) ⊕ (Int32))
  | 0, _ => none
  | fu + 1, v3_1 =>
    if 4 ≤ v3_1 then
      some (Sum.inr v3_1)
    else
      (fX3_zoneSet c_switches c_zoneSets p1 v3_1).bind fun r_3 =>
      (fX3_zoneSet c_switches c_zoneSets p2 v3_1).bind fun r_4 =>
      if r_3 = 0 then
        bd (v3_1 + 1) fun v3_6 =>
        fX3_zonesClash_L1 c_switches c_zoneSets p1 p2 fu v3_6
      else
        if r_4 = 0 then
          bd (v3_1 + 1) fun v3_8 =>
          fX3_zonesClash_L1 c_switches c_zoneSets p1 p2 fu v3_8
        else
          if r_3 = r_4 then
            bd (v3_1 + 1) fun v3_10 =>
            fX3_zonesClash_L1 c_switches c_zoneSets p1 p2 fu v3_10
          else
            some (Sum.inl 1)
def fX3_zonesClash (c_switches : Int32) (c_zoneSets : Nat → Int32) (p1 : Int32) (p2 : Int32) : Option (Int32) :=
  (fX3_zonesClash_L1 c_switches c_zoneSets p1 p2 500 0).bind fun v3_11 =>
  Sum.elim (fun y => some y) (fun y_12 =>
    some 0) v3_11
def fX3_outcomeOf (c_switches : Int32) (c_renewing : Int32) (c_blocks : Nat → Int32) (c_upTo : Nat → Int32) (c_zoneSets : Nat → Int32) (p1 : Int32) (p2 : Int32) : Option (Int32) :=
  (fX3_fabricOf c_switches c_upTo p1).bind fun r_1 =>
  (fX7_has r_1 p2).bind fun r_2 =>
  if r_2 = 0 then
    (fX3_blocksIn c_switches c_blocks r_1).bind fun r_4 =>
    (fX3_fabricOf c_switches c_upTo p2).bind fun r_5 =>
    (fX3_blocksIn c_switches c_blocks r_5).bind fun r_6 =>
    if (r_4 &&& r_6) = 0 then
      (fX3_zonesClash c_switches c_zoneSets p1 p2).bind fun r_8 =>
      if r_8 = 0 then
        some 1
      else
        some 4
    else
      (fX3_zonesClash c_switches c_zoneSets p1 p2).bind fun r_12 =>
      if r_12 = 0 then
        if c_renewing = 0 then
          some 3
        else
          some 2
      else
        some 5
  else
    some 0
def fX3_shareZones_L1 (c_switches : Int32) (p1 : Int32) (p2 : Int32) (r_1 : Int32) : Nat → Int32 → (Nat → Int32) → Option (Int32 × (Nat → Int32))
  | 0, _, _ => none
  | fu + 1, v4_2, c_zoneSets_3 =>
    if 4 ≤ v4_2 then
      some (v4_2, c_zoneSets_3)
    else
      (fX3_zoneSet c_switches c_zoneSets_3 p1 v4_2).bind fun r_5 =>
      (fX3_zoneSet c_switches c_zoneSets_3 p2 v4_2).bind fun r_6 =>
      (fX3_setZone c_switches c_zoneSets_3 r_1 v4_2 (r_5 ||| r_6)).bind fun z_7 =>
      bd (v4_2 + 1) fun v4_8 =>
      fX3_shareZones_L1 c_switches p1 p2 r_1 fu v4_8 z_7
def fX3_shareZones (c_switches : Int32) (c_upTo : Nat → Int32) (c_zoneSets : Nat → Int32) (p1 : Int32) (p2 : Int32) : Option (Nat → Int32) :=
  (fX3_fabricOf c_switches c_upTo p1).bind fun r_1 =>
  (fX3_shareZones_L1 c_switches p1 p2 r_1 500 0 c_zoneSets).bind fun z_9 =>
  some z_9.2
def fX3_join (c_switches : Int32) (c_renewing : Int32) (c_priorities : Nat → Int32) (c_names : Nat → Int32) (c_wants : Nat → Int32) (c_blocks : Nat → Int32) (c_upTo : Nat → Int32) (c_clashedTo : Nat → Int32) (c_zoneSets : Nat → Int32) (p1 : Int32) (p2 : Int32) : Option (Int32 × (Nat → Int32) × (Nat → Int32) × (Nat → Int32) × (Nat → Int32)) :=
  (fX3_outcomeOf c_switches c_renewing c_blocks c_upTo c_zoneSets p1 p2).bind fun r_1 =>
  if r_1 < 3 then
    (fX3_setLink c_switches c_upTo c_clashedTo p1 p2 1).bind fun z_3 =>
    if r_1 = 0 then
      if r_1 = 2 then
        (fX3_fabricOf c_switches z_3.1 p1).bind fun r_6 =>
        (fX3_handOut c_switches c_priorities c_names c_wants c_blocks z_3.1 r_6).bind fun z_7 =>
        some (1, z_7.2, z_3.1, z_3.2, c_zoneSets)
      else
        some (1, c_blocks, z_3.1, z_3.2, c_zoneSets)
    else
      (fX3_shareZones c_switches z_3.1 c_zoneSets p1 p2).bind fun z_8 =>
      if r_1 = 2 then
        (fX3_fabricOf c_switches z_3.1 p1).bind fun r_10 =>
        (fX3_handOut c_switches c_priorities c_names c_wants c_blocks z_3.1 r_10).bind fun z_11 =>
        some (1, z_11.2, z_3.1, z_3.2, z_8)
      else
        some (1, c_blocks, z_3.1, z_3.2, z_8)
  else
    (fX3_setLink c_switches c_upTo c_clashedTo p1 p2 2).bind fun z_12 =>
    some (0, c_blocks, z_12.1, z_12.2, c_zoneSets)
def fX3_hostsAt_L1 (c_hosts : Int32) (c_places : Nat → Int32) (p1 : Int32) : Nat → Int32 → Int32 → Option (Int32 × Int32)
  | 0, _, _ => none
  | fu + 1, v2_1, v3_2 =>
    if c_hosts ≤ v3_2 then
      some (v2_1, v3_2)
    else
      gd (inB v3_2 8 = true) <|
      if (c_places v3_2.toNatClampNeg) = (-9) then
        bd (v3_2 + 1) fun v3_5 =>
        fX3_hostsAt_L1 c_hosts c_places p1 fu v2_1 v3_5
      else
        gd (inB v3_2 8 = true) <|
        (fX7_has p1 (c_places v3_2.toNatClampNeg)).bind fun r_6 =>
        if r_6 = 0 then
          bd (v3_2 + 1) fun v3_8 =>
          fX3_hostsAt_L1 c_hosts c_places p1 fu v2_1 v3_8
        else
          bd (v2_1 ||| (1 <<< (v3_2 &&& 31))) fun v2_9 =>
          bd (v3_2 + 1) fun v3_10 =>
          fX3_hostsAt_L1 c_hosts c_places p1 fu v2_9 v3_10
def fX3_hostsAt (c_hosts : Int32) (c_places : Nat → Int32) (p1 : Int32) : Option (Int32) :=
  (fX3_hostsAt_L1 c_hosts c_places p1 500 0 0).bind fun z_11 =>
  some z_11.1
def fX3_zonesEmpty_L1 (c_switches : Int32) (c_zoneSets : Nat → Int32) (p1 : Int32) : Nat → Int32 → Int32 → Option (Int32 × Int32)
  | 0, _, _ => none
  | fu + 1, v2_1, v3_2 =>
    if 4 ≤ v3_2 then
      some (v2_1, v3_2)
    else
      (fX3_zoneSet c_switches c_zoneSets p1 v3_2).bind fun r_4 =>
      bd (v2_1 ||| r_4) fun v2_5 =>
      bd (v3_2 + 1) fun v3_6 =>
      fX3_zonesEmpty_L1 c_switches c_zoneSets p1 fu v2_5 v3_6
def fX3_zonesEmpty (c_switches : Int32) (c_zoneSets : Nat → Int32) (p1 : Int32) : Option (Int32) :=
  (fX3_zonesEmpty_L1 c_switches c_zoneSets p1 500 0 0).bind fun z_7 =>
  if z_7.1 = 0 then
    some 1
  else
    some 0
def fX3_sharingZone_L1 (c_switches : Int32) (c_zoneSets : Nat → Int32) (p1 : Int32) (p2 : Int32) : Nat → Int32 → Int32 → Option (Int32 × Int32)
  | 0, _, _ => none
  | fu + 1, v3_1, v4_2 =>
    if 4 ≤ v4_2 then
      some (v3_1, v4_2)
    else
      (fX3_zoneSet c_switches c_zoneSets p1 v4_2).bind fun r_4 =>
      (fX7_has r_4 p2).bind fun r_5 =>
      if r_5 = 0 then
        bd (v4_2 + 1) fun v4_7 =>
        fX3_sharingZone_L1 c_switches c_zoneSets p1 p2 fu v3_1 v4_7
      else
        (fX3_zoneSet c_switches c_zoneSets p1 v4_2).bind fun r_8 =>
        bd (v3_1 ||| r_8) fun v3_9 =>
        bd (v4_2 + 1) fun v4_10 =>
        fX3_sharingZone_L1 c_switches c_zoneSets p1 p2 fu v3_9 v4_10
def fX3_sharingZone (c_switches : Int32) (c_zoneSets : Nat → Int32) (p1 : Int32) (p2 : Int32) : Option (Int32) :=
  (fX3_sharingZone_L1 c_switches c_zoneSets p1 p2 500 0 0).bind fun z_11 =>
  some z_11.1
def fX3_viewWithin_L1 (c_switches : Int32) (c_hosts : Int32) (c_zoneSets : Nat → Int32) (p1 : Int32) (p2 : Int32) (r_1 : Int32) : Nat → Int64 → Int32 → Option (Int64 × Int32)
  | 0, _, _ => none
  | fu + 1, v3_2, v6_3 =>
    if c_hosts ≤ v6_3 then
      some (v3_2, v6_3)
    else
      (fX7_has p2 v6_3).bind fun r_5 =>
      if r_5 = 0 then
        bd (v6_3 + 1) fun v6_7 =>
        fX3_viewWithin_L1 c_switches c_hosts c_zoneSets p1 p2 r_1 fu v3_2 v6_7
      else
        if r_1 = 0 then
          (fX3_sharingZone c_switches c_zoneSets p1 v6_3).bind fun r_9 =>
          bd (p2 &&& r_9) fun v7_10 =>
          bd (v3_2 ||| (lshl ((v7_10 &&& ((1 <<< (v6_3 &&& 31)) ^^^ (-1))).toInt64) (8 * v6_3))) fun v3_11 =>
          bd (v6_3 + 1) fun v6_12 =>
          fX3_viewWithin_L1 c_switches c_hosts c_zoneSets p1 p2 r_1 fu v3_11 v6_12
        else
          bd (v3_2 ||| (lshl ((p2 &&& ((1 <<< (v6_3 &&& 31)) ^^^ (-1))).toInt64) (8 * v6_3))) fun v3_13 =>
          bd (v6_3 + 1) fun v6_14 =>
          fX3_viewWithin_L1 c_switches c_hosts c_zoneSets p1 p2 r_1 fu v3_13 v6_14
def fX3_viewWithin (c_switches : Int32) (c_hosts : Int32) (c_zoneSets : Nat → Int32) (p1 : Int32) (p2 : Int32) : Option (Int64) :=
  (fX3_zonesEmpty c_switches c_zoneSets p1).bind fun r_1 =>
  (fX3_viewWithin_L1 c_switches c_hosts c_zoneSets p1 p2 r_1 500 0 0).bind fun z_15 =>
  some z_15.1
def fX3_view_L1 (c_switches : Int32) (c_hosts : Int32) (c_upTo : Nat → Int32) (c_zoneSets : Nat → Int32) (c_places : Nat → Int32) : Nat → Int64 → Int32 → Int32 → Option (Int64 × Int32 × Int32)
  | 0, _, _, _ => none
  | fu + 1, v1_1, v3_2, v4_3 =>
    if c_switches ≤ v4_3 then
      some (v1_1, v3_2, v4_3)
    else
      (fX7_has v3_2 v4_3).bind fun r_5 =>
      if r_5 = 0 then
        (fX3_fabricOf c_switches c_upTo v4_3).bind fun r_8 =>
        bd (v3_2 ||| r_8) fun v3_9 =>
        (fX3_hostsAt c_hosts c_places r_8).bind fun r_10 =>
        (fX3_viewWithin c_switches c_hosts c_zoneSets v4_3 r_10).bind fun r_11 =>
        bd (v1_1 ||| r_11) fun v1_12 =>
        bd (v4_3 + 1) fun v4_13 =>
        fX3_view_L1 c_switches c_hosts c_upTo c_zoneSets c_places fu v1_12 v3_9 v4_13
      else
        bd (v4_3 + 1) fun v4_7 =>
        fX3_view_L1 c_switches c_hosts c_upTo c_zoneSets c_places fu v1_1 v3_2 v4_7
def fX3_view (c_switches : Int32) (c_hosts : Int32) (c_upTo : Nat → Int32) (c_zoneSets : Nat → Int32) (c_places : Nat → Int32) : Option (Int64) :=
  (fX3_view_L1 c_switches c_hosts c_upTo c_zoneSets c_places 500 0 0 0).bind fun z_14 =>
  some z_14.1
def fX3_viewWithout (c_switches : Int32) (c_hosts : Int32) (c_upTo : Nat → Int32) (c_clashedTo : Nat → Int32) (c_zoneSets : Nat → Int32) (c_places : Nat → Int32) (p1 : Int32) (p2 : Int32) : Option (Int64 × (Nat → Int32) × (Nat → Int32)) :=
  (fX3_setLink c_switches c_upTo c_clashedTo p1 p2 0).bind fun z_1 =>
  (fX3_view c_switches c_hosts z_1.1 c_zoneSets c_places).bind fun r_2 =>
  (fX3_setLink c_switches z_1.1 z_1.2 p1 p2 1).bind fun z_3 =>
  some (r_2, z_3.1, z_3.2)
def fX7_rowOf (p1 : Int64) (p2 : Int32) : Option (Int32) :=
  some (((lushr p1 (8 * p2)).toInt32) &&& 255)
def fX3_noticeSince_L1 (c_hosts : Int32) (v3_2 : Int64) : Nat → Int32 → (Nat → Int32) → (Nat → Int32) → Option (Int32 × (Nat → Int32) × (Nat → Int32))
  | 0, _, _, _ => none
  | fu + 1, v5_3, c_notices_4, c_news_5 =>
    if c_hosts ≤ v5_3 then
      some (v5_3, c_notices_4, c_news_5)
    else
      (fX7_rowOf v3_2 v5_3).bind fun r_7 =>
      if r_7 = 0 then
        bd (v5_3 + 1) fun v5_9 =>
        fX3_noticeSince_L1 c_hosts v3_2 fu v5_9 c_notices_4 c_news_5
      else
        gd (inB v5_3 8 = true) <|
        gd (inB v5_3 8 = true) <|
        bd (upd c_notices_4 v5_3.toNatClampNeg ((c_notices_4 v5_3.toNatClampNeg) + 1)) fun c_notices_10 =>
        gd (inB v5_3 8 = true) <|
        bd (upd c_news_5 v5_3.toNatClampNeg r_7) fun c_news_11 =>
        bd (v5_3 + 1) fun v5_12 =>
        fX3_noticeSince_L1 c_hosts v3_2 fu v5_12 c_notices_10 c_news_11
def fX3_noticeSince (c_switches : Int32) (c_hosts : Int32) (c_upTo : Nat → Int32) (c_zoneSets : Nat → Int32) (c_places : Nat → Int32) (c_notices : Nat → Int32) (c_news : Nat → Int32) (p1 : Int64) : Option ((Nat → Int32) × (Nat → Int32)) :=
  (fX3_view c_switches c_hosts c_upTo c_zoneSets c_places).bind fun r_1 =>
  bd (p1 ^^^ r_1) fun v3_2 =>
  (fX3_noticeSince_L1 c_hosts v3_2 500 0 c_notices c_news).bind fun z_13 =>
  some (z_13.2.1, z_13.2.2)
def fX4_told : Option (Unit) :=
  some ()
def fX5_letterAt (c_letters : Nat → Int32) (c_size : Int32) (p1 : Int32) : Option (Int32) :=
  if p1 < 0 then
    some (-1)
  else
    if c_size ≤ p1 then
      some (-1)
    else
      gd (inB p1 100 = true) <|
      some (c_letters p1.toNatClampNeg)
def fX5_skipBlanks_L1 (c_letters : Nat → Int32) (c_size : Int32) : Nat → Int32 → Option (Int32)
  | 0, _ => none
  | fu + 1, v2_1 =>
    if c_size ≤ v2_1 then
      some v2_1
    else
      (fX5_letterAt c_letters c_size v2_1).bind fun r_3 =>
      if r_3 = 32 then
        bd (v2_1 + 1) fun v2_5 =>
        fX5_skipBlanks_L1 c_letters c_size fu v2_5
      else
        some v2_1
def fX5_skipBlanks (c_letters : Nat → Int32) (c_size : Int32) (p1 : Int32) : Option (Int32) :=
  (fX5_skipBlanks_L1 c_letters c_size 500 p1).bind fun v2_6 =>
  some v2_6
def fX5_size (c_size : Int32) : Option (Int32) :=
  some c_size
def fX5_isFigure (c_letters : Nat → Int32) (c_size : Int32) (p1 : Int32) : Option (Int32) :=
  (fX5_letterAt c_letters c_size p1).bind fun r_1 =>
  if r_1 < 48 then
    some 0
  else
    (fX5_letterAt c_letters c_size p1).bind fun r_3 =>
    if 57 < r_3 then
      some 0
    else
      some 1
def fX5_tokenEnd_L1 (c_letters : Nat → Int32) (c_size : Int32) : Nat → Int32 → Option (Int32)
  | 0, _ => none
  | fu + 1, v2_4 =>
    if c_size ≤ v2_4 then
      some v2_4
    else
      (fX5_isFigure c_letters c_size v2_4).bind fun r_6 =>
      if r_6 = 0 then
        some v2_4
      else
        bd (v2_4 + 1) fun v2_8 =>
        fX5_tokenEnd_L1 c_letters c_size fu v2_8
def fX5_tokenEnd (c_letters : Nat → Int32) (c_size : Int32) (p1 : Int32) : Option (Int32) :=
  bd (p1 + 1) fun v2_1 =>
  (fX5_isFigure c_letters c_size p1).bind fun r_2 =>
  if r_2 = 0 then
    some v2_1
  else
    (fX5_tokenEnd_L1 c_letters c_size 500 v2_1).bind fun v2_9 =>
    some v2_9
def fX5_numberAt (c_letters : Nat → Int32) (c_size : Int32) (p1 : Int32) (p2 : Int32) : Option (Int32) :=
  (fX5_isFigure c_letters c_size p1).bind fun r_1 =>
  if r_1 = 0 then
    some (-1)
  else
    if (p2 - p1) ≤ 2 then
      (fX5_letterAt c_letters c_size p1).bind fun r_4 =>
      bd (r_4 - 48) fun v3_5 =>
      if (p2 - p1) = 1 then
        some v3_5
      else
        if v3_5 = 0 then
          some (-1)
        else
          (fX5_letterAt c_letters c_size (p1 + 1)).bind fun r_8 =>
          some (((10 * v3_5) + r_8) - 48)
    else
      some (-1)
def fX4_takesItem (t_switches : Int32) (t_hosts : Int32) (p1 : Int32) : Option (Int32 × Int32) :=
  if p1 = 115 then
    (fX3_hostTotal t_hosts).bind fun r_7 =>
    if r_7 = 0 then
      (fX3_switchTotal t_switches).bind fun r_9 =>
      if 6 ≤ r_9 then
        some (0, 1)
      else
        some (1, 1)
    else
      some (0, 1)
  else
    if p1 = 104 then
      (fX3_switchTotal t_switches).bind fun r_3 =>
      if r_3 ≤ 0 then
        some (0, 4)
      else
        (fX3_hostTotal t_hosts).bind fun r_5 =>
        if 8 ≤ r_5 then
          some (0, 4)
        else
          some (1, 4)
    else
      some (0, 4)
def fX4_takesPriority (p1 : Int32) : Option (Int32 × Int32 × Int32) :=
  if p1 < 1 then
    some (0, 2, p1)
  else
    if 9 < p1 then
      some (0, 2, p1)
    else
      some (1, 2, p1)
def fX4_takesName (t_switches : Int32) (t_names : Nat → Int32) (p1 : Int32) : Option (Int32 × Int32 × Int32) :=
  if p1 < 0 then
    some (0, 3, p1)
  else
    (fX3_hasName t_switches t_names p1).bind fun r_2 =>
    if r_2 = 0 then
      some (1, 3, p1)
    else
      some (0, 3, p1)
def fX4_takesWant (c_awaited : Int32) (c_priority : Int32) (c_name : Int32) (t_switches : Int32) (t_priorities : Nat → Int32) (t_names : Nat → Int32) (t_wants : Nat → Int32) (t_blocks : Nat → Int32) (t_upTo : Nat → Int32) (t_clashedTo : Nat → Int32) (t_zoneSets : Nat → Int32) (p1 : Int32) : Option (Int32 × Int32 × Int32 × (Nat → Int32) × (Nat → Int32) × (Nat → Int32) × (Nat → Int32) × (Nat → Int32) × (Nat → Int32) × (Nat → Int32)) :=
  if p1 < 0 then
    some (0, c_awaited, t_switches, t_priorities, t_names, t_wants, t_blocks, t_upTo, t_clashedTo, t_zoneSets)
  else
    if p1 ≤ 8 then
      (fX3_addSwitch t_switches t_priorities t_names t_wants t_blocks t_upTo t_clashedTo t_zoneSets c_priority c_name p1).bind fun z_3 =>
      some (1, 5, z_3.1, z_3.2.1, z_3.2.2.1, z_3.2.2.2.1, z_3.2.2.2.2.1, z_3.2.2.2.2.2.1, z_3.2.2.2.2.2.2.1, z_3.2.2.2.2.2.2.2)
    else
      some (0, c_awaited, t_switches, t_priorities, t_names, t_wants, t_blocks, t_upTo, t_clashedTo, t_zoneSets)
def fX4_takesPlace (c_awaited : Int32) (t_switches : Int32) (t_hosts : Int32) (t_places : Nat → Int32) (t_notices : Nat → Int32) (t_news : Nat → Int32) (p1 : Int32) (p2 : Int32) : Option (Int32 × Int32 × Int32 × (Nat → Int32) × (Nat → Int32) × (Nat → Int32)) :=
  if p1 = 45 then
    if p1 = 45 then
      (fX3_addHost t_hosts t_places t_notices t_news (-9)).bind fun z_4 =>
      some (1, 5, z_4.1, z_4.2.1, z_4.2.2.1, z_4.2.2.2)
    else
      (fX3_addHost t_hosts t_places t_notices t_news p2).bind fun z_3 =>
      some (1, 5, z_3.1, z_3.2.1, z_3.2.2.1, z_3.2.2.2)
  else
    (fX3_hasSwitch t_switches p2).bind fun r_5 =>
    if r_5 = 0 then
      some (0, c_awaited, t_hosts, t_places, t_notices, t_news)
    else
      if p1 = 45 then
        (fX3_addHost t_hosts t_places t_notices t_news (-9)).bind fun z_9 =>
        some (1, 5, z_9.1, z_9.2.1, z_9.2.2.1, z_9.2.2.2)
      else
        (fX3_addHost t_hosts t_places t_notices t_news p2).bind fun z_8 =>
        some (1, 5, z_8.1, z_8.2.1, z_8.2.2.1, z_8.2.2.2)
def fX4_takes (c_awaited : Int32) (c_priority : Int32) (c_name : Int32) (t_switches : Int32) (t_hosts : Int32) (t_priorities : Nat → Int32) (t_names : Nat → Int32) (t_wants : Nat → Int32) (t_blocks : Nat → Int32) (t_upTo : Nat → Int32) (t_clashedTo : Nat → Int32) (t_zoneSets : Nat → Int32) (t_places : Nat → Int32) (t_notices : Nat → Int32) (t_news : Nat → Int32) (p1 : Int32) (p2 : Int32) : Option (Int32 × Int32 × Int32 × Int32 × Int32 × Int32 × (Nat → Int32) × (Nat → Int32) × (Nat → Int32) × (Nat → Int32) × (Nat → Int32) × (Nat → Int32) × (Nat → Int32) × (Nat → Int32) × (Nat → Int32) × (Nat → Int32)) :=
  if c_awaited = 0 then
    (fX4_takesItem t_switches t_hosts p1).bind fun z_1 =>
    gd ((z_1.1 = 0 ∨ z_1.1 = 1)) <|
    some (z_1.1, z_1.2, c_priority, c_name, t_switches, t_hosts, t_priorities, t_names, t_wants, t_blocks, t_upTo, t_clashedTo, t_zoneSets, t_places, t_notices, t_news)
  else
    if c_awaited = 1 then
      (fX4_takesPriority p2).bind fun z_2 =>
      gd ((z_2.1 = 0 ∨ z_2.1 = 1)) <|
      some (z_2.1, z_2.2.1, z_2.2.2, c_name, t_switches, t_hosts, t_priorities, t_names, t_wants, t_blocks, t_upTo, t_clashedTo, t_zoneSets, t_places, t_notices, t_news)
    else
      if c_awaited = 2 then
        (fX4_takesName t_switches t_names p2).bind fun z_3 =>
        gd ((z_3.1 = 0 ∨ z_3.1 = 1)) <|
        some (z_3.1, z_3.2.1, c_priority, z_3.2.2, t_switches, t_hosts, t_priorities, t_names, t_wants, t_blocks, t_upTo, t_clashedTo, t_zoneSets, t_places, t_notices, t_news)
      else
        if c_awaited = 3 then
          (fX4_takesWant c_awaited c_priority c_name t_switches t_priorities t_names t_wants t_blocks t_upTo t_clashedTo t_zoneSets p2).bind fun z_4 =>
          gd ((z_4.1 = 0 ∨ z_4.1 = 1)) <|
          some (z_4.1, z_4.2.1, c_priority, c_name, z_4.2.2.1, t_hosts, z_4.2.2.2.1, z_4.2.2.2.2.1, z_4.2.2.2.2.2.1, z_4.2.2.2.2.2.2.1, z_4.2.2.2.2.2.2.2.1, z_4.2.2.2.2.2.2.2.2.1, z_4.2.2.2.2.2.2.2.2.2, t_places, t_notices, t_news)
        else
          if c_awaited = 4 then
            (fX4_takesPlace c_awaited t_switches t_hosts t_places t_notices t_news p1 p2).bind fun z_5 =>
            gd ((z_5.1 = 0 ∨ z_5.1 = 1)) <|
            some (z_5.1, z_5.2.1, c_priority, c_name, t_switches, z_5.2.2.1, t_priorities, t_names, t_wants, t_blocks, t_upTo, t_clashedTo, t_zoneSets, z_5.2.2.2.1, z_5.2.2.2.2.1, z_5.2.2.2.2.2)
          else
            if p1 = 59 then
              some (1, 0, c_priority, c_name, t_switches, t_hosts, t_priorities, t_names, t_wants, t_blocks, t_upTo, t_clashedTo, t_zoneSets, t_places, t_notices, t_news)
            else
              some (0, 0, c_priority, c_name, t_switches, t_hosts, t_priorities, t_names, t_wants, t_blocks, t_upTo, t_clashedTo, t_zoneSets, t_places, t_notices, t_news)
def fX4_faultOf_L1 (d_letters : Nat → Int32) (d_size : Int32) (z_1 : Int32 × Int32 × Int32) : Nat → Int32 → Int32 → Int32 → Int32 → Int32 → Int32 → Int32 → (Nat → Int32) → (Nat → Int32) → (Nat → Int32) → (Nat → Int32) → (Nat → Int32) → (Nat → Int32) → (Nat → Int32) → (Nat → Int32) → (Nat → Int32) → (Nat → Int32) → Option ((Int32 × Int32 × Int32 × Int32 × Int32 × Int32 × Int32 × (Nat → Int32) × (Nat → Int32) × (Nat → Int32) × (Nat → Int32) × (Nat → Int32) × (Nat → Int32) × (Nat → Int32) × (Nat → Int32) × (Nat → Int32) × (Nat → Int32)) ⊕ (Int32 × Int32 × Int32 × Int32 × Int32 × Int32 × Int32 × (Nat → Int32) × (Nat → Int32) × (Nat → Int32) × (Nat → Int32) × (Nat → Int32) × (Nat → Int32) × (Nat → Int32) × (Nat → Int32) × (Nat → Int32) × (Nat → Int32)))
  | 0, _, _, _, _, _, _, _, _, _, _, _, _, _, _, _, _, _ => none
  | fu + 1, v2_3, v3_4, c_awaited_5, c_priority_6, c_name_7, t_switches_8, t_hosts_9, t_priorities_10, t_names_11, t_wants_12, t_blocks_13, t_upTo_14, t_clashedTo_15, t_zoneSets_16, t_places_17, t_notices_18, t_news_19 =>
    if 100 ≤ v3_4 then
      some (Sum.inr (v2_3, v3_4, c_awaited_5, c_priority_6, c_name_7, t_switches_8, t_hosts_9, t_priorities_10, t_names_11, t_wants_12, t_blocks_13, t_upTo_14, t_clashedTo_15, t_zoneSets_16, t_places_17, t_notices_18, t_news_19))
    else
      (fX5_size d_size).bind fun r_21 =>
      if r_21 ≤ v2_3 then
        some (Sum.inr (v2_3, v3_4, c_awaited_5, c_priority_6, c_name_7, t_switches_8, t_hosts_9, t_priorities_10, t_names_11, t_wants_12, t_blocks_13, t_upTo_14, t_clashedTo_15, t_zoneSets_16, t_places_17, t_notices_18, t_news_19))
      else
        (fX5_tokenEnd d_letters d_size v2_3).bind fun r_23 =>
        (fX5_letterAt d_letters d_size v2_3).bind fun r_24 =>
        (fX5_numberAt d_letters d_size v2_3 r_23).bind fun r_25 =>
        (fX4_takes c_awaited_5 c_priority_6 c_name_7 t_switches_8 t_hosts_9 t_priorities_10 t_names_11 t_wants_12 t_blocks_13 t_upTo_14 t_clashedTo_15 t_zoneSets_16 t_places_17 t_notices_18 t_news_19 r_24 r_25).bind fun z_26 =>
        if z_26.1 = 0 then
          some (Sum.inl (v2_3, z_26.2.1, z_26.2.2.1, z_26.2.2.2.1, z_26.2.2.2.2.1, z_26.2.2.2.2.2.1, z_1.2.2, z_26.2.2.2.2.2.2.1, z_26.2.2.2.2.2.2.2.1, z_26.2.2.2.2.2.2.2.2.1, z_26.2.2.2.2.2.2.2.2.2.1, z_26.2.2.2.2.2.2.2.2.2.2.1, z_26.2.2.2.2.2.2.2.2.2.2.2.1, z_26.2.2.2.2.2.2.2.2.2.2.2.2.1, z_26.2.2.2.2.2.2.2.2.2.2.2.2.2.1, z_26.2.2.2.2.2.2.2.2.2.2.2.2.2.2.1, z_26.2.2.2.2.2.2.2.2.2.2.2.2.2.2.2))
        else
          (fX5_skipBlanks d_letters d_size r_23).bind fun r_28 =>
          bd (v3_4 + 1) fun v3_29 =>
          fX4_faultOf_L1 d_letters d_size z_1 fu r_28 v3_29 z_26.2.1 z_26.2.2.1 z_26.2.2.2.1 z_26.2.2.2.2.1 z_26.2.2.2.2.2.1 z_26.2.2.2.2.2.2.1 z_26.2.2.2.2.2.2.2.1 z_26.2.2.2.2.2.2.2.2.1 z_26.2.2.2.2.2.2.2.2.2.1 z_26.2.2.2.2.2.2.2.2.2.2.1 z_26.2.2.2.2.2.2.2.2.2.2.2.1 z_26.2.2.2.2.2.2.2.2.2.2.2.2.1 z_26.2.2.2.2.2.2.2.2.2.2.2.2.2.1 z_26.2.2.2.2.2.2.2.2.2.2.2.2.2.2.1 z_26.2.2.2.2.2.2.2.2.2.2.2.2.2.2.2
def fX4_faultOf (c_priority : Int32) (c_name : Int32) (t_priorities : Nat → Int32) (t_names : Nat → Int32) (t_wants : Nat → Int32) (t_blocks : Nat → Int32) (t_upTo : Nat → Int32) (t_clashedTo : Nat → Int32) (t_zoneSets : Nat → Int32) (t_places : Nat → Int32) (t_notices : Nat → Int32) (t_news : Nat → Int32) (d_letters : Nat → Int32) (d_size : Int32) : Option (Int32 × Int32 × Int32 × Int32 × Int32 × Int32 × Int32 × (Nat → Int32) × (Nat → Int32) × (Nat → Int32) × (Nat → Int32) × (Nat → Int32) × (Nat → Int32) × (Nat → Int32) × (Nat → Int32) × (Nat → Int32) × (Nat → Int32)) :=
  (fX3_empty).bind fun z_1 =>
  (fX5_skipBlanks d_letters d_size 0).bind fun r_2 =>
  (fX4_faultOf_L1 d_letters d_size z_1 500 r_2 0 0 c_priority c_name z_1.1 z_1.2.1 t_priorities t_names t_wants t_blocks t_upTo t_clashedTo t_zoneSets t_places t_notices t_news).bind fun z_30 =>
  Sum.elim (fun y => some y) (fun y_31 =>
    if y_31.2.2.1 = 0 then
      (fX3_switchTotal y_31.2.2.2.2.2.1).bind fun r_34 =>
      if r_34 ≤ 0 then
        (fX5_size d_size).bind fun r_36 =>
        some (r_36, y_31.2.2.1, y_31.2.2.2.1, y_31.2.2.2.2.1, y_31.2.2.2.2.2.1, y_31.2.2.2.2.2.2.1, z_1.2.2, y_31.2.2.2.2.2.2.2.1, y_31.2.2.2.2.2.2.2.2.1, y_31.2.2.2.2.2.2.2.2.2.1, y_31.2.2.2.2.2.2.2.2.2.2.1, y_31.2.2.2.2.2.2.2.2.2.2.2.1, y_31.2.2.2.2.2.2.2.2.2.2.2.2.1, y_31.2.2.2.2.2.2.2.2.2.2.2.2.2.1, y_31.2.2.2.2.2.2.2.2.2.2.2.2.2.2.1, y_31.2.2.2.2.2.2.2.2.2.2.2.2.2.2.2.1, y_31.2.2.2.2.2.2.2.2.2.2.2.2.2.2.2.2)
      else
        some ((-9), y_31.2.2.1, y_31.2.2.2.1, y_31.2.2.2.2.1, y_31.2.2.2.2.2.1, y_31.2.2.2.2.2.2.1, z_1.2.2, y_31.2.2.2.2.2.2.2.1, y_31.2.2.2.2.2.2.2.2.1, y_31.2.2.2.2.2.2.2.2.2.1, y_31.2.2.2.2.2.2.2.2.2.2.1, y_31.2.2.2.2.2.2.2.2.2.2.2.1, y_31.2.2.2.2.2.2.2.2.2.2.2.2.1, y_31.2.2.2.2.2.2.2.2.2.2.2.2.2.1, y_31.2.2.2.2.2.2.2.2.2.2.2.2.2.2.1, y_31.2.2.2.2.2.2.2.2.2.2.2.2.2.2.2.1, y_31.2.2.2.2.2.2.2.2.2.2.2.2.2.2.2.2)
    else
      (fX5_size d_size).bind fun r_33 =>
      some (r_33, y_31.2.2.1, y_31.2.2.2.1, y_31.2.2.2.2.1, y_31.2.2.2.2.2.1, y_31.2.2.2.2.2.2.1, z_1.2.2, y_31.2.2.2.2.2.2.2.1, y_31.2.2.2.2.2.2.2.2.1, y_31.2.2.2.2.2.2.2.2.2.1, y_31.2.2.2.2.2.2.2.2.2.2.1, y_31.2.2.2.2.2.2.2.2.2.2.2.1, y_31.2.2.2.2.2.2.2.2.2.2.2.2.1, y_31.2.2.2.2.2.2.2.2.2.2.2.2.2.1, y_31.2.2.2.2.2.2.2.2.2.2.2.2.2.2.1, y_31.2.2.2.2.2.2.2.2.2.2.2.2.2.2.2.1, y_31.2.2.2.2.2.2.2.2.2.2.2.2.2.2.2.2)) z_30
def fX5_add (c_letters : Nat → Int32) (c_size : Int32) (p1 : Int32) : Option (Int32 × (Nat → Int32) × Int32) :=
  if c_size < 100 then
    gd (inB c_size 100 = true) <|
    bd (upd c_letters c_size.toNatClampNeg p1) fun c_letters_2 =>
    bd (c_size + 1) fun c_size_3 =>
    some (1, c_letters_2, c_size_3)
  else
    some (0, c_letters, c_size)
def fX5_empty : Option (Int32) :=
  some 0
def fX6_size (c_size : Int32) : Option (Int32) :=
  some c_size
def fX6_codeAt (c_codes : Nat → Int32) (c_size : Int32) (p1 : Int32) : Option (Int32) :=
  if p1 < 0 then
    some (-9)
  else
    if c_size ≤ p1 then
      some (-9)
    else
      gd (inB p1 15 = true) <|
      some (c_codes p1.toNatClampNeg)
def fX6_cutEach_L2 (d_switches : Int32) (d_hosts : Int32) (d_zoneSets : Nat → Int32) (d_places : Nat → Int32) (v2_1 : Int32) : Nat → Int32 → (Nat → Int32) → (Nat → Int64) → Int32 → (Nat → Int32) → (Nat → Int32) → Option (Int32 × (Nat → Int32) × (Nat → Int64) × Int32 × (Nat → Int32) × (Nat → Int32))
  | 0, _, _, _, _, _, _ => none
  | fu + 1, v3_10, c_codes_11, c_views_12, c_size_13, d_upTo_14, d_clashedTo_15 =>
    (fX3_switchTotal d_switches).bind fun r_16 =>
    if r_16 ≤ v3_10 then
      some (v3_10, c_codes_11, c_views_12, c_size_13, d_upTo_14, d_clashedTo_15)
    else
      (fX3_isUp d_switches d_upTo_14 d_clashedTo_15 v2_1 v3_10).bind fun r_18 =>
      if r_18 = 0 then
        bd (v3_10 + 1) fun v3_20 =>
        fX6_cutEach_L2 d_switches d_hosts d_zoneSets d_places v2_1 fu v3_20 c_codes_11 c_views_12 c_size_13 d_upTo_14 d_clashedTo_15
      else
        if 15 ≤ c_size_13 then
          bd (v3_10 + 1) fun v3_22 =>
          fX6_cutEach_L2 d_switches d_hosts d_zoneSets d_places v2_1 fu v3_22 c_codes_11 c_views_12 c_size_13 d_upTo_14 d_clashedTo_15
        else
          gd (inB c_size_13 15 = true) <|
          bd (upd c_codes_11 c_size_13.toNatClampNeg ((10 * v2_1) + v3_10)) fun c_codes_23 =>
          (fX3_viewWithout d_switches d_hosts d_upTo_14 d_clashedTo_15 d_zoneSets d_places v2_1 v3_10).bind fun z_24 =>
          gd (inB c_size_13 15 = true) <|
          bd (vp_updL c_views_12 c_size_13.toNatClampNeg z_24.1) fun c_views_25 =>
          bd (c_size_13 + 1) fun c_size_26 =>
          bd (v3_10 + 1) fun v3_27 =>
          fX6_cutEach_L2 d_switches d_hosts d_zoneSets d_places v2_1 fu v3_27 c_codes_23 c_views_25 c_size_26 z_24.2.1 z_24.2.2
def fX6_cutEach_L1 (d_switches : Int32) (d_hosts : Int32) (d_zoneSets : Nat → Int32) (d_places : Nat → Int32) : Nat → Int32 → (Nat → Int32) → (Nat → Int64) → Int32 → (Nat → Int32) → (Nat → Int32) → Option (Int32 × (Nat → Int32) × (Nat → Int64) × Int32 × (Nat → Int32) × (Nat → Int32))
  | 0, _, _, _, _, _, _ => none
  | fu + 1, v2_1, c_codes_2, c_views_3, c_size_4, d_upTo_5, d_clashedTo_6 =>
    (fX3_switchTotal d_switches).bind fun r_7 =>
    if r_7 ≤ v2_1 then
      some (v2_1, c_codes_2, c_views_3, c_size_4, d_upTo_5, d_clashedTo_6)
    else
      bd (v2_1 + 1) fun v3_9 =>
      (fX6_cutEach_L2 d_switches d_hosts d_zoneSets d_places v2_1 500 v3_9 c_codes_2 c_views_3 c_size_4 d_upTo_5 d_clashedTo_6).bind fun z_28 =>
      bd (v2_1 + 1) fun v2_29 =>
      fX6_cutEach_L1 d_switches d_hosts d_zoneSets d_places fu v2_29 z_28.2.1 z_28.2.2.1 z_28.2.2.2.1 z_28.2.2.2.2.1 z_28.2.2.2.2.2
def fX6_cutEach (c_codes : Nat → Int32) (c_views : Nat → Int64) (d_switches : Int32) (d_hosts : Int32) (d_upTo : Nat → Int32) (d_clashedTo : Nat → Int32) (d_zoneSets : Nat → Int32) (d_places : Nat → Int32) : Option ((Nat → Int32) × (Nat → Int64) × Int32 × (Nat → Int32) × (Nat → Int32)) :=
  (fX6_cutEach_L1 d_switches d_hosts d_zoneSets d_places 500 0 c_codes c_views 0 d_upTo d_clashedTo).bind fun z_30 =>
  some (z_30.2.1, z_30.2.2.1, z_30.2.2.2.1, z_30.2.2.2.2.1, z_30.2.2.2.2.2)
def fX6_dropUnfit_L1 (c_size : Int32) (d_mentioned : Int32) (d_seen : Int64) (d_unseen : Int64) (p2 : Int32) : Nat → Int32 → Int32 → (Nat → Int32) → (Nat → Int64) → Option (Int32 × Int32 × (Nat → Int32) × (Nat → Int64))
  | 0, _, _, _, _ => none
  | fu + 1, v3_1, v4_2, c_codes_3, c_views_4 =>
    if c_size ≤ v4_2 then
      some (v3_1, v4_2, c_codes_3, c_views_4)
    else
      gd (inB v4_2 15 = true) <|
      (fX1_fit d_mentioned d_seen d_unseen (c_views_4 v4_2.toNatClampNeg) p2).bind fun r_6 =>
      if r_6 = 0 then
        bd (v4_2 + 1) fun v4_8 =>
        fX6_dropUnfit_L1 c_size d_mentioned d_seen d_unseen p2 fu v3_1 v4_8 c_codes_3 c_views_4
      else
        gd (inB v4_2 15 = true) <|
        gd (inB v3_1 15 = true) <|
        bd (upd c_codes_3 v3_1.toNatClampNeg (c_codes_3 v4_2.toNatClampNeg)) fun c_codes_9 =>
        gd (inB v4_2 15 = true) <|
        gd (inB v3_1 15 = true) <|
        bd (vp_updL c_views_4 v3_1.toNatClampNeg (c_views_4 v4_2.toNatClampNeg)) fun c_views_10 =>
        bd (v3_1 + 1) fun v3_11 =>
        bd (v4_2 + 1) fun v4_12 =>
        fX6_dropUnfit_L1 c_size d_mentioned d_seen d_unseen p2 fu v3_11 v4_12 c_codes_9 c_views_10
def fX6_dropUnfit (c_codes : Nat → Int32) (c_views : Nat → Int64) (c_size : Int32) (d_mentioned : Int32) (d_seen : Int64) (d_unseen : Int64) (p2 : Int32) : Option ((Nat → Int32) × (Nat → Int64) × Int32) :=
  (fX6_dropUnfit_L1 c_size d_mentioned d_seen d_unseen p2 500 0 0 c_codes c_views).bind fun z_13 =>
  some (z_13.2.2.1, z_13.2.2.2, z_13.1)
def fJ13_bitCount_95d88 (p1 : Int64) : Option (Int32) :=
  bd (p1 - ((lushr p1 1) &&& 6148914691236517205)) fun v0_1 =>
  bd ((v0_1 &&& 3689348814741910323) + ((lushr v0_1 2) &&& 3689348814741910323)) fun v0_2 =>
  bd ((v0_2 + (lushr v0_2 4)) &&& 1085102592571150095) fun v0_3 =>
  bd (v0_3 + (lushr v0_3 8)) fun v0_4 =>
  bd (v0_4 + (lushr v0_4 16)) fun v0_5 =>
  bd (v0_5 + (lushr v0_5 32)) fun v0_6 =>
  some (v0_6.toInt32 &&& 127)
def fX7_twosOf (p1 : Int64) : Option (Int32) :=
  (fJ13_bitCount_95d88 p1).bind fun r_1 =>
  some (r_1 / 2)
def fX6_lostAt (c_views : Nat → Int64) (c_size : Int32) (p1 : Int32) (p2 : Int64) : Option (Int32) :=
  if p1 < 0 then
    some 0
  else
    if c_size ≤ p1 then
      some 0
    else
      gd (inB p1 15 = true) <|
      (fX7_twosOf (p2 &&& ((c_views p1.toNatClampNeg) ^^^ (-1)))).bind fun r_3 =>
      some r_3
def fX6_dearest_L1 (c_views : Nat → Int64) (c_size : Int32) (p1 : Int64) : Nat → Int32 → Int32 → Option (Int32 × Int32)
  | 0, _, _ => none
  | fu + 1, v3_1, v4_2 =>
    if c_size ≤ v4_2 then
      some (v3_1, v4_2)
    else
      (fX6_lostAt c_views c_size v4_2 p1).bind fun r_4 =>
      (fX6_lostAt c_views c_size v3_1 p1).bind fun r_5 =>
      if r_4 ≤ r_5 then
        bd (v4_2 + 1) fun v4_7 =>
        fX6_dearest_L1 c_views c_size p1 fu v3_1 v4_7
      else
        bd (v4_2 + 1) fun v4_8 =>
        fX6_dearest_L1 c_views c_size p1 fu v4_2 v4_8
def fX6_dearest (c_views : Nat → Int64) (c_size : Int32) (p1 : Int64) : Option (Int32) :=
  (fX6_dearest_L1 c_views c_size p1 500 0 1).bind fun z_9 =>
  some z_9.1
def fX6_mostAlike_L1 (c_views : Nat → Int64) (c_size : Int32) (p1 : Int64) : Nat → Int32 → Int32 → Option (Int32 × Int32)
  | 0, _, _ => none
  | fu + 1, v3_1, v4_2 =>
    if c_size ≤ v4_2 then
      some (v3_1, v4_2)
    else
      gd (inB v4_2 15 = true) <|
      if (lg_cmp ((c_views v4_2.toNatClampNeg) &&& p1) 0) = 0 then
        bd (v4_2 + 1) fun v4_5 =>
        fX6_mostAlike_L1 c_views c_size p1 fu v3_1 v4_5
      else
        bd (v3_1 + 1) fun v3_6 =>
        bd (v4_2 + 1) fun v4_7 =>
        fX6_mostAlike_L1 c_views c_size p1 fu v3_6 v4_7
def fX6_mostAlike (c_views : Nat → Int64) (c_size : Int32) (p1 : Int64) : Option (Int32) :=
  (fX6_mostAlike_L1 c_views c_size p1 500 0 0).bind fun z_8 =>
  some (if z_8.1 < (c_size - z_8.1) then (c_size - z_8.1) else z_8.1)
def fX6_bestQuestion_L2 (c_views : Nat → Int64) (c_size : Int32) (p1 : Int32) (v4_4 : Int32) : Nat → Int32 → Int32 → Int32 → Option (Int32 × Int32 × Int32)
  | 0, _, _, _ => none
  | fu + 1, v2_7, v3_8, v5_9 =>
    if p1 ≤ v5_9 then
      some (v2_7, v3_8, v5_9)
    else
      (fX7_viewBit v4_4 v5_9).bind fun r_11 =>
      (fX6_mostAlike c_views c_size r_11).bind fun r_12 =>
      if v3_8 ≤ r_12 then
        bd (v5_9 + 1) fun v5_14 =>
        fX6_bestQuestion_L2 c_views c_size p1 v4_4 fu v2_7 v3_8 v5_14
      else
        bd ((10 * v4_4) + v5_9) fun v2_15 =>
        bd (v5_9 + 1) fun v5_16 =>
        fX6_bestQuestion_L2 c_views c_size p1 v4_4 fu v2_15 r_12 v5_16
def fX6_bestQuestion_L1 (c_views : Nat → Int64) (c_size : Int32) (p1 : Int32) : Nat → Int32 → Int32 → Int32 → Option (Int32 × Int32 × Int32)
  | 0, _, _, _ => none
  | fu + 1, v2_2, v3_3, v4_4 =>
    if p1 ≤ v4_4 then
      some (v2_2, v3_3, v4_4)
    else
      bd (v4_4 + 1) fun v5_6 =>
      (fX6_bestQuestion_L2 c_views c_size p1 v4_4 500 v2_2 v3_3 v5_6).bind fun z_17 =>
      bd (v4_4 + 1) fun v4_18 =>
      fX6_bestQuestion_L1 c_views c_size p1 fu z_17.1 z_17.2.1 v4_18
def fX6_bestQuestion (c_views : Nat → Int64) (c_size : Int32) (p1 : Int32) : Option (Int32) :=
  bd (c_size + 1) fun v3_1 =>
  (fX6_bestQuestion_L1 c_views c_size p1 500 (-9) v3_1 0).bind fun z_19 =>
  some z_19.1
def fX7_type (s_letters : Nat → Int32) (s_size : Int32) (p1 : Int32) : Option (Int32 × (Nat → Int32) × Int32) :=
  if p1 < 0 then
    some ((-1), s_letters, s_size)
  else
    if p1 ≤ 255 then
      (fX5_add s_letters s_size p1).bind fun z_3 =>
      if z_3.1 = 0 then
        some ((-3), z_3.2.1, z_3.2.2)
      else
        (fX5_size z_3.2.2).bind fun r_5 =>
        some (r_5, z_3.2.1, z_3.2.2)
    else
      some ((-1), s_letters, s_size)
def fX7_clear (s_size : Int32) : Option (Int32 × Int32) :=
  (fX5_size s_size).bind fun r_1 =>
  (fX5_empty).bind fun z_2 =>
  some (r_1, z_2)
def fX7_tells (s_letters : Nat → Int32) (s_size : Int32) (r_priority : Int32) (r_name : Int32) (t_priorities : Nat → Int32) (t_names : Nat → Int32) (t_wants : Nat → Int32) (t_blocks : Nat → Int32) (t_upTo : Nat → Int32) (t_clashedTo : Nat → Int32) (t_zoneSets : Nat → Int32) (t_places : Nat → Int32) (t_notices : Nat → Int32) (t_news : Nat → Int32) (n_switches : Int32) (n_hosts : Int32) (n_renewing : Int32) (n_priorities : Nat → Int32) (n_names : Nat → Int32) (n_wants : Nat → Int32) (n_blocks : Nat → Int32) (n_upTo : Nat → Int32) (n_clashedTo : Nat → Int32) (n_zoneSets : Nat → Int32) (n_places : Nat → Int32) (n_notices : Nat → Int32) (n_news : Nat → Int32) (h_nets : Nat → NetT) (h_oldest : Int32) (h_size : Int32) (b_kept : Int32) (k_size : Int32) (k_mentioned : Int32) (k_seen : Int64) (k_unseen : Int64) : Option (Int32 × Int32 × Int32 × Int32 × Int32 × Int32 × Int32 × Int32 × (Nat → Int32) × (Nat → Int32) × (Nat → Int32) × (Nat → Int32) × (Nat → Int32) × (Nat → Int32) × (Nat → Int32) × (Nat → Int32) × (Nat → Int32) × (Nat → Int32) × Int32 × Int32 × Int32 × (Nat → Int32) × (Nat → Int32) × (Nat → Int32) × (Nat → Int32) × (Nat → Int32) × (Nat → Int32) × (Nat → Int32) × (Nat → Int32) × (Nat → Int32) × (Nat → Int32) × (Nat → NetT) × Int32 × Int32 × Int32 × Int32 × Int32 × Int64 × Int64) :=
  (fX4_faultOf r_priority r_name t_priorities t_names t_wants t_blocks t_upTo t_clashedTo t_zoneSets t_places t_notices t_news s_letters s_size).bind fun z_1 =>
  if z_1.1 = (-9) then
    (fX2_remember h_nets h_oldest h_size n_switches n_hosts n_renewing n_priorities n_names n_wants n_blocks n_upTo n_clashedTo n_zoneSets n_places n_notices n_news).bind fun z_3 =>
    (fX4_told).bind fun z_4 =>
    (fX3_copyFrom n_priorities n_names n_wants n_blocks n_upTo n_clashedTo n_zoneSets n_places n_notices n_news z_1.2.2.2.2.1 z_1.2.2.2.2.2.1 z_1.2.2.2.2.2.2.1 z_1.2.2.2.2.2.2.2.1 z_1.2.2.2.2.2.2.2.2.1 z_1.2.2.2.2.2.2.2.2.2.1 z_1.2.2.2.2.2.2.2.2.2.2.1 z_1.2.2.2.2.2.2.2.2.2.2.2.1 z_1.2.2.2.2.2.2.2.2.2.2.2.2.1 z_1.2.2.2.2.2.2.2.2.2.2.2.2.2.1 z_1.2.2.2.2.2.2.2.2.2.2.2.2.2.2.1 z_1.2.2.2.2.2.2.2.2.2.2.2.2.2.2.2.1 z_1.2.2.2.2.2.2.2.2.2.2.2.2.2.2.2.2).bind fun z_5 =>
    (fX5_empty).bind fun z_6 =>
    (fX1_empty).bind fun z_7 =>
    (fX0_empty).bind fun z_8 =>
    (fX3_switchTotal z_5.1).bind fun r_9 =>
    (fX3_hostTotal z_5.2.1).bind fun r_10 =>
    some ((r_9 + r_10), z_6, z_1.2.1, z_1.2.2.1, z_1.2.2.2.1, z_1.2.2.2.2.1, z_1.2.2.2.2.2.1, z_1.2.2.2.2.2.2.1, z_1.2.2.2.2.2.2.2.1, z_1.2.2.2.2.2.2.2.2.1, z_1.2.2.2.2.2.2.2.2.2.1, z_1.2.2.2.2.2.2.2.2.2.2.1, z_1.2.2.2.2.2.2.2.2.2.2.2.1, z_1.2.2.2.2.2.2.2.2.2.2.2.2.1, z_1.2.2.2.2.2.2.2.2.2.2.2.2.2.1, z_1.2.2.2.2.2.2.2.2.2.2.2.2.2.2.1, z_1.2.2.2.2.2.2.2.2.2.2.2.2.2.2.2.1, z_1.2.2.2.2.2.2.2.2.2.2.2.2.2.2.2.2, z_5.1, z_5.2.1, z_5.2.2.1, z_5.2.2.2.1, z_5.2.2.2.2.1, z_5.2.2.2.2.2.1, z_5.2.2.2.2.2.2.1, z_5.2.2.2.2.2.2.2.1, z_5.2.2.2.2.2.2.2.2.1, z_5.2.2.2.2.2.2.2.2.2.1, z_5.2.2.2.2.2.2.2.2.2.2.1, z_5.2.2.2.2.2.2.2.2.2.2.2.1, z_5.2.2.2.2.2.2.2.2.2.2.2.2, z_3.1, z_3.2.1, z_3.2.2, z_8, z_7.1, z_7.2.1, z_7.2.2.1, z_7.2.2.2)
  else
    some (((-10) - z_1.1), s_size, z_1.2.1, z_1.2.2.1, z_1.2.2.2.1, z_1.2.2.2.2.1, z_1.2.2.2.2.2.1, z_1.2.2.2.2.2.2.1, z_1.2.2.2.2.2.2.2.1, z_1.2.2.2.2.2.2.2.2.1, z_1.2.2.2.2.2.2.2.2.2.1, z_1.2.2.2.2.2.2.2.2.2.2.1, z_1.2.2.2.2.2.2.2.2.2.2.2.1, z_1.2.2.2.2.2.2.2.2.2.2.2.2.1, z_1.2.2.2.2.2.2.2.2.2.2.2.2.2.1, z_1.2.2.2.2.2.2.2.2.2.2.2.2.2.2.1, z_1.2.2.2.2.2.2.2.2.2.2.2.2.2.2.2.1, z_1.2.2.2.2.2.2.2.2.2.2.2.2.2.2.2.2, n_switches, n_hosts, n_renewing, n_priorities, n_names, n_wants, n_blocks, n_upTo, n_clashedTo, n_zoneSets, n_places, n_notices, n_news, h_nets, h_oldest, h_size, b_kept, k_size, k_mentioned, k_seen, k_unseen)
def fX7_rememberView (n_switches : Int32) (n_hosts : Int32) (n_renewing : Int32) (n_priorities : Nat → Int32) (n_names : Nat → Int32) (n_wants : Nat → Int32) (n_blocks : Nat → Int32) (n_upTo : Nat → Int32) (n_clashedTo : Nat → Int32) (n_zoneSets : Nat → Int32) (n_places : Nat → Int32) (n_notices : Nat → Int32) (n_news : Nat → Int32) (h_nets : Nat → NetT) (h_oldest : Int32) (h_size : Int32) : Option (Int64 × (Nat → NetT) × Int32 × Int32) :=
  (fX2_remember h_nets h_oldest h_size n_switches n_hosts n_renewing n_priorities n_names n_wants n_blocks n_upTo n_clashedTo n_zoneSets n_places n_notices n_news).bind fun z_1 =>
  (fX3_view n_switches n_hosts n_upTo n_zoneSets n_places).bind fun r_2 =>
  some (r_2, z_1.1, z_1.2.1, z_1.2.2)
def fX7_joins (n_switches : Int32) (n_hosts : Int32) (n_renewing : Int32) (n_priorities : Nat → Int32) (n_names : Nat → Int32) (n_wants : Nat → Int32) (n_blocks : Nat → Int32) (n_upTo : Nat → Int32) (n_clashedTo : Nat → Int32) (n_zoneSets : Nat → Int32) (n_places : Nat → Int32) (n_notices : Nat → Int32) (n_news : Nat → Int32) (h_nets : Nat → NetT) (h_oldest : Int32) (h_size : Int32) (p1 : Int32) (p2 : Int32) : Option (Int32 × (Nat → Int32) × (Nat → Int32) × (Nat → Int32) × (Nat → Int32) × (Nat → Int32) × (Nat → Int32) × (Nat → NetT) × Int32 × Int32) :=
  (fX3_hasTwo n_switches p1 p2).bind fun r_1 =>
  if r_1 = 0 then
    some ((-1), n_blocks, n_upTo, n_clashedTo, n_zoneSets, n_notices, n_news, h_nets, h_oldest, h_size)
  else
    (fX3_isUp n_switches n_upTo n_clashedTo p1 p2).bind fun r_3 =>
    if r_3 = 0 then
      (fX7_rememberView n_switches n_hosts n_renewing n_priorities n_names n_wants n_blocks n_upTo n_clashedTo n_zoneSets n_places n_notices n_news h_nets h_oldest h_size).bind fun z_5 =>
      (fX3_join n_switches n_renewing n_priorities n_names n_wants n_blocks n_upTo n_clashedTo n_zoneSets p1 p2).bind fun z_6 =>
      (fX3_noticeSince n_switches n_hosts z_6.2.2.1 z_6.2.2.2.2 n_places n_notices n_news z_5.1).bind fun z_7 =>
      if z_6.1 = 0 then
        some (0, z_6.2.1, z_6.2.2.1, z_6.2.2.2.1, z_6.2.2.2.2, z_7.1, z_7.2, z_5.2.1, z_5.2.2.1, z_5.2.2.2)
      else
        some (1, z_6.2.1, z_6.2.2.1, z_6.2.2.2.1, z_6.2.2.2.2, z_7.1, z_7.2, z_5.2.1, z_5.2.2.1, z_5.2.2.2)
    else
      some ((-2), n_blocks, n_upTo, n_clashedTo, n_zoneSets, n_notices, n_news, h_nets, h_oldest, h_size)
def fX7_cuts (n_switches : Int32) (n_hosts : Int32) (n_renewing : Int32) (n_priorities : Nat → Int32) (n_names : Nat → Int32) (n_wants : Nat → Int32) (n_blocks : Nat → Int32) (n_upTo : Nat → Int32) (n_clashedTo : Nat → Int32) (n_zoneSets : Nat → Int32) (n_places : Nat → Int32) (n_notices : Nat → Int32) (n_news : Nat → Int32) (h_nets : Nat → NetT) (h_oldest : Int32) (h_size : Int32) (p1 : Int32) (p2 : Int32) : Option (Int32 × (Nat → Int32) × (Nat → Int32) × (Nat → Int32) × (Nat → Int32) × (Nat → NetT) × Int32 × Int32) :=
  (fX3_hasTwo n_switches p1 p2).bind fun r_1 =>
  if r_1 = 0 then
    some ((-1), n_upTo, n_clashedTo, n_notices, n_news, h_nets, h_oldest, h_size)
  else
    (fX3_linkState n_switches n_upTo n_clashedTo p1 p2).bind fun r_3 =>
    if r_3 = 0 then
      some ((-2), n_upTo, n_clashedTo, n_notices, n_news, h_nets, h_oldest, h_size)
    else
      (fX7_rememberView n_switches n_hosts n_renewing n_priorities n_names n_wants n_blocks n_upTo n_clashedTo n_zoneSets n_places n_notices n_news h_nets h_oldest h_size).bind fun z_5 =>
      (fX3_setLink n_switches n_upTo n_clashedTo p1 p2 0).bind fun z_6 =>
      (fX3_noticeSince n_switches n_hosts z_6.1 n_zoneSets n_places n_notices n_news z_5.1).bind fun z_7 =>
      (fX3_fabricTotal n_switches z_6.1).bind fun r_8 =>
      some (r_8, z_6.1, z_6.2, z_7.1, z_7.2, z_5.2.1, z_5.2.2.1, z_5.2.2.2)
def fX7_zones (n_switches : Int32) (n_hosts : Int32) (n_renewing : Int32) (n_priorities : Nat → Int32) (n_names : Nat → Int32) (n_wants : Nat → Int32) (n_blocks : Nat → Int32) (n_upTo : Nat → Int32) (n_clashedTo : Nat → Int32) (n_zoneSets : Nat → Int32) (n_places : Nat → Int32) (n_notices : Nat → Int32) (n_news : Nat → Int32) (h_nets : Nat → NetT) (h_oldest : Int32) (h_size : Int32) (p1 : Int32) (p2 : Int32) (p3 : Int32) : Option (Int32 × (Nat → Int32) × (Nat → Int32) × (Nat → Int32) × (Nat → NetT) × Int32 × Int32) :=
  (fX3_hasSwitch n_switches p1).bind fun r_1 =>
  if r_1 = 0 then
    some ((-1), n_zoneSets, n_notices, n_news, h_nets, h_oldest, h_size)
  else
    if p2 < 0 then
      some ((-1), n_zoneSets, n_notices, n_news, h_nets, h_oldest, h_size)
    else
      if 4 ≤ p2 then
        some ((-1), n_zoneSets, n_notices, n_news, h_nets, h_oldest, h_size)
      else
        if p3 < 0 then
          some ((-1), n_zoneSets, n_notices, n_news, h_nets, h_oldest, h_size)
        else
          (fX3_everyHost n_hosts).bind fun r_6 =>
          if p3 ≤ r_6 then
            (fX3_zoneSet n_switches n_zoneSets p1 p2).bind fun r_8 =>
            if r_8 = p3 then
              some ((-2), n_zoneSets, n_notices, n_news, h_nets, h_oldest, h_size)
            else
              (fX7_rememberView n_switches n_hosts n_renewing n_priorities n_names n_wants n_blocks n_upTo n_clashedTo n_zoneSets n_places n_notices n_news h_nets h_oldest h_size).bind fun z_10 =>
              (fX3_fabricOf n_switches n_upTo p1).bind fun r_11 =>
              (fX3_setZone n_switches n_zoneSets r_11 p2 p3).bind fun z_12 =>
              (fX3_noticeSince n_switches n_hosts n_upTo z_12 n_places n_notices n_news z_10.1).bind fun z_13 =>
              some (r_8, z_12, z_13.1, z_13.2, z_10.2.1, z_10.2.2.1, z_10.2.2.2)
          else
            some ((-1), n_zoneSets, n_notices, n_news, h_nets, h_oldest, h_size)
def fX7_moves (n_switches : Int32) (n_hosts : Int32) (n_renewing : Int32) (n_priorities : Nat → Int32) (n_names : Nat → Int32) (n_wants : Nat → Int32) (n_blocks : Nat → Int32) (n_upTo : Nat → Int32) (n_clashedTo : Nat → Int32) (n_zoneSets : Nat → Int32) (n_places : Nat → Int32) (n_notices : Nat → Int32) (n_news : Nat → Int32) (h_nets : Nat → NetT) (h_oldest : Int32) (h_size : Int32) (p1 : Int32) (p2 : Int32) : Option (Int32 × (Nat → Int32) × (Nat → Int32) × (Nat → Int32) × (Nat → NetT) × Int32 × Int32) :=
  (fX3_hasHost n_hosts p1).bind fun r_1 =>
  if r_1 = 0 then
    some ((-1), n_places, n_notices, n_news, h_nets, h_oldest, h_size)
  else
    if p2 = (-9) then
      (fX3_placeOf n_hosts n_places p1).bind fun r_4 =>
      if r_4 = p2 then
        some ((-2), n_places, n_notices, n_news, h_nets, h_oldest, h_size)
      else
        (fX7_rememberView n_switches n_hosts n_renewing n_priorities n_names n_wants n_blocks n_upTo n_clashedTo n_zoneSets n_places n_notices n_news h_nets h_oldest h_size).bind fun z_6 =>
        (fX3_setPlace n_hosts n_places p1 p2).bind fun z_7 =>
        (fX3_noticeSince n_switches n_hosts n_upTo n_zoneSets z_7 n_notices n_news z_6.1).bind fun z_8 =>
        some (r_4, z_7, z_8.1, z_8.2, z_6.2.1, z_6.2.2.1, z_6.2.2.2)
    else
      (fX3_hasSwitch n_switches p2).bind fun r_9 =>
      if r_9 = 0 then
        some ((-1), n_places, n_notices, n_news, h_nets, h_oldest, h_size)
      else
        (fX3_placeOf n_hosts n_places p1).bind fun r_11 =>
        if r_11 = p2 then
          some ((-2), n_places, n_notices, n_news, h_nets, h_oldest, h_size)
        else
          (fX7_rememberView n_switches n_hosts n_renewing n_priorities n_names n_wants n_blocks n_upTo n_clashedTo n_zoneSets n_places n_notices n_news h_nets h_oldest h_size).bind fun z_13 =>
          (fX3_setPlace n_hosts n_places p1 p2).bind fun z_14 =>
          (fX3_noticeSince n_switches n_hosts n_upTo n_zoneSets z_14 n_notices n_news z_13.1).bind fun z_15 =>
          some (r_11, z_14, z_15.1, z_15.2, z_13.2.1, z_13.2.2.1, z_13.2.2.2)
def fX7_ranks (n_switches : Int32) (n_hosts : Int32) (n_renewing : Int32) (n_priorities : Nat → Int32) (n_names : Nat → Int32) (n_wants : Nat → Int32) (n_blocks : Nat → Int32) (n_upTo : Nat → Int32) (n_clashedTo : Nat → Int32) (n_zoneSets : Nat → Int32) (n_places : Nat → Int32) (n_notices : Nat → Int32) (n_news : Nat → Int32) (h_nets : Nat → NetT) (h_oldest : Int32) (h_size : Int32) (p1 : Int32) (p2 : Int32) : Option (Int32 × (Nat → Int32) × (Nat → NetT) × Int32 × Int32) :=
  (fX3_hasSwitch n_switches p1).bind fun r_1 =>
  if r_1 = 0 then
    some ((-1), n_priorities, h_nets, h_oldest, h_size)
  else
    if p2 < 1 then
      some ((-1), n_priorities, h_nets, h_oldest, h_size)
    else
      if p2 ≤ 9 then
        (fX3_priorityOf n_switches n_priorities p1).bind fun r_5 =>
        if r_5 = p2 then
          some ((-2), n_priorities, h_nets, h_oldest, h_size)
        else
          (fX2_remember h_nets h_oldest h_size n_switches n_hosts n_renewing n_priorities n_names n_wants n_blocks n_upTo n_clashedTo n_zoneSets n_places n_notices n_news).bind fun z_7 =>
          (fX3_setPriority n_switches n_priorities p1 p2).bind fun z_8 =>
          some (r_5, z_8, z_7.1, z_7.2.1, z_7.2.2)
      else
        some ((-1), n_priorities, h_nets, h_oldest, h_size)
def fX7_renews (n_switches : Int32) (n_hosts : Int32) (n_renewing : Int32) (n_priorities : Nat → Int32) (n_names : Nat → Int32) (n_wants : Nat → Int32) (n_blocks : Nat → Int32) (n_upTo : Nat → Int32) (n_clashedTo : Nat → Int32) (n_zoneSets : Nat → Int32) (n_places : Nat → Int32) (n_notices : Nat → Int32) (n_news : Nat → Int32) (h_nets : Nat → NetT) (h_oldest : Int32) (h_size : Int32) (p1 : Int32) : Option (Int32 × (Nat → Int32) × (Nat → NetT) × Int32 × Int32) :=
  (fX3_hasSwitch n_switches p1).bind fun r_1 =>
  if r_1 = 0 then
    some ((-1), n_blocks, h_nets, h_oldest, h_size)
  else
    (fX2_remember h_nets h_oldest h_size n_switches n_hosts n_renewing n_priorities n_names n_wants n_blocks n_upTo n_clashedTo n_zoneSets n_places n_notices n_news).bind fun z_3 =>
    (fX3_fabricOf n_switches n_upTo p1).bind fun r_4 =>
    (fX3_handOut n_switches n_priorities n_names n_wants n_blocks n_upTo r_4).bind fun z_5 =>
    some (z_5.1, z_5.2, z_3.1, z_3.2.1, z_3.2.2)
def fX7_allows (n_switches : Int32) (n_hosts : Int32) (n_renewing : Int32) (n_priorities : Nat → Int32) (n_names : Nat → Int32) (n_wants : Nat → Int32) (n_blocks : Nat → Int32) (n_upTo : Nat → Int32) (n_clashedTo : Nat → Int32) (n_zoneSets : Nat → Int32) (n_places : Nat → Int32) (n_notices : Nat → Int32) (n_news : Nat → Int32) (h_nets : Nat → NetT) (h_oldest : Int32) (h_size : Int32) (p1 : Int32) : Option (Int32 × Int32 × (Nat → NetT) × Int32 × Int32) :=
  if p1 < 0 then
    some ((-1), n_renewing, h_nets, h_oldest, h_size)
  else
    if p1 ≤ 1 then
      (fX3_isRenewing n_renewing).bind fun r_3 =>
      if p1 = 1 then
        if r_3 = 1 then
          some ((-2), n_renewing, h_nets, h_oldest, h_size)
        else
          (fX2_remember h_nets h_oldest h_size n_switches n_hosts n_renewing n_priorities n_names n_wants n_blocks n_upTo n_clashedTo n_zoneSets n_places n_notices n_news).bind fun z_11 =>
          if p1 = 1 then
            (fX3_setRenewing 1).bind fun z_14 =>
            some (1, z_14, z_11.1, z_11.2.1, z_11.2.2)
          else
            (fX3_setRenewing 0).bind fun z_13 =>
            some (1, z_13, z_11.1, z_11.2.1, z_11.2.2)
      else
        if r_3 = 0 then
          some ((-2), n_renewing, h_nets, h_oldest, h_size)
        else
          (fX2_remember h_nets h_oldest h_size n_switches n_hosts n_renewing n_priorities n_names n_wants n_blocks n_upTo n_clashedTo n_zoneSets n_places n_notices n_news).bind fun z_6 =>
          if p1 = 1 then
            (fX3_setRenewing 1).bind fun z_9 =>
            some (1, z_9, z_6.1, z_6.2.1, z_6.2.2)
          else
            (fX3_setRenewing 0).bind fun z_8 =>
            some (1, z_8, z_6.1, z_6.2.1, z_6.2.2)
    else
      some ((-1), n_renewing, h_nets, h_oldest, h_size)
def fX7_undo (n_switches : Int32) (n_hosts : Int32) (n_renewing : Int32) (n_priorities : Nat → Int32) (n_names : Nat → Int32) (n_wants : Nat → Int32) (n_blocks : Nat → Int32) (n_upTo : Nat → Int32) (n_clashedTo : Nat → Int32) (n_zoneSets : Nat → Int32) (n_places : Nat → Int32) (n_notices : Nat → Int32) (n_news : Nat → Int32) (h_nets : Nat → NetT) (h_oldest : Int32) (h_size : Int32) : Option (Int32 × Int32 × Int32 × Int32 × (Nat → Int32) × (Nat → Int32) × (Nat → Int32) × (Nat → Int32) × (Nat → Int32) × (Nat → Int32) × (Nat → Int32) × (Nat → Int32) × (Nat → Int32) × (Nat → Int32) × Int32) :=
  (fX2_size h_size).bind fun r_1 =>
  if r_1 = 0 then
    some ((-2), n_switches, n_hosts, n_renewing, n_priorities, n_names, n_wants, n_blocks, n_upTo, n_clashedTo, n_zoneSets, n_places, n_notices, n_news, h_size)
  else
    (fX2_restoreTo h_nets h_oldest h_size n_switches n_hosts n_renewing n_priorities n_names n_wants n_blocks n_upTo n_clashedTo n_zoneSets n_places n_notices n_news).bind fun z_3 =>
    (fX2_size z_3.1).bind fun r_4 =>
    some (r_4, z_3.2.1, z_3.2.2.1, z_3.2.2.2.1, z_3.2.2.2.2.1, z_3.2.2.2.2.2.1, z_3.2.2.2.2.2.2.1, z_3.2.2.2.2.2.2.2.1, z_3.2.2.2.2.2.2.2.2.1, z_3.2.2.2.2.2.2.2.2.2.1, z_3.2.2.2.2.2.2.2.2.2.2.1, z_3.2.2.2.2.2.2.2.2.2.2.2.1, z_3.2.2.2.2.2.2.2.2.2.2.2.2.1, z_3.2.2.2.2.2.2.2.2.2.2.2.2.2, z_3.1)
def fX7_device (n_switches : Int32) (n_hosts : Int32) (n_priorities : Nat → Int32) (n_names : Nat → Int32) (n_wants : Nat → Int32) (n_blocks : Nat → Int32) (n_upTo : Nat → Int32) (n_places : Nat → Int32) (p1 : Int32) (p2 : Int32) : Option (Int32) :=
  (fX3_hasSwitch n_switches p1).bind fun r_1 =>
  if r_1 = 0 then
    some (-1)
  else
    if p2 = 0 then
      (fX3_priorityOf n_switches n_priorities p1).bind fun r_3 =>
      some r_3
    else
      if p2 = 1 then
        (fX3_nameOf n_switches n_names p1).bind fun r_4 =>
        some r_4
      else
        if p2 = 2 then
          (fX3_wantOf n_switches n_wants p1).bind fun r_5 =>
          some r_5
        else
          if p2 = 3 then
            (fX3_blockOf n_switches n_blocks p1).bind fun r_6 =>
            some r_6
          else
            if p2 = 4 then
              (fX3_fabricOf n_switches n_upTo p1).bind fun r_7 =>
              (fX3_principalOf n_switches n_priorities n_names r_7).bind fun r_8 =>
              some r_8
            else
              if p2 = 5 then
                (fX3_farOf n_switches n_priorities n_names n_upTo p1).bind fun r_9 =>
                some r_9
              else
                if p2 = 6 then
                  (fX3_fabricOf n_switches n_upTo p1).bind fun r_10 =>
                  some r_10
                else
                  if p2 = 7 then
                    (fX3_hostsAt n_hosts n_places (1 <<< (p1 &&& 31))).bind fun r_11 =>
                    some r_11
                  else
                    some (-1)
def fX7_link (n_switches : Int32) (n_upTo : Nat → Int32) (n_clashedTo : Nat → Int32) (p1 : Int32) (p2 : Int32) : Option (Int32) :=
  (fX3_hasTwo n_switches p1 p2).bind fun r_1 =>
  if r_1 = 0 then
    some (-1)
  else
    (fX3_linkState n_switches n_upTo n_clashedTo p1 p2).bind fun r_3 =>
    some r_3
def fX7_zone (n_switches : Int32) (n_zoneSets : Nat → Int32) (p1 : Int32) (p2 : Int32) : Option (Int32) :=
  (fX3_hasSwitch n_switches p1).bind fun r_1 =>
  if r_1 = 0 then
    some (-1)
  else
    if p2 < 0 then
      some (-1)
    else
      if p2 < 4 then
        (fX3_zoneSet n_switches n_zoneSets p1 p2).bind fun r_5 =>
        some r_5
      else
        some (-1)
def fX7_host (n_switches : Int32) (n_hosts : Int32) (n_upTo : Nat → Int32) (n_zoneSets : Nat → Int32) (n_places : Nat → Int32) (n_notices : Nat → Int32) (n_news : Nat → Int32) (p1 : Int32) (p2 : Int32) : Option (Int32) :=
  (fX3_hasHost n_hosts p1).bind fun r_1 =>
  if r_1 = 0 then
    some (-1)
  else
    if p2 = 0 then
      (fX3_placeOf n_hosts n_places p1).bind fun r_3 =>
      some r_3
    else
      if p2 = 1 then
        (fX3_view n_switches n_hosts n_upTo n_zoneSets n_places).bind fun r_4 =>
        (fX7_rowOf r_4 p1).bind fun r_5 =>
        some r_5
      else
        if p2 = 2 then
          (fX3_noticesOf n_hosts n_notices p1).bind fun r_6 =>
          some r_6
        else
          if p2 = 3 then
            (fX3_newsOf n_hosts n_news p1).bind fun r_7 =>
            some r_7
          else
            some (-1)
def fX7_would (n_switches : Int32) (n_renewing : Int32) (n_blocks : Nat → Int32) (n_upTo : Nat → Int32) (n_clashedTo : Nat → Int32) (n_zoneSets : Nat → Int32) (p1 : Int32) (p2 : Int32) : Option (Int32) :=
  (fX3_hasTwo n_switches p1 p2).bind fun r_1 =>
  if r_1 = 0 then
    some (-1)
  else
    (fX3_isUp n_switches n_upTo n_clashedTo p1 p2).bind fun r_3 =>
    if r_3 = 0 then
      (fX3_outcomeOf n_switches n_renewing n_blocks n_upTo n_zoneSets p1 p2).bind fun r_5 =>
      some r_5
    else
      some (-2)
def fX7_weakest (n_switches : Int32) (n_hosts : Int32) (n_upTo : Nat → Int32) (n_clashedTo : Nat → Int32) (n_zoneSets : Nat → Int32) (n_places : Nat → Int32) (q_codes : Nat → Int32) (q_views : Nat → Int64) (q_size : Int32) (p1 : Int32) : Option (Int32 × (Nat → Int32) × (Nat → Int32) × (Nat → Int32) × (Nat → Int64) × Int32) :=
  if p1 < 0 then
    some ((-1), n_upTo, n_clashedTo, q_codes, q_views, q_size)
  else
    if p1 ≤ 1 then
      (fX6_cutEach q_codes q_views n_switches n_hosts n_upTo n_clashedTo n_zoneSets n_places).bind fun z_3 =>
      (fX6_size z_3.2.2.1).bind fun r_4 =>
      if r_4 = 0 then
        some ((-9), z_3.2.2.2.1, z_3.2.2.2.2, z_3.1, z_3.2.1, z_3.2.2.1)
      else
        (fX3_view n_switches n_hosts z_3.2.2.2.1 n_zoneSets n_places).bind fun r_6 =>
        (fX6_dearest z_3.2.1 z_3.2.2.1 r_6).bind fun r_7 =>
        if p1 = 0 then
          (fX6_codeAt z_3.1 z_3.2.2.1 r_7).bind fun r_10 =>
          some (r_10, z_3.2.2.2.1, z_3.2.2.2.2, z_3.1, z_3.2.1, z_3.2.2.1)
        else
          (fX6_lostAt z_3.2.1 z_3.2.2.1 r_7 r_6).bind fun r_9 =>
          some (r_9, z_3.2.2.2.1, z_3.2.2.2.2, z_3.1, z_3.2.1, z_3.2.2.1)
    else
      some ((-1), n_upTo, n_clashedTo, q_codes, q_views, q_size)
def fX7_sees (k_size : Int32) (k_mentioned : Int32) (k_seen : Int64) (k_unseen : Int64) (p1 : Int32) (p2 : Int32) (p3 : Int32) : Option (Int32 × Int32 × Int32 × Int64 × Int64) :=
  if p1 < 0 then
    some ((-1), k_size, k_mentioned, k_seen, k_unseen)
  else
    if 8 ≤ p1 then
      some ((-1), k_size, k_mentioned, k_seen, k_unseen)
    else
      if p2 < 0 then
        some ((-1), k_size, k_mentioned, k_seen, k_unseen)
      else
        if 8 ≤ p2 then
          some ((-1), k_size, k_mentioned, k_seen, k_unseen)
        else
          if p1 = p2 then
            some ((-1), k_size, k_mentioned, k_seen, k_unseen)
          else
            if p3 < 0 then
              some ((-1), k_size, k_mentioned, k_seen, k_unseen)
            else
              if p3 ≤ 1 then
                if p3 = 1 then
                  (fX1_add k_size k_mentioned k_seen k_unseen p1 p2 1).bind fun z_12 =>
                  if z_12.1 = 0 then
                    some ((-3), z_12.2.1, z_12.2.2.1, z_12.2.2.2.1, z_12.2.2.2.2)
                  else
                    (fX1_size z_12.2.1).bind fun r_14 =>
                    some (r_14, z_12.2.1, z_12.2.2.1, z_12.2.2.2.1, z_12.2.2.2.2)
                else
                  (fX1_add k_size k_mentioned k_seen k_unseen p1 p2 0).bind fun z_9 =>
                  if z_9.1 = 0 then
                    some ((-3), z_9.2.1, z_9.2.2.1, z_9.2.2.2.1, z_9.2.2.2.2)
                  else
                    (fX1_size z_9.2.1).bind fun r_11 =>
                    some (r_11, z_9.2.1, z_9.2.2.1, z_9.2.2.2.1, z_9.2.2.2.2)
              else
                some ((-1), k_size, k_mentioned, k_seen, k_unseen)
def fX7_forget (k_size : Int32) : Option (Int32 × Int32 × Int32 × Int64 × Int64) :=
  (fX1_size k_size).bind fun r_1 =>
  (fX1_empty).bind fun z_2 =>
  some (r_1, z_2.1, z_2.2.1, z_2.2.2.1, z_2.2.2.2)
def fX7_which (n_switches : Int32) (n_hosts : Int32) (n_upTo : Nat → Int32) (n_clashedTo : Nat → Int32) (n_zoneSets : Nat → Int32) (n_places : Nat → Int32) (k_mentioned : Int32) (k_seen : Int64) (k_unseen : Int64) (q_codes : Nat → Int32) (q_views : Nat → Int64) (q_size : Int32) (p1 : Int32) : Option (Int32 × (Nat → Int32) × (Nat → Int32) × (Nat → Int32) × (Nat → Int64) × Int32) :=
  if p1 < 0 then
    some ((-1), n_upTo, n_clashedTo, q_codes, q_views, q_size)
  else
    if p1 ≤ 1 then
      (fX6_cutEach q_codes q_views n_switches n_hosts n_upTo n_clashedTo n_zoneSets n_places).bind fun z_3 =>
      (fX3_everyHost n_hosts).bind fun r_4 =>
      (fX6_dropUnfit z_3.1 z_3.2.1 z_3.2.2.1 k_mentioned k_seen k_unseen r_4).bind fun z_5 =>
      if p1 = 0 then
        (fX6_size z_5.2.2).bind fun r_10 =>
        some (r_10, z_3.2.2.2.1, z_3.2.2.2.2, z_5.1, z_5.2.1, z_5.2.2)
      else
        (fX6_size z_5.2.2).bind fun r_7 =>
        if r_7 = 0 then
          some ((-9), z_3.2.2.2.1, z_3.2.2.2.2, z_5.1, z_5.2.1, z_5.2.2)
        else
          (fX6_codeAt z_5.1 z_5.2.2 0).bind fun r_9 =>
          some (r_9, z_3.2.2.2.1, z_3.2.2.2.2, z_5.1, z_5.2.1, z_5.2.2)
    else
      some ((-1), n_upTo, n_clashedTo, q_codes, q_views, q_size)
def fX7_ask (n_switches : Int32) (n_hosts : Int32) (n_upTo : Nat → Int32) (n_clashedTo : Nat → Int32) (n_zoneSets : Nat → Int32) (n_places : Nat → Int32) (k_mentioned : Int32) (k_seen : Int64) (k_unseen : Int64) (q_codes : Nat → Int32) (q_views : Nat → Int64) : Option (Int32 × (Nat → Int32) × (Nat → Int32) × (Nat → Int32) × (Nat → Int64) × Int32) :=
  (fX6_cutEach q_codes q_views n_switches n_hosts n_upTo n_clashedTo n_zoneSets n_places).bind fun z_1 =>
  (fX3_everyHost n_hosts).bind fun r_2 =>
  (fX6_dropUnfit z_1.1 z_1.2.1 z_1.2.2.1 k_mentioned k_seen k_unseen r_2).bind fun z_3 =>
  (fX6_size z_3.2.2).bind fun r_4 =>
  if 2 ≤ r_4 then
    (fX3_hostTotal n_hosts).bind fun r_6 =>
    (fX6_bestQuestion z_3.2.1 z_3.2.2 r_6).bind fun r_7 =>
    some (r_7, z_1.2.2.2.1, z_1.2.2.2.2, z_3.1, z_3.2.1, z_3.2.2)
  else
    some ((-9), z_1.2.2.2.1, z_1.2.2.2.2, z_3.1, z_3.2.1, z_3.2.2)
def fX7_keep (n_switches : Int32) (n_hosts : Int32) (n_renewing : Int32) (n_priorities : Nat → Int32) (n_names : Nat → Int32) (n_wants : Nat → Int32) (n_blocks : Nat → Int32) (n_upTo : Nat → Int32) (n_clashedTo : Nat → Int32) (n_zoneSets : Nat → Int32) (n_places : Nat → Int32) (n_notices : Nat → Int32) (n_news : Nat → Int32) (b_nets : Nat → NetT) (b_kept : Int32) (p1 : Int32) : Option (Int32 × (Nat → NetT) × Int32) :=
  if p1 < 0 then
    some ((-1), b_nets, b_kept)
  else
    if p1 < 2 then
      (fX0_store b_nets b_kept n_switches n_hosts n_renewing n_priorities n_names n_wants n_blocks n_upTo n_clashedTo n_zoneSets n_places n_notices n_news p1).bind fun z_3 =>
      (fX3_fabricTotal n_switches n_upTo).bind fun r_4 =>
      some (r_4, z_3.1, z_3.2)
    else
      some ((-1), b_nets, b_kept)
def fX7_back (n_switches : Int32) (n_hosts : Int32) (n_renewing : Int32) (n_priorities : Nat → Int32) (n_names : Nat → Int32) (n_wants : Nat → Int32) (n_blocks : Nat → Int32) (n_upTo : Nat → Int32) (n_clashedTo : Nat → Int32) (n_zoneSets : Nat → Int32) (n_places : Nat → Int32) (n_notices : Nat → Int32) (n_news : Nat → Int32) (h_size : Int32) (b_nets : Nat → NetT) (b_kept : Int32) (p1 : Int32) : Option (Int32 × Int32 × Int32 × Int32 × (Nat → Int32) × (Nat → Int32) × (Nat → Int32) × (Nat → Int32) × (Nat → Int32) × (Nat → Int32) × (Nat → Int32) × (Nat → Int32) × (Nat → Int32) × (Nat → Int32) × Int32) :=
  if p1 < 0 then
    some ((-1), n_switches, n_hosts, n_renewing, n_priorities, n_names, n_wants, n_blocks, n_upTo, n_clashedTo, n_zoneSets, n_places, n_notices, n_news, h_size)
  else
    if p1 < 2 then
      (fX0_holds b_kept p1).bind fun r_3 =>
      if r_3 = 0 then
        some ((-2), n_switches, n_hosts, n_renewing, n_priorities, n_names, n_wants, n_blocks, n_upTo, n_clashedTo, n_zoneSets, n_places, n_notices, n_news, h_size)
      else
        (fX0_restoreTo b_nets b_kept n_switches n_hosts n_renewing n_priorities n_names n_wants n_blocks n_upTo n_clashedTo n_zoneSets n_places n_notices n_news p1).bind fun z_5 =>
        (fX2_empty).bind fun z_6 =>
        (fX3_fabricTotal z_5.1 z_5.2.2.2.2.2.2.2.1).bind fun r_7 =>
        some (r_7, z_5.1, z_5.2.1, z_5.2.2.1, z_5.2.2.2.1, z_5.2.2.2.2.1, z_5.2.2.2.2.2.1, z_5.2.2.2.2.2.2.1, z_5.2.2.2.2.2.2.2.1, z_5.2.2.2.2.2.2.2.2.1, z_5.2.2.2.2.2.2.2.2.2.1, z_5.2.2.2.2.2.2.2.2.2.2.1, z_5.2.2.2.2.2.2.2.2.2.2.2.1, z_5.2.2.2.2.2.2.2.2.2.2.2.2, z_6)
    else
      some ((-1), n_switches, n_hosts, n_renewing, n_priorities, n_names, n_wants, n_blocks, n_upTo, n_clashedTo, n_zoneSets, n_places, n_notices, n_news, h_size)
def fX7_count (s_size : Int32) (n_switches : Int32) (n_hosts : Int32) (n_renewing : Int32) (n_upTo : Nat → Int32) (n_clashedTo : Nat → Int32) (n_zoneSets : Nat → Int32) (n_places : Nat → Int32) (n_notices : Nat → Int32) (h_size : Int32) (k_size : Int32) (p1 : Int32) : Option (Int32) :=
  if p1 = 0 then
    (fX3_switchTotal n_switches).bind fun r_1 =>
    some r_1
  else
    if p1 = 1 then
      (fX3_hostTotal n_hosts).bind fun r_2 =>
      some r_2
    else
      if p1 = 2 then
        (fX3_fabricTotal n_switches n_upTo).bind fun r_3 =>
        some r_3
      else
        if p1 = 3 then
          (fX3_linkTotal n_switches n_upTo n_clashedTo 1).bind fun r_4 =>
          some r_4
        else
          if p1 = 4 then
            (fX3_linkTotal n_switches n_upTo n_clashedTo 2).bind fun r_5 =>
            some r_5
          else
            if p1 = 5 then
              (fX3_isRenewing n_renewing).bind fun r_6 =>
              if r_6 = 0 then
                some 0
              else
                some 1
            else
              if p1 = 6 then
                (fX3_noticeTotal n_hosts n_notices).bind fun r_8 =>
                some r_8
              else
                if p1 = 7 then
                  (fX3_view n_switches n_hosts n_upTo n_zoneSets n_places).bind fun r_9 =>
                  (fX7_twosOf r_9).bind fun r_10 =>
                  some r_10
                else
                  if p1 = 8 then
                    (fX1_size k_size).bind fun r_11 =>
                    some r_11
                  else
                    if p1 = 9 then
                      (fX5_size s_size).bind fun r_12 =>
                      some r_12
                    else
                      if p1 = 10 then
                        (fX2_size h_size).bind fun r_13 =>
                        some r_13
                      else
                        some (-1)
def fX8_in (p1 : Int32) (p2 : Int32) (p3 : Int32) : Option (Int32) :=
  if p1 < p2 then
    some 0
  else
    if p3 < p1 then
      some 0
    else
      some 1
def fX8_has (p1 : Int32) (p2 : Int32) : Option (Int32) :=
  if ((p1 >>> (p2 &&& 31)) &&& 1) = 1 then
    some 1
  else
    some 0
def fX8_ones_L1 (p1 : Int32) : Nat → Int32 → Int32 → Option (Int32 × Int32)
  | 0, _, _ => none
  | fu + 1, v1_1, v2_2 =>
    if 8 ≤ v2_2 then
      some (v1_1, v2_2)
    else
      bd (v1_1 + ((p1 >>> (v2_2 &&& 31)) &&& 1)) fun v1_4 =>
      bd (v2_2 + 1) fun v2_5 =>
      fX8_ones_L1 p1 fu v1_4 v2_5
def fX8_ones (p1 : Int32) : Option (Int32) :=
  (fX8_ones_L1 p1 500 0 0).bind fun z_6 =>
  some z_6.1
def fX8_bring_L1 (nf : Nat) (ng : Nat) (f_ : Nat → Int32) (p2 : Int32) (p4 : Int32) : Nat → Int32 → (Nat → Int32) → Option (Int32 × (Nat → Int32))
  | 0, _, _ => none
  | fu + 1, v4_1, g__2 =>
    if 87 ≤ v4_1 then
      some (v4_1, g__2)
    else
      gd (inB (p2 + v4_1) nf = true) <|
      gd (inB (p4 + v4_1) ng = true) <|
      bd (upd g__2 (p4 + v4_1).toNatClampNeg (f_ (p2 + v4_1).toNatClampNeg)) fun g__4 =>
      bd (v4_1 + 1) fun v4_5 =>
      fX8_bring_L1 nf ng f_ p2 p4 fu v4_5 g__4
def fX8_bring (nf : Nat) (ng : Nat) (f_ : Nat → Int32) (g_ : Nat → Int32) (p2 : Int32) (p4 : Int32) : Option (Nat → Int32) :=
  (fX8_bring_L1 nf ng f_ p2 p4 500 0 g_).bind fun z_6 =>
  some z_6.2
def fX8_note_L1 : Nat → Int32 → (Nat → Int32) → Option (Int32 × (Nat → Int32))
  | 0, _, _ => none
  | fu + 1, v1_4, c_past_5 =>
    if 348 ≤ v1_4 then
      some (v1_4, c_past_5)
    else
      gd (inB (v1_4 + 87) 435 = true) <|
      gd (inB v1_4 435 = true) <|
      bd (upd c_past_5 v1_4.toNatClampNeg (c_past_5 (v1_4 + 87).toNatClampNeg)) fun c_past_7 =>
      bd (v1_4 + 1) fun v1_8 =>
      fX8_note_L1 fu v1_8 c_past_7
def fX8_note (c_now : Nat → Int32) (c_past : Nat → Int32) (c_deeds : Int32) : Option ((Nat → Int32) × Int32) :=
  if c_deeds = 5 then
    (fX8_note_L1  500 0 c_past).bind fun z_9 =>
    bd (c_deeds - 1) fun c_deeds_10 =>
    (fX8_bring 87 435 c_now z_9.2 0 (87 * c_deeds_10)).bind fun z_11 =>
    bd (c_deeds_10 + 1) fun c_deeds_12 =>
    some (z_11, c_deeds_12)
  else
    (fX8_bring 87 435 c_now c_past 0 (87 * c_deeds)).bind fun z_2 =>
    bd (c_deeds + 1) fun c_deeds_3 =>
    some (z_2, c_deeds_3)
def fX8_isFigure (c_text : Nat → Int32) (c_letters : Int32) (c_at : Int32) : Option (Int32) :=
  if c_letters ≤ c_at then
    some 0
  else
    gd (inB c_at 100 = true) <|
    (fX8_in (c_text c_at.toNatClampNeg) 48 57).bind fun r_2 =>
    if r_2 = 0 then
      some 0
    else
      some 1
def fX8_next_L1 (c_text : Nat → Int32) (c_letters : Int32) : Nat → Int32 → Option (Int32)
  | 0, _ => none
  | fu + 1, c_at_1 =>
    if c_letters ≤ c_at_1 then
      some c_at_1
    else
      gd (inB c_at_1 100 = true) <|
      if (c_text c_at_1.toNatClampNeg) = 32 then
        bd (c_at_1 + 1) fun c_at_4 =>
        fX8_next_L1 c_text c_letters fu c_at_4
      else
        some c_at_1
def fX8_next_L2 (c_text : Nat → Int32) (c_letters : Int32) : Nat → Int32 → Int32 → Option (Int32 × Int32)
  | 0, _, _ => none
  | fu + 1, c_at_9, c_value_10 =>
    (fX8_isFigure c_text c_letters c_at_9).bind fun r_11 =>
    if r_11 = 0 then
      some (c_at_9, c_value_10)
    else
      if c_value_10 ≤ 99 then
        gd (inB c_at_9 100 = true) <|
        bd (((10 * c_value_10) + (c_text c_at_9.toNatClampNeg)) - 48) fun c_value_14 =>
        bd (c_at_9 + 1) fun c_at_15 =>
        fX8_next_L2 c_text c_letters fu c_at_15 c_value_14
      else
        bd (c_at_9 + 1) fun c_at_16 =>
        fX8_next_L2 c_text c_letters fu c_at_16 c_value_10
def fX8_next (c_text : Nat → Int32) (c_letters : Int32) (c_at : Int32) (c_value : Int32) : Option (Int32 × Int32 × Int32 × Int32) :=
  (fX8_next_L1 c_text c_letters 500 c_at).bind fun c_at_5 =>
  if c_at_5 = c_letters then
    some (c_at_5, 1000, c_at_5, c_value)
  else
    (fX8_isFigure c_text c_letters c_at_5).bind fun r_7 =>
    if r_7 = 0 then
      gd (inB c_at_5 100 = true) <|
      bd (c_text c_at_5.toNatClampNeg) fun v1_21 =>
      if v1_21 = 115 then
        bd (c_at_5 + 1) fun c_at_23 =>
        some (c_at_23, v1_21, c_at_5, c_value)
      else
        if v1_21 = 104 then
          bd (c_at_5 + 1) fun c_at_25 =>
          some (c_at_25, v1_21, c_at_5, c_value)
        else
          if v1_21 = 45 then
            bd (c_at_5 + 1) fun c_at_27 =>
            some (c_at_27, v1_21, c_at_5, c_value)
          else
            if v1_21 = 59 then
              bd (c_at_5 + 1) fun c_at_30 =>
              some (c_at_30, v1_21, c_at_5, c_value)
            else
              bd (c_at_5 + 1) fun c_at_29 =>
              some (c_at_29, 1002, c_at_5, c_value)
    else
      (fX8_next_L2 c_text c_letters 500 c_at_5 0).bind fun z_17 =>
      if 99 < z_17.2 then
        some (z_17.1, 1002, c_at_5, z_17.2)
      else
        gd (inB c_at_5 100 = true) <|
        if (c_text c_at_5.toNatClampNeg) = 48 then
          if z_17.1 ≤ (c_at_5 + 1) then
            some (z_17.1, 1001, c_at_5, z_17.2)
          else
            some (z_17.1, 1002, c_at_5, z_17.2)
        else
          some (z_17.1, 1001, c_at_5, z_17.2)
def fX8_isNumber (c_token : Int32) (c_value : Int32) (p1 : Int32) (p2 : Int32) : Option (Int32) :=
  if c_token = 1001 then
    (fX8_in c_value p1 p2).bind fun r_2 =>
    if r_2 = 0 then
      some 0
    else
      some 1
  else
    some 0
def fX8_isNamed_L1 (c_read : Nat → Int32) (p1 : Int32) : Nat → Int32 → Int32 → Option (Int32 × Int32)
  | 0, _, _ => none
  | fu + 1, v2_1, v3_2 =>
    gd (inB 0 87 = true) <|
    if (c_read (0 : Int32).toNatClampNeg) ≤ v3_2 then
      some (v2_1, v3_2)
    else
      if v2_1 = 0 then
        gd (inB ((3 + (4 * v3_2)) + 1) 87 = true) <|
        if (c_read ((3 + (4 * v3_2)) + 1).toNatClampNeg) = p1 then
          bd (v3_2 + 1) fun v3_8 =>
          fX8_isNamed_L1 c_read p1 fu 1 v3_8
        else
          bd (v3_2 + 1) fun v3_7 =>
          fX8_isNamed_L1 c_read p1 fu 0 v3_7
      else
        bd (v3_2 + 1) fun v3_5 =>
        fX8_isNamed_L1 c_read p1 fu 1 v3_5
def fX8_isNamed (c_read : Nat → Int32) (p1 : Int32) : Option (Int32) :=
  (fX8_isNamed_L1 c_read p1 500 0 0).bind fun z_9 =>
  gd ((z_9.1 = 0 ∨ z_9.1 = 1)) <|
  some z_9.1
def fX8_readSwitch (c_read : Nat → Int32) (c_text : Nat → Int32) (c_letters : Int32) (c_at : Int32) (c_token : Int32) (c_tokenAt : Int32) (c_value : Int32) : Option (Int32 × (Nat → Int32) × Int32 × Int32 × Int32 × Int32) :=
  gd (inB 0 87 = true) <|
  if (c_read (0 : Int32).toNatClampNeg) = 6 then
    some (0, c_read, c_at, c_token, c_tokenAt, c_value)
  else
    gd (inB 1 87 = true) <|
    if (c_read (1 : Int32).toNatClampNeg) ≤ 0 then
      gd (inB 0 87 = true) <|
      bd (3 + (4 * (c_read (0 : Int32).toNatClampNeg))) fun v1_3 =>
      (fX8_next c_text c_letters c_at c_value).bind fun z_4 =>
      (fX8_isNumber z_4.2.1 z_4.2.2.2 1 9).bind fun r_5 =>
      if r_5 = 0 then
        some (0, c_read, z_4.1, z_4.2.1, z_4.2.2.1, z_4.2.2.2)
      else
        gd (inB (v1_3 + 0) 87 = true) <|
        bd (upd c_read (v1_3 + 0).toNatClampNeg z_4.2.2.2) fun c_read_7 =>
        (fX8_next c_text c_letters z_4.1 z_4.2.2.2).bind fun z_8 =>
        (fX8_isNumber z_8.2.1 z_8.2.2.2 0 99).bind fun r_9 =>
        if r_9 = 0 then
          some (0, c_read_7, z_8.1, z_8.2.1, z_8.2.2.1, z_8.2.2.2)
        else
          (fX8_isNamed c_read_7 z_8.2.2.2).bind fun r_11 =>
          if r_11 = 0 then
            gd (inB (v1_3 + 1) 87 = true) <|
            bd (upd c_read_7 (v1_3 + 1).toNatClampNeg z_8.2.2.2) fun c_read_13 =>
            (fX8_next c_text c_letters z_8.1 z_8.2.2.2).bind fun z_14 =>
            (fX8_isNumber z_14.2.1 z_14.2.2.2 0 8).bind fun r_15 =>
            if r_15 = 0 then
              some (0, c_read_13, z_14.1, z_14.2.1, z_14.2.2.1, z_14.2.2.2)
            else
              gd (inB (v1_3 + 2) 87 = true) <|
              bd (upd c_read_13 (v1_3 + 2).toNatClampNeg z_14.2.2.2) fun c_read_17 =>
              if z_14.2.2.2 = 0 then
                gd (inB (v1_3 + 3) 87 = true) <|
                bd (upd c_read_17 (v1_3 + 3).toNatClampNeg 1) fun c_read_23 =>
                gd (inB 0 87 = true) <|
                gd (inB 0 87 = true) <|
                bd (upd c_read_23 (0 : Int32).toNatClampNeg ((c_read_23 (0 : Int32).toNatClampNeg) + 1)) fun c_read_24 =>
                (fX8_next c_text c_letters z_14.1 z_14.2.2.2).bind fun z_25 =>
                if z_25.2.1 = 59 then
                  some (1, c_read_24, z_25.1, z_25.2.1, z_25.2.2.1, z_25.2.2.2)
                else
                  some (0, c_read_24, z_25.1, z_25.2.1, z_25.2.2.1, z_25.2.2.2)
              else
                gd (inB (v1_3 + 3) 87 = true) <|
                bd (upd c_read_17 (v1_3 + 3).toNatClampNeg z_14.2.2.2) fun c_read_19 =>
                gd (inB 0 87 = true) <|
                gd (inB 0 87 = true) <|
                bd (upd c_read_19 (0 : Int32).toNatClampNeg ((c_read_19 (0 : Int32).toNatClampNeg) + 1)) fun c_read_20 =>
                (fX8_next c_text c_letters z_14.1 z_14.2.2.2).bind fun z_21 =>
                if z_21.2.1 = 59 then
                  some (1, c_read_20, z_21.1, z_21.2.1, z_21.2.2.1, z_21.2.2.2)
                else
                  some (0, c_read_20, z_21.1, z_21.2.1, z_21.2.2.1, z_21.2.2.2)
          else
            some (0, c_read_7, z_8.1, z_8.2.1, z_8.2.2.1, z_8.2.2.2)
    else
      some (0, c_read, c_at, c_token, c_tokenAt, c_value)
def fX8_readHost (c_read : Nat → Int32) (c_text : Nat → Int32) (c_letters : Int32) (c_at : Int32) (c_token : Int32) (c_tokenAt : Int32) (c_value : Int32) : Option (Int32 × (Nat → Int32) × Int32 × Int32 × Int32 × Int32) :=
  gd (inB 1 87 = true) <|
  if (c_read (1 : Int32).toNatClampNeg) = 8 then
    some (0, c_read, c_at, c_token, c_tokenAt, c_value)
  else
    gd (inB 0 87 = true) <|
    if (c_read (0 : Int32).toNatClampNeg) = 0 then
      some (0, c_read, c_at, c_token, c_tokenAt, c_value)
    else
      (fX8_next c_text c_letters c_at c_value).bind fun z_3 =>
      if z_3.2.1 = 45 then
        gd (inB 1 87 = true) <|
        if z_3.2.1 = 45 then
          gd (inB (27 + (c_read (1 : Int32).toNatClampNeg)) 87 = true) <|
          bd (upd c_read (27 + (c_read (1 : Int32).toNatClampNeg)).toNatClampNeg (-9)) fun c_read_10 =>
          gd (inB 1 87 = true) <|
          gd (inB 1 87 = true) <|
          bd (upd c_read_10 (1 : Int32).toNatClampNeg ((c_read_10 (1 : Int32).toNatClampNeg) + 1)) fun c_read_11 =>
          (fX8_next c_text c_letters z_3.1 z_3.2.2.2).bind fun z_12 =>
          if z_12.2.1 = 59 then
            some (1, c_read_11, z_12.1, z_12.2.1, z_12.2.2.1, z_12.2.2.2)
          else
            some (0, c_read_11, z_12.1, z_12.2.1, z_12.2.2.1, z_12.2.2.2)
        else
          gd (inB (27 + (c_read (1 : Int32).toNatClampNeg)) 87 = true) <|
          bd (upd c_read (27 + (c_read (1 : Int32).toNatClampNeg)).toNatClampNeg z_3.2.2.2) fun c_read_6 =>
          gd (inB 1 87 = true) <|
          gd (inB 1 87 = true) <|
          bd (upd c_read_6 (1 : Int32).toNatClampNeg ((c_read_6 (1 : Int32).toNatClampNeg) + 1)) fun c_read_7 =>
          (fX8_next c_text c_letters z_3.1 z_3.2.2.2).bind fun z_8 =>
          if z_8.2.1 = 59 then
            some (1, c_read_7, z_8.1, z_8.2.1, z_8.2.2.1, z_8.2.2.2)
          else
            some (0, c_read_7, z_8.1, z_8.2.1, z_8.2.2.1, z_8.2.2.2)
      else
        gd (inB 0 87 = true) <|
        (fX8_isNumber z_3.2.1 z_3.2.2.2 0 ((c_read (0 : Int32).toNatClampNeg) - 1)).bind fun r_14 =>
        if r_14 = 0 then
          some (0, c_read, z_3.1, z_3.2.1, z_3.2.2.1, z_3.2.2.2)
        else
          gd (inB 1 87 = true) <|
          if z_3.2.1 = 45 then
            gd (inB (27 + (c_read (1 : Int32).toNatClampNeg)) 87 = true) <|
            bd (upd c_read (27 + (c_read (1 : Int32).toNatClampNeg)).toNatClampNeg (-9)) fun c_read_21 =>
            gd (inB 1 87 = true) <|
            gd (inB 1 87 = true) <|
            bd (upd c_read_21 (1 : Int32).toNatClampNeg ((c_read_21 (1 : Int32).toNatClampNeg) + 1)) fun c_read_22 =>
            (fX8_next c_text c_letters z_3.1 z_3.2.2.2).bind fun z_23 =>
            if z_23.2.1 = 59 then
              some (1, c_read_22, z_23.1, z_23.2.1, z_23.2.2.1, z_23.2.2.2)
            else
              some (0, c_read_22, z_23.1, z_23.2.1, z_23.2.2.1, z_23.2.2.2)
          else
            gd (inB (27 + (c_read (1 : Int32).toNatClampNeg)) 87 = true) <|
            bd (upd c_read (27 + (c_read (1 : Int32).toNatClampNeg)).toNatClampNeg z_3.2.2.2) fun c_read_17 =>
            gd (inB 1 87 = true) <|
            gd (inB 1 87 = true) <|
            bd (upd c_read_17 (1 : Int32).toNatClampNeg ((c_read_17 (1 : Int32).toNatClampNeg) + 1)) fun c_read_18 =>
            (fX8_next c_text c_letters z_3.1 z_3.2.2.2).bind fun z_19 =>
            if z_19.2.1 = 59 then
              some (1, c_read_18, z_19.1, z_19.2.1, z_19.2.2.1, z_19.2.2.2)
            else
              some (0, c_read_18, z_19.1, z_19.2.1, z_19.2.2.1, z_19.2.2.2)
def fX8_readText_L1 : Nat → Int32 → (Nat → Int32) → Option (Int32 × (Nat → Int32))
  | 0, _, _ => none
  | fu + 1, v1_1, c_read_2 =>
    if 87 ≤ v1_1 then
      some (v1_1, c_read_2)
    else
      if v1_1 < 27 then
        gd (inB v1_1 87 = true) <|
        bd (upd c_read_2 v1_1.toNatClampNeg 0) fun c_read_5 =>
        bd (v1_1 + 1) fun v1_6 =>
        fX8_readText_L1 fu v1_6 c_read_5
      else
        if 35 ≤ v1_1 then
          gd (inB v1_1 87 = true) <|
          bd (upd c_read_2 v1_1.toNatClampNeg 0) fun c_read_8 =>
          bd (v1_1 + 1) fun v1_9 =>
          fX8_readText_L1 fu v1_9 c_read_8
        else
          gd (inB v1_1 87 = true) <|
          bd (upd c_read_2 v1_1.toNatClampNeg (-9)) fun c_read_10 =>
          bd (v1_1 + 1) fun v1_11 =>
          fX8_readText_L1 fu v1_11 c_read_10
def fX8_readText_L2 (c_text : Nat → Int32) (c_letters : Int32) : Nat → Int32 → (Nat → Int32) → Int32 → Int32 → Int32 → Int32 → Option ((Int32 × (Nat → Int32) × Int32 × Int32 × Int32 × Int32) ⊕ (Int32 × (Nat → Int32) × Int32 × Int32 × Int32 × Int32))
  | 0, _, _, _, _, _, _ => none
  | fu + 1, v1_14, c_read_15, c_at_16, c_token_17, c_tokenAt_18, c_value_19 =>
    if c_token_17 = 1000 then
      some (Sum.inr (v1_14, c_read_15, c_at_16, c_token_17, c_tokenAt_18, c_value_19))
    else
      if c_token_17 = 115 then
        (fX8_readSwitch c_read_15 c_text c_letters c_at_16 c_token_17 c_tokenAt_18 c_value_19).bind fun z_29 =>
        if z_29.1 = 0 then
          some (Sum.inl (z_29.2.2.2.2.1, z_29.2.1, z_29.2.2.1, z_29.2.2.2.1, z_29.2.2.2.2.1, z_29.2.2.2.2.2))
        else
          (fX8_next c_text c_letters z_29.2.2.1 z_29.2.2.2.2.2).bind fun z_31 =>
          fX8_readText_L2 c_text c_letters fu z_29.1 z_29.2.1 z_31.1 z_31.2.1 z_31.2.2.1 z_31.2.2.2
      else
        if c_token_17 = 104 then
          (fX8_readHost c_read_15 c_text c_letters c_at_16 c_token_17 c_tokenAt_18 c_value_19).bind fun z_24 =>
          if z_24.1 = 0 then
            some (Sum.inl (z_24.2.2.2.2.1, z_24.2.1, z_24.2.2.1, z_24.2.2.2.1, z_24.2.2.2.2.1, z_24.2.2.2.2.2))
          else
            (fX8_next c_text c_letters z_24.2.2.1 z_24.2.2.2.2.2).bind fun z_28 =>
            fX8_readText_L2 c_text c_letters fu 1 z_24.2.1 z_28.1 z_28.2.1 z_28.2.2.1 z_28.2.2.2
        else
          some (Sum.inl (c_tokenAt_18, c_read_15, c_at_16, c_token_17, c_tokenAt_18, c_value_19))
def fX8_readText (c_read : Nat → Int32) (c_text : Nat → Int32) (c_letters : Int32) (c_value : Int32) : Option (Int32 × (Nat → Int32) × Int32 × Int32 × Int32 × Int32) :=
  (fX8_readText_L1  500 0 c_read).bind fun z_12 =>
  (fX8_next c_text c_letters 0 c_value).bind fun z_13 =>
  (fX8_readText_L2 c_text c_letters 500 z_12.1 z_12.2 z_13.1 z_13.2.1 z_13.2.2.1 z_13.2.2.2).bind fun z_32 =>
  Sum.elim (fun y => some y) (fun y_33 =>
    gd (inB 0 87 = true) <|
    if (y_33.2.1 (0 : Int32).toNatClampNeg) = 0 then
      some (c_letters, y_33.2.1, y_33.2.2.1, y_33.2.2.2.1, y_33.2.2.2.2.1, y_33.2.2.2.2.2)
    else
      some ((-9), y_33.2.1, y_33.2.2.1, y_33.2.2.2.1, y_33.2.2.2.2.1, y_33.2.2.2.2.2)) z_32
def fX8_type (c_text : Nat → Int32) (c_letters : Int32) (p1 : Int32) : Option (Int32 × (Nat → Int32) × Int32) :=
  (fX8_in p1 0 255).bind fun r_1 =>
  if r_1 = 0 then
    some ((-1), c_text, c_letters)
  else
    if c_letters = 100 then
      some ((-3), c_text, c_letters)
    else
      gd (inB c_letters 100 = true) <|
      bd (upd c_text c_letters.toNatClampNeg p1) fun c_text_4 =>
      bd (c_letters + 1) fun c_letters_5 =>
      some (c_letters_5, c_text_4, c_letters_5)
def fX8_clear (c_letters : Int32) : Option (Int32 × Int32) :=
  some (c_letters, 0)
def fX8_tells (c_now : Nat → Int32) (c_read : Nat → Int32) (c_past : Nat → Int32) (c_deeds : Int32) (c_isKept : Nat → Int32) (c_text : Nat → Int32) (c_letters : Int32) (c_value : Int32) (c_seen : Int32) : Option (Int32 × (Nat → Int32) × (Nat → Int32) × (Nat → Int32) × Int32 × (Nat → Int32) × Int32 × Int32 × Int32 × Int32 × Int32 × Int32) :=
  (fX8_readText c_read c_text c_letters c_value).bind fun z_1 =>
  if z_1.1 = (-9) then
    (fX8_note c_now c_past c_deeds).bind fun z_3 =>
    (fX8_bring 87 87 z_1.2.1 c_now 0 0).bind fun z_4 =>
    gd (inB 0 2 = true) <|
    bd (upd c_isKept (0 : Int32).toNatClampNeg 0) fun c_isKept_5 =>
    gd (inB 1 2 = true) <|
    bd (upd c_isKept_5 (1 : Int32).toNatClampNeg 0) fun c_isKept_6 =>
    gd (inB 0 87 = true) <|
    gd (inB 1 87 = true) <|
    some (((z_4 (0 : Int32).toNatClampNeg) + (z_4 (1 : Int32).toNatClampNeg)), z_4, z_1.2.1, z_3.1, z_3.2, c_isKept_6, 0, z_1.2.2.1, z_1.2.2.2.1, z_1.2.2.2.2.1, z_1.2.2.2.2.2, 0)
  else
    some (((-10) - z_1.1), c_now, z_1.2.1, c_past, c_deeds, c_isKept, c_letters, z_1.2.2.1, z_1.2.2.2.1, z_1.2.2.2.2.1, z_1.2.2.2.2.2, c_seen)
def fX8_isSwitch (c_now : Nat → Int32) (p1 : Int32) : Option (Int32) :=
  gd (inB 0 87 = true) <|
  (fX8_in p1 0 ((c_now (0 : Int32).toNatClampNeg) - 1)).bind fun r_1 =>
  gd ((r_1 = 0 ∨ r_1 = 1)) <|
  some r_1
def fX8_isHost (c_now : Nat → Int32) (p1 : Int32) : Option (Int32) :=
  gd (inB 1 87 = true) <|
  (fX8_in p1 0 ((c_now (1 : Int32).toNatClampNeg) - 1)).bind fun r_1 =>
  gd ((r_1 = 0 ∨ r_1 = 1)) <|
  some r_1
def fX8_areTwo (c_now : Nat → Int32) (p1 : Int32) (p2 : Int32) : Option (Int32) :=
  (fX8_isSwitch c_now p1).bind fun r_1 =>
  if r_1 = 0 then
    some 0
  else
    (fX8_isSwitch c_now p2).bind fun r_3 =>
    if r_3 = 0 then
      some 0
    else
      if p1 = p2 then
        some 0
      else
        some 1
def fX8_of (c_now : Nat → Int32) (p1 : Int32) (p2 : Int32) : Option (Int32) :=
  gd (inB ((3 + (4 * p1)) + p2) 87 = true) <|
  some (c_now ((3 + (4 * p1)) + p2).toNatClampNeg)
def fX8_besides_L1 (c_now : Nat → Int32) (p1 : Int32) : Nat → Int32 → Int32 → Option (Int32 × Int32)
  | 0, _, _ => none
  | fu + 1, v2_1, v3_2 =>
    gd (inB 0 87 = true) <|
    if (c_now (0 : Int32).toNatClampNeg) ≤ v3_2 then
      some (v2_1, v3_2)
    else
      (fX8_has p1 v3_2).bind fun r_4 =>
      if r_4 = 0 then
        bd (v2_1 ||| 0) fun v2_6 =>
        bd (v3_2 + 1) fun v3_7 =>
        fX8_besides_L1 c_now p1 fu v2_6 v3_7
      else
        gd (inB (35 + v3_2) 87 = true) <|
        bd (v2_1 ||| (c_now (35 + v3_2).toNatClampNeg)) fun v2_8 =>
        bd (v3_2 + 1) fun v3_9 =>
        fX8_besides_L1 c_now p1 fu v2_8 v3_9
def fX8_besides (c_now : Nat → Int32) (p1 : Int32) : Option (Int32) :=
  (fX8_besides_L1 c_now p1 500 p1 0).bind fun z_10 =>
  some z_10.1
def fX8_fabricOf_L1 (c_now : Nat → Int32) : Nat → Int32 → Int32 → Option (Int32 × Int32)
  | 0, _, _ => none
  | fu + 1, v2_2, v3_3 =>
    if 6 ≤ v3_3 then
      some (v2_2, v3_3)
    else
      (fX8_besides c_now v2_2).bind fun r_5 =>
      bd (v3_3 + 1) fun v3_6 =>
      fX8_fabricOf_L1 c_now fu r_5 v3_6
def fX8_fabricOf (c_now : Nat → Int32) (p1 : Int32) : Option (Int32) :=
  bd (1 <<< (p1 &&& 31)) fun v2_1 =>
  (fX8_fabricOf_L1 c_now 500 v2_1 0).bind fun z_7 =>
  some z_7.1
def fX8_isLowest (c_now : Nat → Int32) (p1 : Int32) : Option (Int32) :=
  (fX8_fabricOf c_now p1).bind fun r_1 =>
  if (r_1 &&& ((1 <<< (p1 &&& 31)) - 1)) = 0 then
    some 1
  else
    some 0
def fX8_fabrics_L1 (c_now : Nat → Int32) : Nat → Int32 → Int32 → Option (Int32 × Int32)
  | 0, _, _ => none
  | fu + 1, v1_1, v2_2 =>
    gd (inB 0 87 = true) <|
    if (c_now (0 : Int32).toNatClampNeg) ≤ v2_2 then
      some (v1_1, v2_2)
    else
      (fX8_isLowest c_now v2_2).bind fun r_4 =>
      if r_4 = 0 then
        bd (v1_1 + 0) fun v1_6 =>
        bd (v2_2 + 1) fun v2_7 =>
        fX8_fabrics_L1 c_now fu v1_6 v2_7
      else
        bd (v1_1 + 1) fun v1_8 =>
        bd (v2_2 + 1) fun v2_9 =>
        fX8_fabrics_L1 c_now fu v1_8 v2_9
def fX8_fabrics (c_now : Nat → Int32) : Option (Int32) :=
  (fX8_fabrics_L1 c_now 500 0 0).bind fun z_10 =>
  some z_10.1
def fX8_principalOf_L1 (c_now : Nat → Int32) (p1 : Int32) : Nat → Int32 → Int32 → Option (Int32 × Int32)
  | 0, _, _ => none
  | fu + 1, v2_1, v3_2 =>
    gd (inB 0 87 = true) <|
    if (c_now (0 : Int32).toNatClampNeg) ≤ v3_2 then
      some (v2_1, v3_2)
    else
      (fX8_has p1 v3_2).bind fun r_4 =>
      if r_4 = 0 then
        bd (v3_2 + 1) fun v3_6 =>
        fX8_principalOf_L1 c_now p1 fu v2_1 v3_6
      else
        (fX8_of c_now v3_2 0).bind fun r_7 =>
        (fX8_of c_now v3_2 1).bind fun r_8 =>
        bd ((100 * r_7) + r_8) fun v4_9 =>
        if v2_1 = (-9) then
          bd (v3_2 + 1) fun v3_11 =>
          fX8_principalOf_L1 c_now p1 fu v3_2 v3_11
        else
          (fX8_of c_now v2_1 0).bind fun r_12 =>
          (fX8_of c_now v2_1 1).bind fun r_13 =>
          if ((100 * r_12) + r_13) ≤ v4_9 then
            bd (v3_2 + 1) fun v3_15 =>
            fX8_principalOf_L1 c_now p1 fu v2_1 v3_15
          else
            bd (v3_2 + 1) fun v3_16 =>
            fX8_principalOf_L1 c_now p1 fu v3_2 v3_16
def fX8_principalOf (c_now : Nat → Int32) (p1 : Int32) : Option (Int32) :=
  (fX8_principalOf_L1 c_now p1 500 (-9) 0).bind fun z_17 =>
  some z_17.1
def fX8_farOf_L1 (c_now : Nat → Int32) (p1 : Int32) : Nat → Int32 → Int32 → Option (Int32 × Int32)
  | 0, _, _ => none
  | fu + 1, v2_4, v3_5 =>
    (fX8_has v2_4 p1).bind fun r_6 =>
    if r_6 = 0 then
      (fX8_besides c_now v2_4).bind fun r_8 =>
      bd (v3_5 + 1) fun v3_9 =>
      fX8_farOf_L1 c_now p1 fu r_8 v3_9
    else
      some (v2_4, v3_5)
def fX8_farOf (c_now : Nat → Int32) (p1 : Int32) : Option (Int32) :=
  (fX8_fabricOf c_now p1).bind fun r_1 =>
  (fX8_principalOf c_now r_1).bind fun r_2 =>
  bd (1 <<< (r_2 &&& 31)) fun v2_3 =>
  (fX8_farOf_L1 c_now p1 500 v2_3 0).bind fun z_10 =>
  some z_10.2
def fX8_handOut_L2 (v3_2 : Int32) (c_now_4 : Nat → Int32) : Nat → Int32 → Int32 → Option (Int32 × Int32)
  | 0, _, _ => none
  | fu + 1, v5_6, v6_7 =>
    gd (inB 0 87 = true) <|
    if (c_now_4 (0 : Int32).toNatClampNeg) ≤ v6_7 then
      some (v5_6, v6_7)
    else
      (fX8_has v3_2 v6_7).bind fun r_9 =>
      if r_9 = 0 then
        bd (v6_7 + 1) fun v6_11 =>
        fX8_handOut_L2 v3_2 c_now_4 fu v5_6 v6_11
      else
        (fX8_farOf c_now_4 v6_7).bind fun r_12 =>
        (fX8_of c_now_4 v6_7 1).bind fun r_13 =>
        bd ((100 * r_12) + r_13) fun v7_14 =>
        if v5_6 = (-9) then
          bd (v6_7 + 1) fun v6_16 =>
          fX8_handOut_L2 v3_2 c_now_4 fu v6_7 v6_16
        else
          (fX8_farOf c_now_4 v5_6).bind fun r_17 =>
          (fX8_of c_now_4 v5_6 1).bind fun r_18 =>
          if ((100 * r_17) + r_18) ≤ v7_14 then
            bd (v6_7 + 1) fun v6_20 =>
            fX8_handOut_L2 v3_2 c_now_4 fu v5_6 v6_20
          else
            bd (v6_7 + 1) fun v6_21 =>
            fX8_handOut_L2 v3_2 c_now_4 fu v6_7 v6_21
def fX8_handOut_L3 (v2_1 : Int32) : Nat → Int32 → Option (Int32)
  | 0, _ => none
  | fu + 1, v6_25 =>
    (fX8_has v2_1 v6_25).bind fun r_26 =>
    if r_26 = 0 then
      some v6_25
    else
      bd (v6_25 + 1) fun v6_28 =>
      fX8_handOut_L3 v2_1 fu v6_28
def fX8_handOut_L4 (v2_1 : Int32) : Nat → Int32 → Option (Int32)
  | 0, _ => none
  | fu + 1, v6_52 =>
    (fX8_has v2_1 v6_52).bind fun r_53 =>
    if r_53 = 0 then
      some v6_52
    else
      bd (v6_52 + 1) fun v6_55 =>
      fX8_handOut_L4 v2_1 fu v6_55
def fX8_handOut_L1 : Nat → Int32 → Int32 → Int32 → (Nat → Int32) → Option (Int32 × Int32 × Int32 × (Nat → Int32))
  | 0, _, _, _, _ => none
  | fu + 1, v2_1, v3_2, v4_3, c_now_4 =>
    if v3_2 = 0 then
      some (v2_1, v3_2, v4_3, c_now_4)
    else
      (fX8_handOut_L2 v3_2 c_now_4 500 (-9) 0).bind fun z_22 =>
      (fX8_of c_now_4 z_22.1 2).bind fun r_23 =>
      if r_23 = 0 then
        (fX8_handOut_L3 v2_1 500 1).bind fun v6_29 =>
        (fX8_of c_now_4 z_22.1 3).bind fun r_30 =>
        if v6_29 = r_30 then
          bd (v4_3 + 0) fun v4_36 =>
          gd (inB ((3 + (4 * z_22.1)) + 3) 87 = true) <|
          bd (upd c_now_4 ((3 + (4 * z_22.1)) + 3).toNatClampNeg v6_29) fun c_now_37 =>
          bd (v2_1 ||| (1 <<< (v6_29 &&& 31))) fun v2_38 =>
          bd (v3_2 &&& ((1 <<< (z_22.1 &&& 31)) ^^^ (-1))) fun v3_39 =>
          fX8_handOut_L1 fu v2_38 v3_39 v4_36 c_now_37
        else
          bd (v4_3 + 1) fun v4_32 =>
          gd (inB ((3 + (4 * z_22.1)) + 3) 87 = true) <|
          bd (upd c_now_4 ((3 + (4 * z_22.1)) + 3).toNatClampNeg v6_29) fun c_now_33 =>
          bd (v2_1 ||| (1 <<< (v6_29 &&& 31))) fun v2_34 =>
          bd (v3_2 &&& ((1 <<< (z_22.1 &&& 31)) ^^^ (-1))) fun v3_35 =>
          fX8_handOut_L1 fu v2_34 v3_35 v4_32 c_now_33
      else
        (fX8_has v2_1 r_23).bind fun r_40 =>
        if r_40 = 0 then
          (fX8_of c_now_4 z_22.1 3).bind fun r_42 =>
          if r_23 = r_42 then
            bd (v4_3 + 0) fun v4_48 =>
            gd (inB ((3 + (4 * z_22.1)) + 3) 87 = true) <|
            bd (upd c_now_4 ((3 + (4 * z_22.1)) + 3).toNatClampNeg r_23) fun c_now_49 =>
            bd (v2_1 ||| (1 <<< (r_23 &&& 31))) fun v2_50 =>
            bd (v3_2 &&& ((1 <<< (z_22.1 &&& 31)) ^^^ (-1))) fun v3_51 =>
            fX8_handOut_L1 fu v2_50 v3_51 v4_48 c_now_49
          else
            bd (v4_3 + 1) fun v4_44 =>
            gd (inB ((3 + (4 * z_22.1)) + 3) 87 = true) <|
            bd (upd c_now_4 ((3 + (4 * z_22.1)) + 3).toNatClampNeg r_23) fun c_now_45 =>
            bd (v2_1 ||| (1 <<< (r_23 &&& 31))) fun v2_46 =>
            bd (v3_2 &&& ((1 <<< (z_22.1 &&& 31)) ^^^ (-1))) fun v3_47 =>
            fX8_handOut_L1 fu v2_46 v3_47 v4_44 c_now_45
        else
          (fX8_handOut_L4 v2_1 500 1).bind fun v6_56 =>
          (fX8_of c_now_4 z_22.1 3).bind fun r_57 =>
          if v6_56 = r_57 then
            bd (v4_3 + 0) fun v4_63 =>
            gd (inB ((3 + (4 * z_22.1)) + 3) 87 = true) <|
            bd (upd c_now_4 ((3 + (4 * z_22.1)) + 3).toNatClampNeg v6_56) fun c_now_64 =>
            bd (v2_1 ||| (1 <<< (v6_56 &&& 31))) fun v2_65 =>
            bd (v3_2 &&& ((1 <<< (z_22.1 &&& 31)) ^^^ (-1))) fun v3_66 =>
            fX8_handOut_L1 fu v2_65 v3_66 v4_63 c_now_64
          else
            bd (v4_3 + 1) fun v4_59 =>
            gd (inB ((3 + (4 * z_22.1)) + 3) 87 = true) <|
            bd (upd c_now_4 ((3 + (4 * z_22.1)) + 3).toNatClampNeg v6_56) fun c_now_60 =>
            bd (v2_1 ||| (1 <<< (v6_56 &&& 31))) fun v2_61 =>
            bd (v3_2 &&& ((1 <<< (z_22.1 &&& 31)) ^^^ (-1))) fun v3_62 =>
            fX8_handOut_L1 fu v2_61 v3_62 v4_59 c_now_60
def fX8_handOut (c_now : Nat → Int32) (p1 : Int32) : Option (Int32 × (Nat → Int32)) :=
  (fX8_handOut_L1  500 0 p1 0 c_now).bind fun z_67 =>
  some (z_67.2.2.1, z_67.2.2.2)
def fX8_zoneOf (c_now : Nat → Int32) (p1 : Int32) (p2 : Int32) : Option (Int32) :=
  gd (inB ((47 + (4 * p1)) + p2) 87 = true) <|
  some (c_now ((47 + (4 * p1)) + p2).toNatClampNeg)
def fX8_doZonesClash_L1 (c_now : Nat → Int32) (p1 : Int32) (p2 : Int32) : Nat → Int32 → Int32 → Option (Int32 × Int32)
  | 0, _, _ => none
  | fu + 1, v3_1, v4_2 =>
    if 4 ≤ v4_2 then
      some (v3_1, v4_2)
    else
      if v3_1 = 0 then
        (fX8_zoneOf c_now p1 v4_2).bind fun r_6 =>
        if r_6 = 0 then
          bd (v4_2 + 1) fun v4_8 =>
          fX8_doZonesClash_L1 c_now p1 p2 fu 0 v4_8
        else
          (fX8_zoneOf c_now p2 v4_2).bind fun r_9 =>
          if r_9 = 0 then
            bd (v4_2 + 1) fun v4_11 =>
            fX8_doZonesClash_L1 c_now p1 p2 fu 0 v4_11
          else
            (fX8_zoneOf c_now p1 v4_2).bind fun r_12 =>
            (fX8_zoneOf c_now p2 v4_2).bind fun r_13 =>
            if r_12 = r_13 then
              bd (v4_2 + 1) fun v4_15 =>
              fX8_doZonesClash_L1 c_now p1 p2 fu 0 v4_15
            else
              bd (v4_2 + 1) fun v4_16 =>
              fX8_doZonesClash_L1 c_now p1 p2 fu 1 v4_16
      else
        bd (v4_2 + 1) fun v4_5 =>
        fX8_doZonesClash_L1 c_now p1 p2 fu 1 v4_5
def fX8_doZonesClash (c_now : Nat → Int32) (p1 : Int32) (p2 : Int32) : Option (Int32) :=
  (fX8_doZonesClash_L1 c_now p1 p2 500 0 0).bind fun z_17 =>
  gd ((z_17.1 = 0 ∨ z_17.1 = 1)) <|
  some z_17.1
def fX8_blocksOf_L1 (c_now : Nat → Int32) (p1 : Int32) : Nat → Int32 → Int32 → Option (Int32 × Int32)
  | 0, _, _ => none
  | fu + 1, v2_1, v3_2 =>
    gd (inB 0 87 = true) <|
    if (c_now (0 : Int32).toNatClampNeg) ≤ v3_2 then
      some (v2_1, v3_2)
    else
      (fX8_has p1 v3_2).bind fun r_4 =>
      if r_4 = 0 then
        bd (v2_1 ||| 0) fun v2_6 =>
        bd (v3_2 + 1) fun v3_7 =>
        fX8_blocksOf_L1 c_now p1 fu v2_6 v3_7
      else
        (fX8_of c_now v3_2 3).bind fun r_8 =>
        bd (v2_1 ||| (1 <<< (r_8 &&& 31))) fun v2_9 =>
        bd (v3_2 + 1) fun v3_10 =>
        fX8_blocksOf_L1 c_now p1 fu v2_9 v3_10
def fX8_blocksOf (c_now : Nat → Int32) (p1 : Int32) : Option (Int32) :=
  (fX8_blocksOf_L1 c_now p1 500 0 0).bind fun z_11 =>
  some z_11.1
def fX8_doBlocksClash (c_now : Nat → Int32) (p1 : Int32) (p2 : Int32) : Option (Int32) :=
  (fX8_fabricOf c_now p1).bind fun r_1 =>
  (fX8_blocksOf c_now r_1).bind fun r_2 =>
  (fX8_fabricOf c_now p2).bind fun r_3 =>
  (fX8_blocksOf c_now r_3).bind fun r_4 =>
  if (r_2 &&& r_4) = 0 then
    some 0
  else
    some 1
def fX8_isUp (c_now : Nat → Int32) (p1 : Int32) (p2 : Int32) : Option (Int32) :=
  gd (inB (35 + p1) 87 = true) <|
  (fX8_has (c_now (35 + p1).toNatClampNeg) p2).bind fun r_1 =>
  gd ((r_1 = 0 ∨ r_1 = 1)) <|
  some r_1
def fX8_putLink (c_now : Nat → Int32) (p1 : Int32) (p2 : Int32) (p3 : Int32) (p4 : Int32) : Option (Nat → Int32) :=
  gd (inB (35 + p1) 87 = true) <|
  gd (inB (35 + p1) 87 = true) <|
  bd (upd c_now (35 + p1).toNatClampNeg (((c_now (35 + p1).toNatClampNeg) &&& ((1 <<< (p2 &&& 31)) ^^^ (-1))) ||| (p3 <<< (p2 &&& 31)))) fun c_now_1 =>
  gd (inB (35 + p2) 87 = true) <|
  gd (inB (35 + p2) 87 = true) <|
  bd (upd c_now_1 (35 + p2).toNatClampNeg (((c_now_1 (35 + p2).toNatClampNeg) &&& ((1 <<< (p1 &&& 31)) ^^^ (-1))) ||| (p3 <<< (p1 &&& 31)))) fun c_now_2 =>
  gd (inB (41 + p1) 87 = true) <|
  gd (inB (41 + p1) 87 = true) <|
  bd (upd c_now_2 (41 + p1).toNatClampNeg (((c_now_2 (41 + p1).toNatClampNeg) &&& ((1 <<< (p2 &&& 31)) ^^^ (-1))) ||| (p4 <<< (p2 &&& 31)))) fun c_now_3 =>
  gd (inB (41 + p2) 87 = true) <|
  gd (inB (41 + p2) 87 = true) <|
  bd (upd c_now_3 (41 + p2).toNatClampNeg (((c_now_3 (41 + p2).toNatClampNeg) &&& ((1 <<< (p1 &&& 31)) ^^^ (-1))) ||| (p4 <<< (p1 &&& 31)))) fun c_now_4 =>
  some c_now_4
def fX8_zonesOf_L1 (c_now : Nat → Int32) (p1 : Int32) : Nat → Int32 → Int32 → Option (Int32 × Int32)
  | 0, _, _ => none
  | fu + 1, v2_1, v3_2 =>
    if 4 ≤ v3_2 then
      some (v2_1, v3_2)
    else
      (fX8_zoneOf c_now p1 v3_2).bind fun r_4 =>
      bd (v2_1 ||| r_4) fun v2_5 =>
      bd (v3_2 + 1) fun v3_6 =>
      fX8_zonesOf_L1 c_now p1 fu v2_5 v3_6
def fX8_zonesOf (c_now : Nat → Int32) (p1 : Int32) : Option (Int32) :=
  (fX8_zonesOf_L1 c_now p1 500 0 0).bind fun z_7 =>
  some z_7.1
def fX8_areInOne_L1 (c_now : Nat → Int32) (p1 : Int32) (p2 : Int32) (p3 : Int32) : Nat → Int32 → Int32 → Option (Int32 × Int32)
  | 0, _, _ => none
  | fu + 1, v4_3, v5_4 =>
    if 4 ≤ v5_4 then
      some (v4_3, v5_4)
    else
      if v4_3 = 0 then
        (fX8_zoneOf c_now p1 v5_4).bind fun r_8 =>
        (fX8_has r_8 p2).bind fun r_9 =>
        if r_9 = 0 then
          bd (v5_4 + 1) fun v5_11 =>
          fX8_areInOne_L1 c_now p1 p2 p3 fu 0 v5_11
        else
          (fX8_zoneOf c_now p1 v5_4).bind fun r_12 =>
          (fX8_has r_12 p3).bind fun r_13 =>
          if r_13 = 0 then
            bd (v5_4 + 1) fun v5_15 =>
            fX8_areInOne_L1 c_now p1 p2 p3 fu 0 v5_15
          else
            bd (v5_4 + 1) fun v5_16 =>
            fX8_areInOne_L1 c_now p1 p2 p3 fu 1 v5_16
      else
        bd (v5_4 + 1) fun v5_7 =>
        fX8_areInOne_L1 c_now p1 p2 p3 fu 1 v5_7
def fX8_areInOne_L2 (c_now : Nat → Int32) (p1 : Int32) (p2 : Int32) (p3 : Int32) : Nat → Int32 → Int32 → Option (Int32 × Int32)
  | 0, _, _ => none
  | fu + 1, v4_18, v5_19 =>
    if 4 ≤ v5_19 then
      some (v4_18, v5_19)
    else
      if v4_18 = 0 then
        (fX8_zoneOf c_now p1 v5_19).bind fun r_23 =>
        (fX8_has r_23 p2).bind fun r_24 =>
        if r_24 = 0 then
          bd (v5_19 + 1) fun v5_26 =>
          fX8_areInOne_L2 c_now p1 p2 p3 fu 0 v5_26
        else
          (fX8_zoneOf c_now p1 v5_19).bind fun r_27 =>
          (fX8_has r_27 p3).bind fun r_28 =>
          if r_28 = 0 then
            bd (v5_19 + 1) fun v5_30 =>
            fX8_areInOne_L2 c_now p1 p2 p3 fu 0 v5_30
          else
            bd (v5_19 + 1) fun v5_31 =>
            fX8_areInOne_L2 c_now p1 p2 p3 fu 1 v5_31
      else
        bd (v5_19 + 1) fun v5_22 =>
        fX8_areInOne_L2 c_now p1 p2 p3 fu 1 v5_22
def fX8_areInOne (c_now : Nat → Int32) (p1 : Int32) (p2 : Int32) (p3 : Int32) : Option (Int32) :=
  (fX8_zonesOf c_now p1).bind fun r_1 =>
  if r_1 = 0 then
    (fX8_areInOne_L2 c_now p1 p2 p3 500 1 0).bind fun z_32 =>
    gd ((z_32.1 = 0 ∨ z_32.1 = 1)) <|
    some z_32.1
  else
    (fX8_areInOne_L1 c_now p1 p2 p3 500 0 0).bind fun z_17 =>
    gd ((z_17.1 = 0 ∨ z_17.1 = 1)) <|
    some z_17.1
def fX8_doesSee (c_now : Nat → Int32) (p1 : Int32) (p2 : Int32) : Option (Int32) :=
  gd (inB (27 + p1) 87 = true) <|
  bd (c_now (27 + p1).toNatClampNeg) fun v3_1 =>
  gd (inB (27 + p2) 87 = true) <|
  bd (c_now (27 + p2).toNatClampNeg) fun v4_2 =>
  if p1 = p2 then
    some 0
  else
    if v3_1 = (-9) then
      some 0
    else
      if v4_2 = (-9) then
        some 0
      else
        (fX8_fabricOf c_now v3_1).bind fun r_6 =>
        (fX8_has r_6 v4_2).bind fun r_7 =>
        if r_7 = 0 then
          some 0
        else
          (fX8_areInOne c_now v3_1 p1 p2).bind fun r_9 =>
          if r_9 = 0 then
            some 0
          else
            some 1
def fX8_seesOf_L1 (c_now : Nat → Int32) (p1 : Int32) : Nat → Int32 → Int32 → Option (Int32 × Int32)
  | 0, _, _ => none
  | fu + 1, v2_1, v3_2 =>
    gd (inB 1 87 = true) <|
    if (c_now (1 : Int32).toNatClampNeg) ≤ v3_2 then
      some (v2_1, v3_2)
    else
      (fX8_doesSee c_now p1 v3_2).bind fun r_4 =>
      if r_4 = 0 then
        bd (v2_1 ||| 0) fun v2_6 =>
        bd (v3_2 + 1) fun v3_7 =>
        fX8_seesOf_L1 c_now p1 fu v2_6 v3_7
      else
        bd (v2_1 ||| (1 <<< (v3_2 &&& 31))) fun v2_8 =>
        bd (v3_2 + 1) fun v3_9 =>
        fX8_seesOf_L1 c_now p1 fu v2_8 v3_9
def fX8_seesOf (c_now : Nat → Int32) (p1 : Int32) : Option (Int32) :=
  (fX8_seesOf_L1 c_now p1 500 0 0).bind fun z_10 =>
  some z_10.1
def fX8_twos_L1 (c_now : Nat → Int32) : Nat → Int32 → Int32 → Option (Int32 × Int32)
  | 0, _, _ => none
  | fu + 1, v1_1, v2_2 =>
    gd (inB 1 87 = true) <|
    if (c_now (1 : Int32).toNatClampNeg) ≤ v2_2 then
      some (v1_1, v2_2)
    else
      (fX8_seesOf c_now v2_2).bind fun r_4 =>
      (fX8_ones r_4).bind fun r_5 =>
      bd (v1_1 + r_5) fun v1_6 =>
      bd (v2_2 + 1) fun v2_7 =>
      fX8_twos_L1 c_now fu v1_6 v2_7
def fX8_twos (c_now : Nat → Int32) : Option (Int32) :=
  (fX8_twos_L1 c_now 500 0 0).bind fun z_8 =>
  some (z_8.1 / 2)
def fX8_looks_L1 (c_now : Nat → Int32) : Nat → Int32 → (Nat → Int32) → Option (Int32 × (Nat → Int32))
  | 0, _, _ => none
  | fu + 1, v1_1, c_seenAhead_2 =>
    gd (inB 1 87 = true) <|
    if (c_now (1 : Int32).toNatClampNeg) ≤ v1_1 then
      some (v1_1, c_seenAhead_2)
    else
      (fX8_seesOf c_now v1_1).bind fun r_4 =>
      gd (inB v1_1 8 = true) <|
      bd (upd c_seenAhead_2 v1_1.toNatClampNeg r_4) fun c_seenAhead_5 =>
      bd (v1_1 + 1) fun v1_6 =>
      fX8_looks_L1 c_now fu v1_6 c_seenAhead_5
def fX8_looks (c_now : Nat → Int32) (c_seenAhead : Nat → Int32) : Option (Nat → Int32) :=
  (fX8_looks_L1 c_now 500 0 c_seenAhead).bind fun z_7 =>
  some z_7.2
def fX8_tellNews_L1 (c_seenAhead : Nat → Int32) : Nat → Int32 → (Nat → Int32) → Option (Int32 × (Nat → Int32))
  | 0, _, _ => none
  | fu + 1, v1_1, c_now_2 =>
    gd (inB 1 87 = true) <|
    if (c_now_2 (1 : Int32).toNatClampNeg) ≤ v1_1 then
      some (v1_1, c_now_2)
    else
      gd (inB v1_1 8 = true) <|
      (fX8_seesOf c_now_2 v1_1).bind fun r_4 =>
      bd ((c_seenAhead v1_1.toNatClampNeg) ^^^ r_4) fun v2_5 =>
      gd (inB (71 + v1_1) 87 = true) <|
      if v2_5 = 0 then
        gd (inB (71 + v1_1) 87 = true) <|
        bd (upd c_now_2 (71 + v1_1).toNatClampNeg ((c_now_2 (71 + v1_1).toNatClampNeg) + 0)) fun c_now_13 =>
        if v2_5 = 0 then
          gd (inB (79 + v1_1) 87 = true) <|
          gd (inB (79 + v1_1) 87 = true) <|
          bd (upd c_now_13 (79 + v1_1).toNatClampNeg (c_now_13 (79 + v1_1).toNatClampNeg)) fun c_now_17 =>
          bd (v1_1 + 1) fun v1_18 =>
          fX8_tellNews_L1 c_seenAhead fu v1_18 c_now_17
        else
          gd (inB (79 + v1_1) 87 = true) <|
          bd (upd c_now_13 (79 + v1_1).toNatClampNeg v2_5) fun c_now_15 =>
          bd (v1_1 + 1) fun v1_16 =>
          fX8_tellNews_L1 c_seenAhead fu v1_16 c_now_15
      else
        gd (inB (71 + v1_1) 87 = true) <|
        bd (upd c_now_2 (71 + v1_1).toNatClampNeg ((c_now_2 (71 + v1_1).toNatClampNeg) + 1)) fun c_now_7 =>
        if v2_5 = 0 then
          gd (inB (79 + v1_1) 87 = true) <|
          gd (inB (79 + v1_1) 87 = true) <|
          bd (upd c_now_7 (79 + v1_1).toNatClampNeg (c_now_7 (79 + v1_1).toNatClampNeg)) fun c_now_11 =>
          bd (v1_1 + 1) fun v1_12 =>
          fX8_tellNews_L1 c_seenAhead fu v1_12 c_now_11
        else
          gd (inB (79 + v1_1) 87 = true) <|
          bd (upd c_now_7 (79 + v1_1).toNatClampNeg v2_5) fun c_now_9 =>
          bd (v1_1 + 1) fun v1_10 =>
          fX8_tellNews_L1 c_seenAhead fu v1_10 c_now_9
def fX8_tellNews (c_now : Nat → Int32) (c_seenAhead : Nat → Int32) : Option (Nat → Int32) :=
  (fX8_tellNews_L1 c_seenAhead 500 0 c_now).bind fun z_19 =>
  some z_19.2
def fX8_wouldBe (c_now : Nat → Int32) (p1 : Int32) (p2 : Int32) : Option (Int32) :=
  (fX8_fabricOf c_now p1).bind fun r_1 =>
  (fX8_has r_1 p2).bind fun r_2 =>
  if r_2 = 0 then
    (fX8_doZonesClash c_now p1 p2).bind fun r_4 =>
    (fX8_doBlocksClash c_now p1 p2).bind fun r_5 =>
    if r_4 = 0 then
      if r_5 = 0 then
        some 1
      else
        gd (inB 2 87 = true) <|
        if (c_now (2 : Int32).toNatClampNeg) = 1 then
          some 2
        else
          some 3
    else
      if r_5 = 0 then
        some 4
      else
        some 5
  else
    some 0
def fX8_zoned_L1 (p1 : Int32) (p2 : Int32) (p3 : Int32) : Nat → Int32 → (Nat → Int32) → Option (Int32 × (Nat → Int32))
  | 0, _, _ => none
  | fu + 1, v4_1, c_now_2 =>
    gd (inB 0 87 = true) <|
    if (c_now_2 (0 : Int32).toNatClampNeg) ≤ v4_1 then
      some (v4_1, c_now_2)
    else
      (fX8_has p1 v4_1).bind fun r_4 =>
      if r_4 = 0 then
        gd (inB ((47 + (4 * v4_1)) + p2) 87 = true) <|
        gd (inB ((47 + (4 * v4_1)) + p2) 87 = true) <|
        bd (upd c_now_2 ((47 + (4 * v4_1)) + p2).toNatClampNeg (c_now_2 ((47 + (4 * v4_1)) + p2).toNatClampNeg)) fun c_now_6 =>
        bd (v4_1 + 1) fun v4_7 =>
        fX8_zoned_L1 p1 p2 p3 fu v4_7 c_now_6
      else
        gd (inB ((47 + (4 * v4_1)) + p2) 87 = true) <|
        bd (upd c_now_2 ((47 + (4 * v4_1)) + p2).toNatClampNeg p3) fun c_now_8 =>
        bd (v4_1 + 1) fun v4_9 =>
        fX8_zoned_L1 p1 p2 p3 fu v4_9 c_now_8
def fX8_zoned (c_now : Nat → Int32) (p1 : Int32) (p2 : Int32) (p3 : Int32) : Option (Nat → Int32) :=
  (fX8_zoned_L1 p1 p2 p3 500 0 c_now).bind fun z_10 =>
  some z_10.2
def fX8_joins_L1 (p1 : Int32) (p2 : Int32) (r_12 : Int32) : Nat → Int32 → (Nat → Int32) → Option (Int32 × (Nat → Int32))
  | 0, _, _ => none
  | fu + 1, v5_13, c_now_14 =>
    if 4 ≤ v5_13 then
      some (v5_13, c_now_14)
    else
      (fX8_zoneOf c_now_14 p1 v5_13).bind fun r_16 =>
      (fX8_zoneOf c_now_14 p2 v5_13).bind fun r_17 =>
      (fX8_zoned c_now_14 r_12 v5_13 (r_16 ||| r_17)).bind fun z_18 =>
      bd (v5_13 + 1) fun v5_19 =>
      fX8_joins_L1 p1 p2 r_12 fu v5_19 z_18
def fX8_joins (c_now : Nat → Int32) (c_past : Nat → Int32) (c_deeds : Int32) (c_seenAhead : Nat → Int32) (p1 : Int32) (p2 : Int32) : Option (Int32 × (Nat → Int32) × (Nat → Int32) × Int32 × (Nat → Int32)) :=
  (fX8_areTwo c_now p1 p2).bind fun r_1 =>
  if r_1 = 0 then
    some ((-1), c_now, c_past, c_deeds, c_seenAhead)
  else
    (fX8_isUp c_now p1 p2).bind fun r_3 =>
    if r_3 = 0 then
      (fX8_note c_now c_past c_deeds).bind fun z_5 =>
      (fX8_wouldBe c_now p1 p2).bind fun r_6 =>
      if r_6 ≤ 2 then
        (fX8_looks c_now c_seenAhead).bind fun z_8 =>
        (fX8_putLink c_now p1 p2 1 0).bind fun z_9 =>
        if r_6 ≤ 0 then
          (fX8_tellNews z_9 z_8).bind fun z_11 =>
          some (1, z_11, z_5.1, z_5.2, z_8)
        else
          (fX8_fabricOf z_9 p1).bind fun r_12 =>
          (fX8_joins_L1 p1 p2 r_12 500 0 z_9).bind fun z_20 =>
          if r_6 = 2 then
            (fX8_handOut z_20.2 r_12).bind fun z_23 =>
            (fX8_tellNews z_23.2 z_8).bind fun z_24 =>
            some (1, z_24, z_5.1, z_5.2, z_8)
          else
            (fX8_tellNews z_20.2 z_8).bind fun z_22 =>
            some (1, z_22, z_5.1, z_5.2, z_8)
      else
        (fX8_putLink c_now p1 p2 0 1).bind fun z_25 =>
        some (0, z_25, z_5.1, z_5.2, c_seenAhead)
    else
      some ((-2), c_now, c_past, c_deeds, c_seenAhead)
def fX8_cuts (c_now : Nat → Int32) (c_past : Nat → Int32) (c_deeds : Int32) (c_seenAhead : Nat → Int32) (p1 : Int32) (p2 : Int32) : Option (Int32 × (Nat → Int32) × (Nat → Int32) × Int32 × (Nat → Int32)) :=
  (fX8_areTwo c_now p1 p2).bind fun r_1 =>
  if r_1 = 0 then
    some ((-1), c_now, c_past, c_deeds, c_seenAhead)
  else
    (fX8_isUp c_now p1 p2).bind fun r_3 =>
    if r_3 = 0 then
      gd (inB (41 + p1) 87 = true) <|
      (fX8_has (c_now (41 + p1).toNatClampNeg) p2).bind fun r_10 =>
      if r_10 = 0 then
        some ((-2), c_now, c_past, c_deeds, c_seenAhead)
      else
        (fX8_note c_now c_past c_deeds).bind fun z_12 =>
        (fX8_looks c_now c_seenAhead).bind fun z_13 =>
        (fX8_putLink c_now p1 p2 0 0).bind fun z_14 =>
        (fX8_tellNews z_14 z_13).bind fun z_15 =>
        (fX8_fabrics z_15).bind fun r_16 =>
        some (r_16, z_15, z_12.1, z_12.2, z_13)
    else
      (fX8_note c_now c_past c_deeds).bind fun z_5 =>
      (fX8_looks c_now c_seenAhead).bind fun z_6 =>
      (fX8_putLink c_now p1 p2 0 0).bind fun z_7 =>
      (fX8_tellNews z_7 z_6).bind fun z_8 =>
      (fX8_fabrics z_8).bind fun r_9 =>
      some (r_9, z_8, z_5.1, z_5.2, z_6)
def fX8_zones (c_now : Nat → Int32) (c_past : Nat → Int32) (c_deeds : Int32) (c_seenAhead : Nat → Int32) (p1 : Int32) (p2 : Int32) (p3 : Int32) : Option (Int32 × (Nat → Int32) × (Nat → Int32) × Int32 × (Nat → Int32)) :=
  (fX8_isSwitch c_now p1).bind fun r_1 =>
  if r_1 = 0 then
    some ((-1), c_now, c_past, c_deeds, c_seenAhead)
  else
    (fX8_in p2 0 3).bind fun r_3 =>
    if r_3 = 0 then
      some ((-1), c_now, c_past, c_deeds, c_seenAhead)
    else
      gd (inB 1 87 = true) <|
      (fX8_in p3 0 ((1 <<< ((c_now (1 : Int32).toNatClampNeg) &&& 31)) - 1)).bind fun r_5 =>
      if r_5 = 0 then
        some ((-1), c_now, c_past, c_deeds, c_seenAhead)
      else
        (fX8_zoneOf c_now p1 p2).bind fun r_7 =>
        if r_7 = p3 then
          some ((-2), c_now, c_past, c_deeds, c_seenAhead)
        else
          (fX8_note c_now c_past c_deeds).bind fun z_9 =>
          (fX8_looks c_now c_seenAhead).bind fun z_10 =>
          (fX8_fabricOf c_now p1).bind fun r_11 =>
          (fX8_zoned c_now r_11 p2 p3).bind fun z_12 =>
          (fX8_tellNews z_12 z_10).bind fun z_13 =>
          some (r_7, z_13, z_9.1, z_9.2, z_10)
def fX8_moves (c_now : Nat → Int32) (c_past : Nat → Int32) (c_deeds : Int32) (c_seenAhead : Nat → Int32) (p1 : Int32) (p2 : Int32) : Option (Int32 × (Nat → Int32) × (Nat → Int32) × Int32 × (Nat → Int32)) :=
  (fX8_isHost c_now p1).bind fun r_1 =>
  if r_1 = 0 then
    some ((-1), c_now, c_past, c_deeds, c_seenAhead)
  else
    if p2 = (-9) then
      gd (inB (27 + p1) 87 = true) <|
      bd (c_now (27 + p1).toNatClampNeg) fun v3_4 =>
      if v3_4 = p2 then
        some ((-2), c_now, c_past, c_deeds, c_seenAhead)
      else
        (fX8_note c_now c_past c_deeds).bind fun z_6 =>
        (fX8_looks c_now c_seenAhead).bind fun z_7 =>
        gd (inB (27 + p1) 87 = true) <|
        bd (upd c_now (27 + p1).toNatClampNeg p2) fun c_now_8 =>
        (fX8_tellNews c_now_8 z_7).bind fun z_9 =>
        some (v3_4, z_9, z_6.1, z_6.2, z_7)
    else
      (fX8_isSwitch c_now p2).bind fun r_10 =>
      if r_10 = 0 then
        some ((-1), c_now, c_past, c_deeds, c_seenAhead)
      else
        gd (inB (27 + p1) 87 = true) <|
        bd (c_now (27 + p1).toNatClampNeg) fun v3_12 =>
        if v3_12 = p2 then
          some ((-2), c_now, c_past, c_deeds, c_seenAhead)
        else
          (fX8_note c_now c_past c_deeds).bind fun z_14 =>
          (fX8_looks c_now c_seenAhead).bind fun z_15 =>
          gd (inB (27 + p1) 87 = true) <|
          bd (upd c_now (27 + p1).toNatClampNeg p2) fun c_now_16 =>
          (fX8_tellNews c_now_16 z_15).bind fun z_17 =>
          some (v3_12, z_17, z_14.1, z_14.2, z_15)
def fX8_ranks (c_now : Nat → Int32) (c_past : Nat → Int32) (c_deeds : Int32) (p1 : Int32) (p2 : Int32) : Option (Int32 × (Nat → Int32) × (Nat → Int32) × Int32) :=
  (fX8_isSwitch c_now p1).bind fun r_1 =>
  if r_1 = 0 then
    some ((-1), c_now, c_past, c_deeds)
  else
    (fX8_in p2 1 9).bind fun r_3 =>
    if r_3 = 0 then
      some ((-1), c_now, c_past, c_deeds)
    else
      (fX8_of c_now p1 0).bind fun r_5 =>
      if r_5 = p2 then
        some ((-2), c_now, c_past, c_deeds)
      else
        (fX8_note c_now c_past c_deeds).bind fun z_7 =>
        gd (inB ((3 + (4 * p1)) + 0) 87 = true) <|
        bd (upd c_now ((3 + (4 * p1)) + 0).toNatClampNeg p2) fun c_now_8 =>
        some (r_5, c_now_8, z_7.1, z_7.2)
def fX8_renews (c_now : Nat → Int32) (c_past : Nat → Int32) (c_deeds : Int32) (p1 : Int32) : Option (Int32 × (Nat → Int32) × (Nat → Int32) × Int32) :=
  (fX8_isSwitch c_now p1).bind fun r_1 =>
  if r_1 = 0 then
    some ((-1), c_now, c_past, c_deeds)
  else
    (fX8_note c_now c_past c_deeds).bind fun z_3 =>
    (fX8_fabricOf c_now p1).bind fun r_4 =>
    (fX8_handOut c_now r_4).bind fun z_5 =>
    some (z_5.1, z_5.2, z_3.1, z_3.2)
def fX8_allows (c_now : Nat → Int32) (c_past : Nat → Int32) (c_deeds : Int32) (p1 : Int32) : Option (Int32 × (Nat → Int32) × (Nat → Int32) × Int32) :=
  (fX8_in p1 0 1).bind fun r_1 =>
  if r_1 = 0 then
    some ((-1), c_now, c_past, c_deeds)
  else
    gd (inB 2 87 = true) <|
    if (c_now (2 : Int32).toNatClampNeg) = p1 then
      some ((-2), c_now, c_past, c_deeds)
    else
      (fX8_note c_now c_past c_deeds).bind fun z_4 =>
      gd (inB 2 87 = true) <|
      bd (upd c_now (2 : Int32).toNatClampNeg p1) fun c_now_5 =>
      some (1, c_now_5, z_4.1, z_4.2)
def fX8_undo (c_now : Nat → Int32) (c_past : Nat → Int32) (c_deeds : Int32) : Option (Int32 × (Nat → Int32) × Int32) :=
  if c_deeds = 0 then
    some ((-2), c_now, c_deeds)
  else
    bd (c_deeds - 1) fun c_deeds_2 =>
    (fX8_bring 435 87 c_past c_now (87 * c_deeds_2) 0).bind fun z_3 =>
    some (c_deeds_2, z_3, c_deeds_2)
def fX8_hostsAt_L1 (c_now : Nat → Int32) (p1 : Int32) : Nat → Int32 → Int32 → Option (Int32 × Int32)
  | 0, _, _ => none
  | fu + 1, v2_1, v3_2 =>
    gd (inB 1 87 = true) <|
    if (c_now (1 : Int32).toNatClampNeg) ≤ v3_2 then
      some (v2_1, v3_2)
    else
      gd (inB (27 + v3_2) 87 = true) <|
      if (c_now (27 + v3_2).toNatClampNeg) = p1 then
        bd (v2_1 ||| (1 <<< (v3_2 &&& 31))) fun v2_7 =>
        bd (v3_2 + 1) fun v3_8 =>
        fX8_hostsAt_L1 c_now p1 fu v2_7 v3_8
      else
        bd (v2_1 ||| 0) fun v2_5 =>
        bd (v3_2 + 1) fun v3_6 =>
        fX8_hostsAt_L1 c_now p1 fu v2_5 v3_6
def fX8_hostsAt (c_now : Nat → Int32) (p1 : Int32) : Option (Int32) :=
  (fX8_hostsAt_L1 c_now p1 500 0 0).bind fun z_9 =>
  some z_9.1
def fX8_device (c_now : Nat → Int32) (p1 : Int32) (p2 : Int32) : Option (Int32) :=
  (fX8_isSwitch c_now p1).bind fun r_1 =>
  if r_1 = 0 then
    some (-1)
  else
    (fX8_in p2 0 7).bind fun r_3 =>
    if r_3 = 0 then
      some (-1)
    else
      if p2 = 4 then
        (fX8_fabricOf c_now p1).bind fun r_5 =>
        (fX8_principalOf c_now r_5).bind fun r_6 =>
        some r_6
      else
        if p2 = 5 then
          (fX8_farOf c_now p1).bind fun r_7 =>
          some r_7
        else
          if p2 = 6 then
            (fX8_fabricOf c_now p1).bind fun r_8 =>
            some r_8
          else
            if p2 = 7 then
              (fX8_hostsAt c_now p1).bind fun r_9 =>
              some r_9
            else
              (fX8_of c_now p1 p2).bind fun r_10 =>
              some r_10
def fX8_link (c_now : Nat → Int32) (p1 : Int32) (p2 : Int32) : Option (Int32) :=
  (fX8_areTwo c_now p1 p2).bind fun r_1 =>
  if r_1 = 0 then
    some (-1)
  else
    (fX8_isUp c_now p1 p2).bind fun r_3 =>
    if r_3 = 0 then
      gd (inB (41 + p1) 87 = true) <|
      (fX8_has (c_now (41 + p1).toNatClampNeg) p2).bind fun r_5 =>
      if r_5 = 0 then
        some 0
      else
        some 2
    else
      some 1
def fX8_zone (c_now : Nat → Int32) (p1 : Int32) (p2 : Int32) : Option (Int32) :=
  (fX8_isSwitch c_now p1).bind fun r_1 =>
  if r_1 = 0 then
    some (-1)
  else
    (fX8_in p2 0 3).bind fun r_3 =>
    if r_3 = 0 then
      some (-1)
    else
      (fX8_zoneOf c_now p1 p2).bind fun r_5 =>
      some r_5
def fX8_host (c_now : Nat → Int32) (p1 : Int32) (p2 : Int32) : Option (Int32) :=
  (fX8_isHost c_now p1).bind fun r_1 =>
  if r_1 = 0 then
    some (-1)
  else
    (fX8_in p2 0 3).bind fun r_3 =>
    if r_3 = 0 then
      some (-1)
    else
      if p2 = 0 then
        gd (inB (27 + p1) 87 = true) <|
        some (c_now (27 + p1).toNatClampNeg)
      else
        if p2 = 1 then
          (fX8_seesOf c_now p1).bind fun r_8 =>
          some r_8
        else
          if p2 = 2 then
            gd (inB (71 + p1) 87 = true) <|
            some (c_now (71 + p1).toNatClampNeg)
          else
            gd (inB (79 + p1) 87 = true) <|
            some (c_now (79 + p1).toNatClampNeg)
def fX8_would (c_now : Nat → Int32) (p1 : Int32) (p2 : Int32) : Option (Int32) :=
  (fX8_areTwo c_now p1 p2).bind fun r_1 =>
  if r_1 = 0 then
    some (-1)
  else
    (fX8_isUp c_now p1 p2).bind fun r_3 =>
    if r_3 = 0 then
      (fX8_wouldBe c_now p1 p2).bind fun r_5 =>
      some r_5
    else
      some (-2)
def fX8_findWeakest_L2 (r_1 : Int32) (v2_2 : Int32) : Nat → Int32 → (Nat → Int32) → Int32 → Int32 → Option (Int32 × (Nat → Int32) × Int32 × Int32)
  | 0, _, _, _, _ => none
  | fu + 1, v3_8, c_now_9, c_weakLink_10, c_weakTwos_11 =>
    gd (inB 0 87 = true) <|
    if (c_now_9 (0 : Int32).toNatClampNeg) ≤ v3_8 then
      some (v3_8, c_now_9, c_weakLink_10, c_weakTwos_11)
    else
      (fX8_isUp c_now_9 v2_2 v3_8).bind fun r_13 =>
      if r_13 = 0 then
        bd (v3_8 + 1) fun v3_15 =>
        fX8_findWeakest_L2 r_1 v2_2 fu v3_15 c_now_9 c_weakLink_10 c_weakTwos_11
      else
        (fX8_putLink c_now_9 v2_2 v3_8 0 0).bind fun z_16 =>
        (fX8_twos z_16).bind fun r_17 =>
        bd (r_1 - r_17) fun v4_18 =>
        (fX8_putLink z_16 v2_2 v3_8 1 0).bind fun z_19 =>
        if v4_18 ≤ c_weakTwos_11 then
          if v4_18 ≤ c_weakTwos_11 then
            bd (v3_8 + 1) fun v3_22 =>
            fX8_findWeakest_L2 r_1 v2_2 fu v3_22 z_19 c_weakLink_10 c_weakTwos_11
          else
            bd (v3_8 + 1) fun v3_23 =>
            fX8_findWeakest_L2 r_1 v2_2 fu v3_23 z_19 c_weakLink_10 v4_18
        else
          bd ((10 * v2_2) + v3_8) fun c_weakLink_24 =>
          if v4_18 ≤ c_weakTwos_11 then
            bd (v3_8 + 1) fun v3_26 =>
            fX8_findWeakest_L2 r_1 v2_2 fu v3_26 z_19 c_weakLink_24 c_weakTwos_11
          else
            bd (v3_8 + 1) fun v3_27 =>
            fX8_findWeakest_L2 r_1 v2_2 fu v3_27 z_19 c_weakLink_24 v4_18
def fX8_findWeakest_L1 (r_1 : Int32) : Nat → Int32 → (Nat → Int32) → Int32 → Int32 → Option (Int32 × (Nat → Int32) × Int32 × Int32)
  | 0, _, _, _, _ => none
  | fu + 1, v2_2, c_now_3, c_weakLink_4, c_weakTwos_5 =>
    gd (inB 0 87 = true) <|
    if (c_now_3 (0 : Int32).toNatClampNeg) ≤ v2_2 then
      some (v2_2, c_now_3, c_weakLink_4, c_weakTwos_5)
    else
      bd (v2_2 + 1) fun v3_7 =>
      (fX8_findWeakest_L2 r_1 v2_2 500 v3_7 c_now_3 c_weakLink_4 c_weakTwos_5).bind fun z_28 =>
      bd (v2_2 + 1) fun v2_29 =>
      fX8_findWeakest_L1 r_1 fu v2_29 z_28.2.1 z_28.2.2.1 z_28.2.2.2
def fX8_findWeakest (c_now : Nat → Int32) : Option ((Nat → Int32) × Int32 × Int32) :=
  (fX8_twos c_now).bind fun r_1 =>
  (fX8_findWeakest_L1 r_1 500 0 c_now (-9) (-9)).bind fun z_30 =>
  some (z_30.2.1, z_30.2.2.1, z_30.2.2.2)
def fX8_weakest (c_now : Nat → Int32) (c_weakLink : Int32) (c_weakTwos : Int32) (p1 : Int32) : Option (Int32 × (Nat → Int32) × Int32 × Int32) :=
  (fX8_in p1 0 1).bind fun r_1 =>
  if r_1 = 0 then
    some ((-1), c_now, c_weakLink, c_weakTwos)
  else
    (fX8_findWeakest c_now).bind fun z_3 =>
    if p1 = 0 then
      some (z_3.2.1, z_3.1, z_3.2.1, z_3.2.2)
    else
      some (z_3.2.2, z_3.1, z_3.2.1, z_3.2.2)
def fX8_sees (c_facts : Nat → Int32) (c_seen : Int32) (p1 : Int32) (p2 : Int32) (p3 : Int32) : Option (Int32 × (Nat → Int32) × Int32) :=
  (fX8_in p1 0 7).bind fun r_1 =>
  if r_1 = 0 then
    some ((-1), c_facts, c_seen)
  else
    (fX8_in p2 0 7).bind fun r_3 =>
    if r_3 = 0 then
      some ((-1), c_facts, c_seen)
    else
      if p1 = p2 then
        some ((-1), c_facts, c_seen)
      else
        (fX8_in p3 0 1).bind fun r_6 =>
        if r_6 = 0 then
          some ((-1), c_facts, c_seen)
        else
          if c_seen = 6 then
            some ((-3), c_facts, c_seen)
          else
            gd (inB (3 * c_seen) 18 = true) <|
            bd (upd c_facts (3 * c_seen).toNatClampNeg p1) fun c_facts_9 =>
            gd (inB ((3 * c_seen) + 1) 18 = true) <|
            bd (upd c_facts_9 ((3 * c_seen) + 1).toNatClampNeg p2) fun c_facts_10 =>
            gd (inB ((3 * c_seen) + 2) 18 = true) <|
            bd (upd c_facts_10 ((3 * c_seen) + 2).toNatClampNeg p3) fun c_facts_11 =>
            bd (c_seen + 1) fun c_seen_12 =>
            some (c_seen_12, c_facts_11, c_seen_12)
def fX8_forget (c_seen : Int32) : Option (Int32 × Int32) :=
  some (c_seen, 0)
def fX8_isSo_L1 (c_now : Nat → Int32) (c_facts : Nat → Int32) (c_seen : Int32) : Nat → Int32 → Int32 → Option (Int32 × Int32)
  | 0, _, _ => none
  | fu + 1, v1_1, v2_2 =>
    if c_seen ≤ v2_2 then
      some (v1_1, v2_2)
    else
      gd (inB (3 * v2_2) 18 = true) <|
      bd (c_facts (3 * v2_2).toNatClampNeg) fun v3_4 =>
      gd (inB ((3 * v2_2) + 1) 18 = true) <|
      bd (c_facts ((3 * v2_2) + 1).toNatClampNeg) fun v4_5 =>
      if v1_1 = 0 then
        bd (v2_2 + 1) fun v2_7 =>
        fX8_isSo_L1 c_now c_facts c_seen fu 0 v2_7
      else
        (fX8_isHost c_now v3_4).bind fun r_8 =>
        if r_8 = 0 then
          bd (v2_2 + 1) fun v2_10 =>
          fX8_isSo_L1 c_now c_facts c_seen fu 0 v2_10
        else
          (fX8_isHost c_now v4_5).bind fun r_11 =>
          if r_11 = 0 then
            bd (v2_2 + 1) fun v2_13 =>
            fX8_isSo_L1 c_now c_facts c_seen fu 0 v2_13
          else
            (fX8_doesSee c_now v3_4 v4_5).bind fun r_14 =>
            gd (inB ((3 * v2_2) + 2) 18 = true) <|
            if (c_facts ((3 * v2_2) + 2).toNatClampNeg) = 1 then
              if r_14 = 1 then
                bd (v2_2 + 1) fun v2_21 =>
                fX8_isSo_L1 c_now c_facts c_seen fu 1 v2_21
              else
                bd (v2_2 + 1) fun v2_20 =>
                fX8_isSo_L1 c_now c_facts c_seen fu 0 v2_20
            else
              if r_14 = 0 then
                bd (v2_2 + 1) fun v2_18 =>
                fX8_isSo_L1 c_now c_facts c_seen fu 1 v2_18
              else
                bd (v2_2 + 1) fun v2_17 =>
                fX8_isSo_L1 c_now c_facts c_seen fu 0 v2_17
def fX8_isSo (c_now : Nat → Int32) (c_facts : Nat → Int32) (c_seen : Int32) : Option (Int32) :=
  (fX8_isSo_L1 c_now c_facts c_seen 500 1 0).bind fun z_22 =>
  gd ((z_22.1 = 0 ∨ z_22.1 = 1)) <|
  some z_22.1
def fX8_findWhich_L3 (c_whichMany_12 : Int32) (z_17 : Nat → Int32) : Nat → Int32 → (Nat → Int32) → Option (Int32 × (Nat → Int32))
  | 0, _, _ => none
  | fu + 1, v3_23, c_views_24 =>
    if 8 ≤ v3_23 then
      some (v3_23, c_views_24)
    else
      gd (inB 1 87 = true) <|
      if (z_17 (1 : Int32).toNatClampNeg) ≤ v3_23 then
        gd (inB ((8 * c_whichMany_12) + v3_23) 120 = true) <|
        bd (upd c_views_24 ((8 * c_whichMany_12) + v3_23).toNatClampNeg 0) fun c_views_27 =>
        bd (v3_23 + 1) fun v3_28 =>
        fX8_findWhich_L3 c_whichMany_12 z_17 fu v3_28 c_views_27
      else
        (fX8_seesOf z_17 v3_23).bind fun r_29 =>
        gd (inB ((8 * c_whichMany_12) + v3_23) 120 = true) <|
        bd (upd c_views_24 ((8 * c_whichMany_12) + v3_23).toNatClampNeg r_29) fun c_views_30 =>
        bd (v3_23 + 1) fun v3_31 =>
        fX8_findWhich_L3 c_whichMany_12 z_17 fu v3_31 c_views_30
def fX8_findWhich_L2 (c_facts : Nat → Int32) (c_seen : Int32) (v1_1 : Int32) : Nat → Int32 → (Nat → Int32) → (Nat → Int32) → (Nat → Int32) → Int32 → Option (Int32 × (Nat → Int32) × (Nat → Int32) × (Nat → Int32) × Int32)
  | 0, _, _, _, _, _ => none
  | fu + 1, v2_8, c_now_9, c_which_10, c_views_11, c_whichMany_12 =>
    gd (inB 0 87 = true) <|
    if (c_now_9 (0 : Int32).toNatClampNeg) ≤ v2_8 then
      some (v2_8, c_now_9, c_which_10, c_views_11, c_whichMany_12)
    else
      (fX8_isUp c_now_9 v1_1 v2_8).bind fun r_14 =>
      if r_14 = 0 then
        bd (v2_8 + 1) fun v2_16 =>
        fX8_findWhich_L2 c_facts c_seen v1_1 fu v2_16 c_now_9 c_which_10 c_views_11 c_whichMany_12
      else
        (fX8_putLink c_now_9 v1_1 v2_8 0 0).bind fun z_17 =>
        (fX8_isSo z_17 c_facts c_seen).bind fun r_18 =>
        if r_18 = 0 then
          (fX8_putLink z_17 v1_1 v2_8 1 0).bind fun z_20 =>
          bd (v2_8 + 1) fun v2_21 =>
          fX8_findWhich_L2 c_facts c_seen v1_1 fu v2_21 z_20 c_which_10 c_views_11 c_whichMany_12
        else
          gd (inB c_whichMany_12 15 = true) <|
          bd (upd c_which_10 c_whichMany_12.toNatClampNeg ((10 * v1_1) + v2_8)) fun c_which_22 =>
          (fX8_findWhich_L3 c_whichMany_12 z_17 500 0 c_views_11).bind fun z_32 =>
          bd (c_whichMany_12 + 1) fun c_whichMany_33 =>
          (fX8_putLink z_17 v1_1 v2_8 1 0).bind fun z_34 =>
          bd (v2_8 + 1) fun v2_35 =>
          fX8_findWhich_L2 c_facts c_seen v1_1 fu v2_35 z_34 c_which_22 z_32.2 c_whichMany_33
def fX8_findWhich_L1 (c_facts : Nat → Int32) (c_seen : Int32) : Nat → Int32 → (Nat → Int32) → (Nat → Int32) → (Nat → Int32) → Int32 → Option (Int32 × (Nat → Int32) × (Nat → Int32) × (Nat → Int32) × Int32)
  | 0, _, _, _, _, _ => none
  | fu + 1, v1_1, c_now_2, c_which_3, c_views_4, c_whichMany_5 =>
    gd (inB 0 87 = true) <|
    if (c_now_2 (0 : Int32).toNatClampNeg) ≤ v1_1 then
      some (v1_1, c_now_2, c_which_3, c_views_4, c_whichMany_5)
    else
      bd (v1_1 + 1) fun v2_7 =>
      (fX8_findWhich_L2 c_facts c_seen v1_1 500 v2_7 c_now_2 c_which_3 c_views_4 c_whichMany_5).bind fun z_36 =>
      bd (v1_1 + 1) fun v1_37 =>
      fX8_findWhich_L1 c_facts c_seen fu v1_37 z_36.2.1 z_36.2.2.1 z_36.2.2.2.1 z_36.2.2.2.2
def fX8_findWhich (c_now : Nat → Int32) (c_facts : Nat → Int32) (c_seen : Int32) (c_which : Nat → Int32) (c_views : Nat → Int32) : Option ((Nat → Int32) × (Nat → Int32) × (Nat → Int32) × Int32) :=
  (fX8_findWhich_L1 c_facts c_seen 500 0 c_now c_which c_views 0).bind fun z_38 =>
  some (z_38.2.1, z_38.2.2.1, z_38.2.2.2.1, z_38.2.2.2.2)
def fX8_which (c_now : Nat → Int32) (c_facts : Nat → Int32) (c_seen : Int32) (c_which : Nat → Int32) (c_views : Nat → Int32) (c_whichMany : Int32) (p1 : Int32) : Option (Int32 × (Nat → Int32) × (Nat → Int32) × (Nat → Int32) × Int32) :=
  (fX8_in p1 0 1).bind fun r_1 =>
  if r_1 = 0 then
    some ((-1), c_now, c_which, c_views, c_whichMany)
  else
    (fX8_findWhich c_now c_facts c_seen c_which c_views).bind fun z_3 =>
    if p1 = 0 then
      some (z_3.2.2.2, z_3.1, z_3.2.1, z_3.2.2.1, z_3.2.2.2)
    else
      if z_3.2.2.2 = 0 then
        some ((-9), z_3.1, z_3.2.1, z_3.2.2.1, z_3.2.2.2)
      else
        gd (inB 0 15 = true) <|
        some ((z_3.2.1 (0 : Int32).toNatClampNeg), z_3.1, z_3.2.1, z_3.2.2.1, z_3.2.2.2)
def fX8_ask_L3 (z_1 : (Nat → Int32) × (Nat → Int32) × (Nat → Int32) × Int32) (v3_5 : Int32) (v4_11 : Int32) : Nat → Int32 → Int32 → Option (Int32 × Int32)
  | 0, _, _ => none
  | fu + 1, v5_13, v6_14 =>
    if z_1.2.2.2 ≤ v6_14 then
      some (v5_13, v6_14)
    else
      gd (inB ((8 * v6_14) + v3_5) 120 = true) <|
      (fX8_has (z_1.2.2.1 ((8 * v6_14) + v3_5).toNatClampNeg) v4_11).bind fun r_16 =>
      if r_16 = 0 then
        bd (v5_13 + 0) fun v5_18 =>
        bd (v6_14 + 1) fun v6_19 =>
        fX8_ask_L3 z_1 v3_5 v4_11 fu v5_18 v6_19
      else
        bd (v5_13 + 1) fun v5_20 =>
        bd (v6_14 + 1) fun v6_21 =>
        fX8_ask_L3 z_1 v3_5 v4_11 fu v5_20 v6_21
def fX8_ask_L2 (z_1 : (Nat → Int32) × (Nat → Int32) × (Nat → Int32) × Int32) (v3_5 : Int32) : Nat → Int32 → Int32 → Int32 → Option (Int32 × Int32 × Int32)
  | 0, _, _, _ => none
  | fu + 1, v1_9, v2_10, v4_11 =>
    gd (inB 1 87 = true) <|
    if (z_1.1 (1 : Int32).toNatClampNeg) ≤ v4_11 then
      some (v1_9, v2_10, v4_11)
    else
      (fX8_ask_L3 z_1 v3_5 v4_11 500 0 0).bind fun z_22 =>
      if z_22.1 ≤ (z_1.2.2.2 - z_22.1) then
        bd (z_1.2.2.2 - z_22.1) fun v6_24 =>
        if v2_10 ≤ v6_24 then
          if v2_10 ≤ v6_24 then
            bd (v4_11 + 1) fun v4_27 =>
            fX8_ask_L2 z_1 v3_5 fu v1_9 v2_10 v4_27
          else
            bd (v4_11 + 1) fun v4_28 =>
            fX8_ask_L2 z_1 v3_5 fu v1_9 v6_24 v4_28
        else
          bd ((10 * v3_5) + v4_11) fun v1_29 =>
          if v2_10 ≤ v6_24 then
            bd (v4_11 + 1) fun v4_31 =>
            fX8_ask_L2 z_1 v3_5 fu v1_29 v2_10 v4_31
          else
            bd (v4_11 + 1) fun v4_32 =>
            fX8_ask_L2 z_1 v3_5 fu v1_29 v6_24 v4_32
      else
        if v2_10 ≤ z_22.1 then
          if v2_10 ≤ z_22.1 then
            bd (v4_11 + 1) fun v4_35 =>
            fX8_ask_L2 z_1 v3_5 fu v1_9 v2_10 v4_35
          else
            bd (v4_11 + 1) fun v4_36 =>
            fX8_ask_L2 z_1 v3_5 fu v1_9 z_22.1 v4_36
        else
          bd ((10 * v3_5) + v4_11) fun v1_37 =>
          if v2_10 ≤ z_22.1 then
            bd (v4_11 + 1) fun v4_39 =>
            fX8_ask_L2 z_1 v3_5 fu v1_37 v2_10 v4_39
          else
            bd (v4_11 + 1) fun v4_40 =>
            fX8_ask_L2 z_1 v3_5 fu v1_37 z_22.1 v4_40
def fX8_ask_L1 (z_1 : (Nat → Int32) × (Nat → Int32) × (Nat → Int32) × Int32) : Nat → Int32 → Int32 → Int32 → Option (Int32 × Int32 × Int32)
  | 0, _, _, _ => none
  | fu + 1, v1_3, v2_4, v3_5 =>
    gd (inB 1 87 = true) <|
    if (z_1.1 (1 : Int32).toNatClampNeg) ≤ v3_5 then
      some (v1_3, v2_4, v3_5)
    else
      if z_1.2.2.2 ≤ 1 then
        some (v1_3, v2_4, v3_5)
      else
        bd (v3_5 + 1) fun v4_8 =>
        (fX8_ask_L2 z_1 v3_5 500 v1_3 v2_4 v4_8).bind fun z_41 =>
        bd (v3_5 + 1) fun v3_42 =>
        fX8_ask_L1 z_1 fu z_41.1 z_41.2.1 v3_42
def fX8_ask (c_now : Nat → Int32) (c_facts : Nat → Int32) (c_seen : Int32) (c_which : Nat → Int32) (c_views : Nat → Int32) : Option (Int32 × (Nat → Int32) × (Nat → Int32) × (Nat → Int32) × Int32) :=
  (fX8_findWhich c_now c_facts c_seen c_which c_views).bind fun z_1 =>
  bd (z_1.2.2.2 + 1) fun v2_2 =>
  (fX8_ask_L1 z_1 500 (-9) v2_2 0).bind fun z_43 =>
  some (z_43.1, z_1.1, z_1.2.1, z_1.2.2.1, z_1.2.2.2)
def fX8_keep (c_now : Nat → Int32) (c_images : Nat → Int32) (c_isKept : Nat → Int32) (p1 : Int32) : Option (Int32 × (Nat → Int32) × (Nat → Int32)) :=
  (fX8_in p1 0 1).bind fun r_1 =>
  if r_1 = 0 then
    some ((-1), c_images, c_isKept)
  else
    (fX8_bring 87 174 c_now c_images 0 (87 * p1)).bind fun z_3 =>
    gd (inB p1 2 = true) <|
    bd (upd c_isKept p1.toNatClampNeg 1) fun c_isKept_4 =>
    (fX8_fabrics c_now).bind fun r_5 =>
    some (r_5, z_3, c_isKept_4)
def fX8_back (c_now : Nat → Int32) (c_deeds : Int32) (c_images : Nat → Int32) (c_isKept : Nat → Int32) (p1 : Int32) : Option (Int32 × (Nat → Int32) × Int32) :=
  (fX8_in p1 0 1).bind fun r_1 =>
  if r_1 = 0 then
    some ((-1), c_now, c_deeds)
  else
    gd (inB p1 2 = true) <|
    if (c_isKept p1.toNatClampNeg) = 0 then
      some ((-2), c_now, c_deeds)
    else
      (fX8_bring 174 87 c_images c_now (87 * p1) 0).bind fun z_4 =>
      (fX8_fabrics z_4).bind fun r_5 =>
      some (r_5, z_4, 0)
def fX8_sumOf_L1 (c_now : Nat → Int32) (p1 : Int32) (p2 : Int32) (p3 : Int32) : Nat → Int32 → Int32 → Option (Int32 × Int32)
  | 0, _, _ => none
  | fu + 1, v4_1, v5_2 =>
    if p2 ≤ v5_2 then
      some (v4_1, v5_2)
    else
      if p3 = 0 then
        gd (inB (p1 + v5_2) 87 = true) <|
        bd (v4_1 + (c_now (p1 + v5_2).toNatClampNeg)) fun v4_5 =>
        bd (v5_2 + 1) fun v5_6 =>
        fX8_sumOf_L1 c_now p1 p2 p3 fu v4_5 v5_6
      else
        gd (inB (p1 + v5_2) 87 = true) <|
        (fX8_ones (c_now (p1 + v5_2).toNatClampNeg)).bind fun r_7 =>
        bd (v4_1 + r_7) fun v4_8 =>
        bd (v5_2 + 1) fun v5_9 =>
        fX8_sumOf_L1 c_now p1 p2 p3 fu v4_8 v5_9
def fX8_sumOf (c_now : Nat → Int32) (p1 : Int32) (p2 : Int32) (p3 : Int32) : Option (Int32) :=
  (fX8_sumOf_L1 c_now p1 p2 p3 500 0 0).bind fun z_10 =>
  some z_10.1
def fX8_count (c_now : Nat → Int32) (c_deeds : Int32) (c_letters : Int32) (c_seen : Int32) (p1 : Int32) : Option (Int32) :=
  if p1 = 0 then
    gd (inB 0 87 = true) <|
    some (c_now (0 : Int32).toNatClampNeg)
  else
    if p1 = 1 then
      gd (inB 1 87 = true) <|
      some (c_now (1 : Int32).toNatClampNeg)
    else
      if p1 = 2 then
        (fX8_fabrics c_now).bind fun r_1 =>
        some r_1
      else
        if p1 = 3 then
          (fX8_sumOf c_now 35 6 1).bind fun r_2 =>
          some (r_2 / 2)
        else
          if p1 = 4 then
            (fX8_sumOf c_now 41 6 1).bind fun r_3 =>
            some (r_3 / 2)
          else
            if p1 = 5 then
              gd (inB 2 87 = true) <|
              some (c_now (2 : Int32).toNatClampNeg)
            else
              if p1 = 6 then
                gd (inB 1 87 = true) <|
                (fX8_sumOf c_now 71 (c_now (1 : Int32).toNatClampNeg) 0).bind fun r_4 =>
                some r_4
              else
                if p1 = 7 then
                  (fX8_twos c_now).bind fun r_5 =>
                  some r_5
                else
                  if p1 = 8 then
                    some c_seen
                  else
                    if p1 = 9 then
                      some c_letters
                    else
                      if p1 = 10 then
                        some c_deeds
                      else
                        some (-1)
