/-! the classes of the system, their fields in order; by gen_names.py -/
def qT_Q : u_T := fun k => match k with
  | 0 => ("QuakeLink", "station", "LQuakeLink$Station;", true)
  | 1 => ("QuakeLink", "slots", "LQuakeLink$Air;", true)
  | _ => ("QuakeLink", "centre", "LQuakeLink$Centre;", true)
def qy_Q : Nat → FieldType := fun k => match k with
  | 0 => .object "QuakeLink$Station"
  | 1 => .object "QuakeLink$Air"
  | _ => .object "QuakeLink$Centre"
def qT_St : u_T := fun k => match k with
  | 0 => ("QuakeLink$Station", "channels", "[LQuakeLink$Channel;", true)
  | 1 => ("QuakeLink$Station", "percent", "I", false)
  | 2 => ("QuakeLink$Station", "bad", "I", false)
  | 3 => ("QuakeLink$Station", "closings", "I", false)
  | _ => ("QuakeLink$Station", "lastWaited", "Z", false)
def qy_St : Nat → FieldType := fun k => match k with
  | 0 => .array (.object "QuakeLink$Channel")
  | 1 => .int
  | 2 => .int
  | 3 => .int
  | _ => .boolean
def qT_Ch : u_T := fun k => match k with
  | 0 => ("QuakeLink$Channel", "asked", "LQuakeLink$NumberSet;", true)
  | 1 => ("QuakeLink$Channel", "taken", "I", false)
  | 2 => ("QuakeLink$Channel", "index", "I", true)
  | 3 => ("QuakeLink$Channel", "packets", "[LQuakeLink$Packet;", true)
  | 4 => ("QuakeLink$Channel", "closed", "I", false)
  | 5 => ("QuakeLink$Channel", "inClosed", "I", false)
  | _ => ("QuakeLink$Channel", "unsent", "I", false)
def qy_Ch : Nat → FieldType := fun k => match k with
  | 0 => .object "QuakeLink$NumberSet"
  | 1 => .int
  | 2 => .int
  | 3 => .array (.object "QuakeLink$Packet")
  | 4 => .int
  | 5 => .int
  | _ => .int
def qT_Ns : u_T := fun k => match k with
  | 0 => ("QuakeLink$NumberSet", "words", "[I", true)
  | _ => ("QuakeLink$NumberSet", "size", "I", false)
def qy_Ns : Nat → FieldType := fun k => match k with
  | 0 => .array .int
  | _ => .int
def qT_Ai : u_T := fun k => match k with
  | 0 => ("QuakeLink$Air", "places", "[LQuakeLink$Message;", true)
  | _ => ("QuakeLink$Air", "made", "I", false)
def qy_Ai : Nat → FieldType := fun k => match k with
  | 0 => .array (.object "QuakeLink$Message")
  | _ => .int
def qT_Ce : u_T := fun k => match k with
  | 0 => ("QuakeLink$Centre", "tracks", "[LQuakeLink$Track;", true)
  | 1 => ("QuakeLink$Centre", "rejected", "I", false)
  | _ => ("QuakeLink$Centre", "clashed", "I", false)
def qy_Ce : Nat → FieldType := fun k => match k with
  | 0 => .array (.object "QuakeLink$Track")
  | 1 => .int
  | _ => .int
def qT_Tr : u_T := fun k => match k with
  | 0 => ("QuakeLink$Track", "had", "LQuakeLink$NumberSet;", true)
  | 1 => ("QuakeLink$Track", "oldest", "I", false)
  | _ => ("QuakeLink$Track", "pages", "[LQuakeLink$Page;", true)
def qy_Tr : Nat → FieldType := fun k => match k with
  | 0 => .object "QuakeLink$NumberSet"
  | 1 => .int
  | _ => .array (.object "QuakeLink$Page")
def qT_Pa : u_T := fun k => match k with
  | 0 => ("QuakeLink$Packet", "message", "LQuakeLink$Message;", true)
  | 1 => ("QuakeLink$Packet", "first", "I", false)
  | 2 => ("QuakeLink$Packet", "held", "I", false)
  | 3 => ("QuakeLink$Packet", "order", "I", false)
  | 4 => ("QuakeLink$Packet", "block", "[I", true)
  | 5 => ("QuakeLink$Packet", "inBlock", "I", false)
  | 6 => ("QuakeLink$Packet", "code", "I", false)
  | 7 => ("QuakeLink$Packet", "bits", "I", false)
  | 8 => ("QuakeLink$Packet", "last", "I", false)
  | _ => ("QuakeLink$Packet", "step", "I", false)
def qy_Pa : Nat → FieldType := fun k => match k with
  | 0 => .object "QuakeLink$Message"
  | 1 => .int
  | 2 => .int
  | 3 => .int
  | 4 => .array .int
  | 5 => .int
  | 6 => .int
  | 7 => .int
  | 8 => .int
  | _ => .int
def qT_Me : u_T := fun k => match k with
  | 0 => ("QuakeLink$Message", "row", "[B", true)
  | _ => ("QuakeLink$Message", "size", "I", false)
def qy_Me : Nat → FieldType := fun k => match k with
  | 0 => .array .byte
  | _ => .int
def qT_De : u_T := fun k => match k with
  | 0 => ("QuakeLink$Decoder", "value", "I", false)
  | 1 => ("QuakeLink$Decoder", "message", "LQuakeLink$Message;", true)
  | 2 => ("QuakeLink$Decoder", "end", "I", true)
  | 3 => ("QuakeLink$Decoder", "place", "I", false)
  | 4 => ("QuakeLink$Decoder", "taken", "J", false)
  | 5 => ("QuakeLink$Decoder", "takenBits", "I", false)
  | 6 => ("QuakeLink$Decoder", "inBlock", "I", false)
  | 7 => ("QuakeLink$Decoder", "width", "I", false)
  | _ => ("QuakeLink$Decoder", "step", "I", false)
def qy_De : Nat → FieldType := fun k => match k with
  | 0 => .int
  | 1 => .object "QuakeLink$Message"
  | 2 => .int
  | 3 => .int
  | 4 => .long
  | 5 => .int
  | 6 => .int
  | 7 => .int
  | _ => .int
def qT_Pg : u_T := fun k => match k with
  | 0 => ("QuakeLink$Page", "values", "[I", true)
  | _ => ("QuakeLink$Page", "qualities", "[B", true)
def qy_Pg : Nat → FieldType := fun k => match k with
  | 0 => .array .int
  | _ => .array .byte
def qT_Mo : u_T := fun k => match k with
  | 0 => ("QuakeLinkModel", "code", "I", false)
  | 1 => ("QuakeLinkModel", "samples", "[I", true)
  | 2 => ("QuakeLinkModel", "taken", "[I", true)
  | 3 => ("QuakeLinkModel", "openFrom", "[I", true)
  | 4 => ("QuakeLinkModel", "openBits", "[I", true)
  | 5 => ("QuakeLinkModel", "quality", "I", false)
  | 6 => ("QuakeLinkModel", "channels", "[I", true)
  | 7 => ("QuakeLinkModel", "firsts", "[I", true)
  | 8 => ("QuakeLinkModel", "manys", "[I", true)
  | 9 => ("QuakeLinkModel", "qualities", "[I", true)
  | 10 => ("QuakeLinkModel", "waits", "[Z", true)
  | 11 => ("QuakeLinkModel", "packets", "I", false)
  | 12 => ("QuakeLinkModel", "asked", "[Z", true)
  | 13 => ("QuakeLinkModel", "sentForWaiting", "Z", false)
  | 14 => ("QuakeLinkModel", "air", "[B", true)
  | 15 => ("QuakeLinkModel", "lengths", "[I", true)
  | 16 => ("QuakeLinkModel", "thrown", "[Z", true)
  | 17 => ("QuakeLinkModel", "slots", "I", false)
  | 18 => ("QuakeLinkModel", "values", "[I", true)
  | 19 => ("QuakeLinkModel", "heard", "[B", true)
  | 20 => ("QuakeLinkModel", "oldestHeard", "[I", true)
  | 21 => ("QuakeLinkModel", "rejected", "I", false)
  | 22 => ("QuakeLinkModel", "clashed", "I", false)
  | 23 => ("QuakeLinkModel", "bad", "I", false)
  | 24 => ("QuakeLinkModel", "row", "I", false)
  | 25 => ("QuakeLinkModel", "bit", "I", false)
  | 26 => ("QuakeLinkModel", "channel", "I", false)
  | 27 => ("QuakeLinkModel", "many", "I", false)
  | 28 => ("QuakeLinkModel", "percent", "I", false)
  | 29 => ("QuakeLinkModel", "number", "J", false)
  | 30 => ("QuakeLinkModel", "old", "J", false)
  | 31 => ("QuakeLinkModel", "read", "[I", true)
  | 32 => ("QuakeLinkModel", "gapFrom", "I", false)
  | _ => ("QuakeLinkModel", "gapTo", "I", false)
def qy_Mo : Nat → FieldType := fun k => match k with
  | 0 => .int
  | 1 => .array .int
  | 2 => .array .int
  | 3 => .array .int
  | 4 => .array .int
  | 5 => .int
  | 6 => .array .int
  | 7 => .array .int
  | 8 => .array .int
  | 9 => .array .int
  | 10 => .array .boolean
  | 11 => .int
  | 12 => .array .boolean
  | 13 => .boolean
  | 14 => .array .byte
  | 15 => .array .int
  | 16 => .array .boolean
  | 17 => .int
  | 18 => .array .int
  | 19 => .array .byte
  | 20 => .array .int
  | 21 => .int
  | 22 => .int
  | 23 => .int
  | 24 => .int
  | 25 => .int
  | 26 => .int
  | 27 => .int
  | 28 => .int
  | 29 => .long
  | 30 => .long
  | 31 => .array .int
  | 32 => .int
  | _ => .int
def qT_E : u_T := fun _ => ("", "", "", false)
def qy_E : Nat → FieldType := fun _ => .int
/-- all classes: number, name, fields -/
def qcl : List vw_C := [("QuakeLink", qT_Q, 3), ("QuakeLink$Station", qT_St, 5), ("QuakeLink$Channel", qT_Ch, 7), ("QuakeLink$NumberSet", qT_Ns, 2), ("QuakeLink$Air", qT_Ai, 2), ("QuakeLink$Centre", qT_Ce, 3), ("QuakeLink$Track", qT_Tr, 3), ("QuakeLink$Packet", qT_Pa, 10), ("QuakeLink$Message", qT_Me, 2), ("QuakeLink$Decoder", qT_De, 9), ("QuakeLink$Page", qT_Pg, 2), ("QuakeLinkModel", qT_Mo, 34), ("java/lang/IndexOutOfBoundsException", qT_E, 0), ("java/lang/IllegalStateException", qT_E, 0), ("java/lang/IllegalArgumentException", qT_E, 0)]
def qcy : List (Nat → FieldType) := [qy_Q, qy_St, qy_Ch, qy_Ns, qy_Ai, qy_Ce, qy_Tr, qy_Pa, qy_Me, qy_De, qy_Pg, qy_Mo, qy_E, qy_E, qy_E]
/-- where a class's field words stand in lw_tbl -/
def qix : List (List Nat) := [[209, 211, 213], [137, 139, 141, 143, 145], [114, 116, 118, 120, 122, 124, 126], [96, 98], [159, 161], [199, 201, 203], [186, 188, 190], [305, 307, 309, 311, 313, 315, 317, 319, 321, 323], [285, 287], [701, 703, 705, 707, 709, 711, 713, 715, 717], [772, 774], [974, 976, 978, 980, 982, 984, 986, 988, 990, 992, 994, 996, 998, 1000, 1002, 1004, 1006, 1008, 1010, 1012, 1014, 1016, 1018, 1020, 1022, 1024, 1026, 1028, 1030, 1032, 1034, 1036, 1038, 1040], [], [], []]
theorem qcl_ix : (List.range 15).all (fun c => match qcl[c]?, qix[c]? with | some q, some l => (List.range q.2.2).all (fun k => decide (lw_tbl[l.getD k 0]? = some (u_lay q.1 q.2.1 k))) | _, _ => false) = true := by decide +kernel
theorem qcl_nm : (List.range 15).all (fun c => match qcl[c]? with | some q => (List.range q.2.2).all (fun a => (List.range q.2.2).all (fun b => decide (a = b ∨ (q.2.1 a).2.1 ≠ (q.2.1 b).2.1))) | _ => false) = true := by decide +kernel
theorem qcl_ty : (List.range 15).all (fun c => match qcl[c]?, qcy[c]? with | some q, some y => (List.range q.2.2).all (fun k => decide (parseFieldDescriptor (q.2.1 k).2.2.1 = some (y k))) | _, _ => false) = true := by decide +kernel
/-- where each class's instantiable and initialized words stand, and how many slots its object has -/
def qni : List (Nat × Nat × Nat) := [(3, 67, 45), (5, 75, 46), (7, 82, 47), (2, 88, 48), (2, 149, 49), (3, 165, 50), (3, 172, 51), (10, 261, 59), (2, 267, 60), (9, 684, 64), (2, 763, 65), (34, 933, 52), (6, 449, 56), (6, 520, 57), (6, 606, 61)]
theorem qcl_in : (List.range 15).all (fun c => match qcl[c]?, qni[c]? with | some q, some z => decide (lw_tbl[z.2.1]? = some (Cond.instantiable q.1 z.1)) && decide (lw_tbl[z.2.2]? = some (Cond.initialized q.1)) && (decide (z.1 = q.2.2) || decide (12 ≤ c)) | _, _ => false) = true := by decide +kernel
