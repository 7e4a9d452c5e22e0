abbrev Wh : Type := Ar × Ar × Ar × Ar × Ar × Int32 × Int32 × Int32 × Int32 × Int32 × Int32
abbrev wh_depths (w : Wh) : Ar := w.1
abbrev wh_kind (w : Wh) : Ar := w.2.1
abbrev wh_length (w : Wh) : Ar := w.2.2.1
abbrev wh_strong (w : Wh) : Ar := w.2.2.2.1
abbrev wh_wear (w : Wh) : Ar := w.2.2.2.2.1
abbrev wh_spokes (w : Wh) : Int32 := w.2.2.2.2.2.1
abbrev wh_gateRut (w : Wh) : Int32 := w.2.2.2.2.2.2.1
abbrev wh_stand (w : Wh) : Int32 := w.2.2.2.2.2.2.2.1
abbrev wh_rut (w : Wh) : Int32 := w.2.2.2.2.2.2.2.2.1
abbrev wh_there (w : Wh) : Int32 := w.2.2.2.2.2.2.2.2.2.1
abbrev wh_dry (w : Wh) : Int32 := w.2.2.2.2.2.2.2.2.2.2
def wh_set_depths (w : Wh) (v : Ar) : Wh := (v, wh_kind w, wh_length w, wh_strong w, wh_wear w, wh_spokes w, wh_gateRut w, wh_stand w, wh_rut w, wh_there w, wh_dry w)
def wh_set_kind (w : Wh) (v : Ar) : Wh := (wh_depths w, v, wh_length w, wh_strong w, wh_wear w, wh_spokes w, wh_gateRut w, wh_stand w, wh_rut w, wh_there w, wh_dry w)
def wh_set_length (w : Wh) (v : Ar) : Wh := (wh_depths w, wh_kind w, v, wh_strong w, wh_wear w, wh_spokes w, wh_gateRut w, wh_stand w, wh_rut w, wh_there w, wh_dry w)
def wh_set_strong (w : Wh) (v : Ar) : Wh := (wh_depths w, wh_kind w, wh_length w, v, wh_wear w, wh_spokes w, wh_gateRut w, wh_stand w, wh_rut w, wh_there w, wh_dry w)
def wh_set_wear (w : Wh) (v : Ar) : Wh := (wh_depths w, wh_kind w, wh_length w, wh_strong w, v, wh_spokes w, wh_gateRut w, wh_stand w, wh_rut w, wh_there w, wh_dry w)
def wh_set_spokes (w : Wh) (v : Int32) : Wh := (wh_depths w, wh_kind w, wh_length w, wh_strong w, wh_wear w, v, wh_gateRut w, wh_stand w, wh_rut w, wh_there w, wh_dry w)
def wh_set_gateRut (w : Wh) (v : Int32) : Wh := (wh_depths w, wh_kind w, wh_length w, wh_strong w, wh_wear w, wh_spokes w, v, wh_stand w, wh_rut w, wh_there w, wh_dry w)
def wh_set_stand (w : Wh) (v : Int32) : Wh := (wh_depths w, wh_kind w, wh_length w, wh_strong w, wh_wear w, wh_spokes w, wh_gateRut w, v, wh_rut w, wh_there w, wh_dry w)
def wh_set_rut (w : Wh) (v : Int32) : Wh := (wh_depths w, wh_kind w, wh_length w, wh_strong w, wh_wear w, wh_spokes w, wh_gateRut w, wh_stand w, v, wh_there w, wh_dry w)
def wh_set_there (w : Wh) (v : Int32) : Wh := (wh_depths w, wh_kind w, wh_length w, wh_strong w, wh_wear w, wh_spokes w, wh_gateRut w, wh_stand w, wh_rut w, v, wh_dry w)
def wh_set_dry (w : Wh) (v : Int32) : Wh := (wh_depths w, wh_kind w, wh_length w, wh_strong w, wh_wear w, wh_spokes w, wh_gateRut w, wh_stand w, wh_rut w, wh_there w, v)
abbrev Ct : Type := Wh × Ar × Ar × Int32
abbrev ct_wheel (w : Ct) : Wh := w.1
abbrev ct_deeds (w : Ct) : Ar := w.2.1
abbrev ct_doneTo (w : Ct) : Ar := w.2.2.1
abbrev ct_done (w : Ct) : Int32 := w.2.2.2
def ct_set_wheel (w : Ct) (v : Wh) : Ct := (v, ct_deeds w, ct_doneTo w, ct_done w)
def ct_set_deeds (w : Ct) (v : Ar) : Ct := (ct_wheel w, v, ct_doneTo w, ct_done w)
def ct_set_doneTo (w : Ct) (v : Ar) : Ct := (ct_wheel w, ct_deeds w, v, ct_done w)
def ct_set_done (w : Ct) (v : Int32) : Ct := (ct_wheel w, ct_deeds w, ct_doneTo w, v)
abbrev Rd : Type := Wh × Ar × Int32 × Int32
abbrev rd_draft (w : Rd) : Wh := w.1
abbrev rd_signs (w : Rd) : Ar := w.2.1
abbrev rd_size (w : Rd) : Int32 := w.2.2.1
abbrev rd_place (w : Rd) : Int32 := w.2.2.2
def rd_set_draft (w : Rd) (v : Wh) : Rd := (v, rd_signs w, rd_size w, rd_place w)
def rd_set_signs (w : Rd) (v : Ar) : Rd := (rd_draft w, v, rd_size w, rd_place w)
def rd_set_size (w : Rd) (v : Int32) : Rd := (rd_draft w, rd_signs w, v, rd_place w)
def rd_set_place (w : Rd) (v : Int32) : Rd := (rd_draft w, rd_signs w, rd_size w, v)
abbrev Sh : Type := Int32 × (Nat → Ar) × Ar
abbrev sh_most (w : Sh) : Int32 := w.1
abbrev sh_places (w : Sh) : (Nat → Ar) := w.2.1
abbrev sh_sizes (w : Sh) : Ar := w.2.2
def sh_set_most (w : Sh) (v : Int32) : Sh := (v, sh_places w, sh_sizes w)
def sh_set_places (w : Sh) (v : (Nat → Ar)) : Sh := (sh_most w, v, sh_sizes w)
def sh_set_sizes (w : Sh) (v : Ar) : Sh := (sh_most w, sh_places w, v)
abbrev As : Type := Int32 × Wh
abbrev as_found (w : As) : Int32 := w.1
abbrev as_trial (w : As) : Wh := w.2
def as_set_found (w : As) (v : Int32) : As := (v, as_trial w)
def as_set_trial (w : As) (v : Wh) : As := (as_found w, v)
abbrev Ww : Type := Sh × Sh × Rd × Ct × (Nat → Ct) × As × Ar × Int32 × Int32 × Int64 × Int64
abbrev ww_rows (w : Ww) : Sh := w.1
abbrev ww_texts (w : Ww) : Sh := w.2.1
abbrev ww_reader (w : Ww) : Rd := w.2.2.1
abbrev ww_cart (w : Ww) : Ct := w.2.2.2.1
abbrev ww_kept (w : Ww) : (Nat → Ct) := w.2.2.2.2.1
abbrev ww_aside (w : Ww) : As := w.2.2.2.2.2.1
abbrev ww_tallies (w : Ww) : Ar := w.2.2.2.2.2.2.1
abbrev ww_findingLast (w : Ww) : Int32 := w.2.2.2.2.2.2.2.1
abbrev ww_askedLast (w : Ww) : Int32 := w.2.2.2.2.2.2.2.2.1
abbrev ww_upperLast (w : Ww) : Int64 := w.2.2.2.2.2.2.2.2.2.1
abbrev ww_lowerLast (w : Ww) : Int64 := w.2.2.2.2.2.2.2.2.2.2
def ww_set_rows (w : Ww) (v : Sh) : Ww := (v, ww_texts w, ww_reader w, ww_cart w, ww_kept w, ww_aside w, ww_tallies w, ww_findingLast w, ww_askedLast w, ww_upperLast w, ww_lowerLast w)
def ww_set_texts (w : Ww) (v : Sh) : Ww := (ww_rows w, v, ww_reader w, ww_cart w, ww_kept w, ww_aside w, ww_tallies w, ww_findingLast w, ww_askedLast w, ww_upperLast w, ww_lowerLast w)
def ww_set_reader (w : Ww) (v : Rd) : Ww := (ww_rows w, ww_texts w, v, ww_cart w, ww_kept w, ww_aside w, ww_tallies w, ww_findingLast w, ww_askedLast w, ww_upperLast w, ww_lowerLast w)
def ww_set_cart (w : Ww) (v : Ct) : Ww := (ww_rows w, ww_texts w, ww_reader w, v, ww_kept w, ww_aside w, ww_tallies w, ww_findingLast w, ww_askedLast w, ww_upperLast w, ww_lowerLast w)
def ww_set_kept (w : Ww) (v : (Nat → Ct)) : Ww := (ww_rows w, ww_texts w, ww_reader w, ww_cart w, v, ww_aside w, ww_tallies w, ww_findingLast w, ww_askedLast w, ww_upperLast w, ww_lowerLast w)
def ww_set_aside (w : Ww) (v : As) : Ww := (ww_rows w, ww_texts w, ww_reader w, ww_cart w, ww_kept w, v, ww_tallies w, ww_findingLast w, ww_askedLast w, ww_upperLast w, ww_lowerLast w)
def ww_set_tallies (w : Ww) (v : Ar) : Ww := (ww_rows w, ww_texts w, ww_reader w, ww_cart w, ww_kept w, ww_aside w, v, ww_findingLast w, ww_askedLast w, ww_upperLast w, ww_lowerLast w)
def ww_set_findingLast (w : Ww) (v : Int32) : Ww := (ww_rows w, ww_texts w, ww_reader w, ww_cart w, ww_kept w, ww_aside w, ww_tallies w, v, ww_askedLast w, ww_upperLast w, ww_lowerLast w)
def ww_set_askedLast (w : Ww) (v : Int32) : Ww := (ww_rows w, ww_texts w, ww_reader w, ww_cart w, ww_kept w, ww_aside w, ww_tallies w, ww_findingLast w, v, ww_upperLast w, ww_lowerLast w)
def ww_set_upperLast (w : Ww) (v : Int64) : Ww := (ww_rows w, ww_texts w, ww_reader w, ww_cart w, ww_kept w, ww_aside w, ww_tallies w, ww_findingLast w, ww_askedLast w, v, ww_lowerLast w)
def ww_set_lowerLast (w : Ww) (v : Int64) : Ww := (ww_rows w, ww_texts w, ww_reader w, ww_cart w, ww_kept w, ww_aside w, ww_tallies w, ww_findingLast w, ww_askedLast w, ww_upperLast w, v)
abbrev Md : Type := Int32 × Int64 × Int64 × Int32 × Ar × Ar × Ar × Ar × Ar × Ar × Int32 × Int32 × Int32 × Int32 × Ar × Ar × Ar × Ar × Int32 × Int32 × Ar × Ar × Ar × Ar × Ar × Ar × Int32 × Ar × Ar × Ar × Ar × ArL × Int64 × Int64
abbrev md_told (w : Md) : Int32 := w.1
abbrev md_above (w : Md) : Int64 := w.2.1
abbrev md_below (w : Md) : Int64 := w.2.2.1
abbrev md_latest (w : Md) : Int32 := w.2.2.2.1
abbrev md_came (w : Md) : Ar := w.2.2.2.2.1
abbrev md_sizes (w : Md) : Ar := w.2.2.2.2.2.1
abbrev md_rows (w : Md) : Ar := w.2.2.2.2.2.2.1
abbrev md_copied (w : Md) : Ar := w.2.2.2.2.2.2.2.1
abbrev md_textSizes (w : Md) : Ar := w.2.2.2.2.2.2.2.2.1
abbrev md_bytes (w : Md) : Ar := w.2.2.2.2.2.2.2.2.2.1
abbrev md_readAt (w : Md) : Int32 := w.2.2.2.2.2.2.2.2.2.2.1
abbrev md_readMany (w : Md) : Int32 := w.2.2.2.2.2.2.2.2.2.2.2.1
abbrev md_readGate (w : Md) : Int32 := w.2.2.2.2.2.2.2.2.2.2.2.2.1
abbrev md_isBegun (w : Md) : Int32 := w.2.2.2.2.2.2.2.2.2.2.2.2.2.1
abbrev md_readRut (w : Md) : Ar := w.2.2.2.2.2.2.2.2.2.2.2.2.2.2.1
abbrev md_readKind (w : Md) : Ar := w.2.2.2.2.2.2.2.2.2.2.2.2.2.2.2.1
abbrev md_readLong (w : Md) : Ar := w.2.2.2.2.2.2.2.2.2.2.2.2.2.2.2.2.1
abbrev md_readStrong (w : Md) : Ar := w.2.2.2.2.2.2.2.2.2.2.2.2.2.2.2.2.2.1
abbrev md_n (w : Md) : Int32 := w.2.2.2.2.2.2.2.2.2.2.2.2.2.2.2.2.2.2.1
abbrev md_gateAt (w : Md) : Int32 := w.2.2.2.2.2.2.2.2.2.2.2.2.2.2.2.2.2.2.2.1
abbrev md_ruts (w : Md) : Ar := w.2.2.2.2.2.2.2.2.2.2.2.2.2.2.2.2.2.2.2.2.1
abbrev md_kinds (w : Md) : Ar := w.2.2.2.2.2.2.2.2.2.2.2.2.2.2.2.2.2.2.2.2.2.1
abbrev md_longs (w : Md) : Ar := w.2.2.2.2.2.2.2.2.2.2.2.2.2.2.2.2.2.2.2.2.2.2.1
abbrev md_strongs (w : Md) : Ar := w.2.2.2.2.2.2.2.2.2.2.2.2.2.2.2.2.2.2.2.2.2.2.2.1
abbrev md_now (w : Md) : Ar := w.2.2.2.2.2.2.2.2.2.2.2.2.2.2.2.2.2.2.2.2.2.2.2.2.1
abbrev md_tried (w : Md) : Ar := w.2.2.2.2.2.2.2.2.2.2.2.2.2.2.2.2.2.2.2.2.2.2.2.2.2.1
abbrev md_deedMany (w : Md) : Int32 := w.2.2.2.2.2.2.2.2.2.2.2.2.2.2.2.2.2.2.2.2.2.2.2.2.2.2.1
abbrev md_log (w : Md) : Ar := w.2.2.2.2.2.2.2.2.2.2.2.2.2.2.2.2.2.2.2.2.2.2.2.2.2.2.2.1
abbrev md_keptMany (w : Md) : Ar := w.2.2.2.2.2.2.2.2.2.2.2.2.2.2.2.2.2.2.2.2.2.2.2.2.2.2.2.2.1
abbrev md_kept (w : Md) : Ar := w.2.2.2.2.2.2.2.2.2.2.2.2.2.2.2.2.2.2.2.2.2.2.2.2.2.2.2.2.2.1
abbrev md_outcomes (w : Md) : Ar := w.2.2.2.2.2.2.2.2.2.2.2.2.2.2.2.2.2.2.2.2.2.2.2.2.2.2.2.2.2.2.1
abbrev md_parts (w : Md) : ArL := w.2.2.2.2.2.2.2.2.2.2.2.2.2.2.2.2.2.2.2.2.2.2.2.2.2.2.2.2.2.2.2.1
abbrev md_whole (w : Md) : Int64 := w.2.2.2.2.2.2.2.2.2.2.2.2.2.2.2.2.2.2.2.2.2.2.2.2.2.2.2.2.2.2.2.2.1
abbrev md_h (w : Md) : Int64 := w.2.2.2.2.2.2.2.2.2.2.2.2.2.2.2.2.2.2.2.2.2.2.2.2.2.2.2.2.2.2.2.2.2
def md_set_told (w : Md) (v : Int32) : Md := (v, md_above w, md_below w, md_latest w, md_came w, md_sizes w, md_rows w, md_copied w, md_textSizes w, md_bytes w, md_readAt w, md_readMany w, md_readGate w, md_isBegun w, md_readRut w, md_readKind w, md_readLong w, md_readStrong w, md_n w, md_gateAt w, md_ruts w, md_kinds w, md_longs w, md_strongs w, md_now w, md_tried w, md_deedMany w, md_log w, md_keptMany w, md_kept w, md_outcomes w, md_parts w, md_whole w, md_h w)
def md_set_above (w : Md) (v : Int64) : Md := (md_told w, v, md_below w, md_latest w, md_came w, md_sizes w, md_rows w, md_copied w, md_textSizes w, md_bytes w, md_readAt w, md_readMany w, md_readGate w, md_isBegun w, md_readRut w, md_readKind w, md_readLong w, md_readStrong w, md_n w, md_gateAt w, md_ruts w, md_kinds w, md_longs w, md_strongs w, md_now w, md_tried w, md_deedMany w, md_log w, md_keptMany w, md_kept w, md_outcomes w, md_parts w, md_whole w, md_h w)
def md_set_below (w : Md) (v : Int64) : Md := (md_told w, md_above w, v, md_latest w, md_came w, md_sizes w, md_rows w, md_copied w, md_textSizes w, md_bytes w, md_readAt w, md_readMany w, md_readGate w, md_isBegun w, md_readRut w, md_readKind w, md_readLong w, md_readStrong w, md_n w, md_gateAt w, md_ruts w, md_kinds w, md_longs w, md_strongs w, md_now w, md_tried w, md_deedMany w, md_log w, md_keptMany w, md_kept w, md_outcomes w, md_parts w, md_whole w, md_h w)
def md_set_latest (w : Md) (v : Int32) : Md := (md_told w, md_above w, md_below w, v, md_came w, md_sizes w, md_rows w, md_copied w, md_textSizes w, md_bytes w, md_readAt w, md_readMany w, md_readGate w, md_isBegun w, md_readRut w, md_readKind w, md_readLong w, md_readStrong w, md_n w, md_gateAt w, md_ruts w, md_kinds w, md_longs w, md_strongs w, md_now w, md_tried w, md_deedMany w, md_log w, md_keptMany w, md_kept w, md_outcomes w, md_parts w, md_whole w, md_h w)
def md_set_came (w : Md) (v : Ar) : Md := (md_told w, md_above w, md_below w, md_latest w, v, md_sizes w, md_rows w, md_copied w, md_textSizes w, md_bytes w, md_readAt w, md_readMany w, md_readGate w, md_isBegun w, md_readRut w, md_readKind w, md_readLong w, md_readStrong w, md_n w, md_gateAt w, md_ruts w, md_kinds w, md_longs w, md_strongs w, md_now w, md_tried w, md_deedMany w, md_log w, md_keptMany w, md_kept w, md_outcomes w, md_parts w, md_whole w, md_h w)
def md_set_sizes (w : Md) (v : Ar) : Md := (md_told w, md_above w, md_below w, md_latest w, md_came w, v, md_rows w, md_copied w, md_textSizes w, md_bytes w, md_readAt w, md_readMany w, md_readGate w, md_isBegun w, md_readRut w, md_readKind w, md_readLong w, md_readStrong w, md_n w, md_gateAt w, md_ruts w, md_kinds w, md_longs w, md_strongs w, md_now w, md_tried w, md_deedMany w, md_log w, md_keptMany w, md_kept w, md_outcomes w, md_parts w, md_whole w, md_h w)
def md_set_rows (w : Md) (v : Ar) : Md := (md_told w, md_above w, md_below w, md_latest w, md_came w, md_sizes w, v, md_copied w, md_textSizes w, md_bytes w, md_readAt w, md_readMany w, md_readGate w, md_isBegun w, md_readRut w, md_readKind w, md_readLong w, md_readStrong w, md_n w, md_gateAt w, md_ruts w, md_kinds w, md_longs w, md_strongs w, md_now w, md_tried w, md_deedMany w, md_log w, md_keptMany w, md_kept w, md_outcomes w, md_parts w, md_whole w, md_h w)
def md_set_copied (w : Md) (v : Ar) : Md := (md_told w, md_above w, md_below w, md_latest w, md_came w, md_sizes w, md_rows w, v, md_textSizes w, md_bytes w, md_readAt w, md_readMany w, md_readGate w, md_isBegun w, md_readRut w, md_readKind w, md_readLong w, md_readStrong w, md_n w, md_gateAt w, md_ruts w, md_kinds w, md_longs w, md_strongs w, md_now w, md_tried w, md_deedMany w, md_log w, md_keptMany w, md_kept w, md_outcomes w, md_parts w, md_whole w, md_h w)
def md_set_textSizes (w : Md) (v : Ar) : Md := (md_told w, md_above w, md_below w, md_latest w, md_came w, md_sizes w, md_rows w, md_copied w, v, md_bytes w, md_readAt w, md_readMany w, md_readGate w, md_isBegun w, md_readRut w, md_readKind w, md_readLong w, md_readStrong w, md_n w, md_gateAt w, md_ruts w, md_kinds w, md_longs w, md_strongs w, md_now w, md_tried w, md_deedMany w, md_log w, md_keptMany w, md_kept w, md_outcomes w, md_parts w, md_whole w, md_h w)
def md_set_bytes (w : Md) (v : Ar) : Md := (md_told w, md_above w, md_below w, md_latest w, md_came w, md_sizes w, md_rows w, md_copied w, md_textSizes w, v, md_readAt w, md_readMany w, md_readGate w, md_isBegun w, md_readRut w, md_readKind w, md_readLong w, md_readStrong w, md_n w, md_gateAt w, md_ruts w, md_kinds w, md_longs w, md_strongs w, md_now w, md_tried w, md_deedMany w, md_log w, md_keptMany w, md_kept w, md_outcomes w, md_parts w, md_whole w, md_h w)
def md_set_readAt (w : Md) (v : Int32) : Md := (md_told w, md_above w, md_below w, md_latest w, md_came w, md_sizes w, md_rows w, md_copied w, md_textSizes w, md_bytes w, v, md_readMany w, md_readGate w, md_isBegun w, md_readRut w, md_readKind w, md_readLong w, md_readStrong w, md_n w, md_gateAt w, md_ruts w, md_kinds w, md_longs w, md_strongs w, md_now w, md_tried w, md_deedMany w, md_log w, md_keptMany w, md_kept w, md_outcomes w, md_parts w, md_whole w, md_h w)
def md_set_readMany (w : Md) (v : Int32) : Md := (md_told w, md_above w, md_below w, md_latest w, md_came w, md_sizes w, md_rows w, md_copied w, md_textSizes w, md_bytes w, md_readAt w, v, md_readGate w, md_isBegun w, md_readRut w, md_readKind w, md_readLong w, md_readStrong w, md_n w, md_gateAt w, md_ruts w, md_kinds w, md_longs w, md_strongs w, md_now w, md_tried w, md_deedMany w, md_log w, md_keptMany w, md_kept w, md_outcomes w, md_parts w, md_whole w, md_h w)
def md_set_readGate (w : Md) (v : Int32) : Md := (md_told w, md_above w, md_below w, md_latest w, md_came w, md_sizes w, md_rows w, md_copied w, md_textSizes w, md_bytes w, md_readAt w, md_readMany w, v, md_isBegun w, md_readRut w, md_readKind w, md_readLong w, md_readStrong w, md_n w, md_gateAt w, md_ruts w, md_kinds w, md_longs w, md_strongs w, md_now w, md_tried w, md_deedMany w, md_log w, md_keptMany w, md_kept w, md_outcomes w, md_parts w, md_whole w, md_h w)
def md_set_isBegun (w : Md) (v : Int32) : Md := (md_told w, md_above w, md_below w, md_latest w, md_came w, md_sizes w, md_rows w, md_copied w, md_textSizes w, md_bytes w, md_readAt w, md_readMany w, md_readGate w, v, md_readRut w, md_readKind w, md_readLong w, md_readStrong w, md_n w, md_gateAt w, md_ruts w, md_kinds w, md_longs w, md_strongs w, md_now w, md_tried w, md_deedMany w, md_log w, md_keptMany w, md_kept w, md_outcomes w, md_parts w, md_whole w, md_h w)
def md_set_readRut (w : Md) (v : Ar) : Md := (md_told w, md_above w, md_below w, md_latest w, md_came w, md_sizes w, md_rows w, md_copied w, md_textSizes w, md_bytes w, md_readAt w, md_readMany w, md_readGate w, md_isBegun w, v, md_readKind w, md_readLong w, md_readStrong w, md_n w, md_gateAt w, md_ruts w, md_kinds w, md_longs w, md_strongs w, md_now w, md_tried w, md_deedMany w, md_log w, md_keptMany w, md_kept w, md_outcomes w, md_parts w, md_whole w, md_h w)
def md_set_readKind (w : Md) (v : Ar) : Md := (md_told w, md_above w, md_below w, md_latest w, md_came w, md_sizes w, md_rows w, md_copied w, md_textSizes w, md_bytes w, md_readAt w, md_readMany w, md_readGate w, md_isBegun w, md_readRut w, v, md_readLong w, md_readStrong w, md_n w, md_gateAt w, md_ruts w, md_kinds w, md_longs w, md_strongs w, md_now w, md_tried w, md_deedMany w, md_log w, md_keptMany w, md_kept w, md_outcomes w, md_parts w, md_whole w, md_h w)
def md_set_readLong (w : Md) (v : Ar) : Md := (md_told w, md_above w, md_below w, md_latest w, md_came w, md_sizes w, md_rows w, md_copied w, md_textSizes w, md_bytes w, md_readAt w, md_readMany w, md_readGate w, md_isBegun w, md_readRut w, md_readKind w, v, md_readStrong w, md_n w, md_gateAt w, md_ruts w, md_kinds w, md_longs w, md_strongs w, md_now w, md_tried w, md_deedMany w, md_log w, md_keptMany w, md_kept w, md_outcomes w, md_parts w, md_whole w, md_h w)
def md_set_readStrong (w : Md) (v : Ar) : Md := (md_told w, md_above w, md_below w, md_latest w, md_came w, md_sizes w, md_rows w, md_copied w, md_textSizes w, md_bytes w, md_readAt w, md_readMany w, md_readGate w, md_isBegun w, md_readRut w, md_readKind w, md_readLong w, v, md_n w, md_gateAt w, md_ruts w, md_kinds w, md_longs w, md_strongs w, md_now w, md_tried w, md_deedMany w, md_log w, md_keptMany w, md_kept w, md_outcomes w, md_parts w, md_whole w, md_h w)
def md_set_n (w : Md) (v : Int32) : Md := (md_told w, md_above w, md_below w, md_latest w, md_came w, md_sizes w, md_rows w, md_copied w, md_textSizes w, md_bytes w, md_readAt w, md_readMany w, md_readGate w, md_isBegun w, md_readRut w, md_readKind w, md_readLong w, md_readStrong w, v, md_gateAt w, md_ruts w, md_kinds w, md_longs w, md_strongs w, md_now w, md_tried w, md_deedMany w, md_log w, md_keptMany w, md_kept w, md_outcomes w, md_parts w, md_whole w, md_h w)
def md_set_gateAt (w : Md) (v : Int32) : Md := (md_told w, md_above w, md_below w, md_latest w, md_came w, md_sizes w, md_rows w, md_copied w, md_textSizes w, md_bytes w, md_readAt w, md_readMany w, md_readGate w, md_isBegun w, md_readRut w, md_readKind w, md_readLong w, md_readStrong w, md_n w, v, md_ruts w, md_kinds w, md_longs w, md_strongs w, md_now w, md_tried w, md_deedMany w, md_log w, md_keptMany w, md_kept w, md_outcomes w, md_parts w, md_whole w, md_h w)
def md_set_ruts (w : Md) (v : Ar) : Md := (md_told w, md_above w, md_below w, md_latest w, md_came w, md_sizes w, md_rows w, md_copied w, md_textSizes w, md_bytes w, md_readAt w, md_readMany w, md_readGate w, md_isBegun w, md_readRut w, md_readKind w, md_readLong w, md_readStrong w, md_n w, md_gateAt w, v, md_kinds w, md_longs w, md_strongs w, md_now w, md_tried w, md_deedMany w, md_log w, md_keptMany w, md_kept w, md_outcomes w, md_parts w, md_whole w, md_h w)
def md_set_kinds (w : Md) (v : Ar) : Md := (md_told w, md_above w, md_below w, md_latest w, md_came w, md_sizes w, md_rows w, md_copied w, md_textSizes w, md_bytes w, md_readAt w, md_readMany w, md_readGate w, md_isBegun w, md_readRut w, md_readKind w, md_readLong w, md_readStrong w, md_n w, md_gateAt w, md_ruts w, v, md_longs w, md_strongs w, md_now w, md_tried w, md_deedMany w, md_log w, md_keptMany w, md_kept w, md_outcomes w, md_parts w, md_whole w, md_h w)
def md_set_longs (w : Md) (v : Ar) : Md := (md_told w, md_above w, md_below w, md_latest w, md_came w, md_sizes w, md_rows w, md_copied w, md_textSizes w, md_bytes w, md_readAt w, md_readMany w, md_readGate w, md_isBegun w, md_readRut w, md_readKind w, md_readLong w, md_readStrong w, md_n w, md_gateAt w, md_ruts w, md_kinds w, v, md_strongs w, md_now w, md_tried w, md_deedMany w, md_log w, md_keptMany w, md_kept w, md_outcomes w, md_parts w, md_whole w, md_h w)
def md_set_strongs (w : Md) (v : Ar) : Md := (md_told w, md_above w, md_below w, md_latest w, md_came w, md_sizes w, md_rows w, md_copied w, md_textSizes w, md_bytes w, md_readAt w, md_readMany w, md_readGate w, md_isBegun w, md_readRut w, md_readKind w, md_readLong w, md_readStrong w, md_n w, md_gateAt w, md_ruts w, md_kinds w, md_longs w, v, md_now w, md_tried w, md_deedMany w, md_log w, md_keptMany w, md_kept w, md_outcomes w, md_parts w, md_whole w, md_h w)
def md_set_now (w : Md) (v : Ar) : Md := (md_told w, md_above w, md_below w, md_latest w, md_came w, md_sizes w, md_rows w, md_copied w, md_textSizes w, md_bytes w, md_readAt w, md_readMany w, md_readGate w, md_isBegun w, md_readRut w, md_readKind w, md_readLong w, md_readStrong w, md_n w, md_gateAt w, md_ruts w, md_kinds w, md_longs w, md_strongs w, v, md_tried w, md_deedMany w, md_log w, md_keptMany w, md_kept w, md_outcomes w, md_parts w, md_whole w, md_h w)
def md_set_tried (w : Md) (v : Ar) : Md := (md_told w, md_above w, md_below w, md_latest w, md_came w, md_sizes w, md_rows w, md_copied w, md_textSizes w, md_bytes w, md_readAt w, md_readMany w, md_readGate w, md_isBegun w, md_readRut w, md_readKind w, md_readLong w, md_readStrong w, md_n w, md_gateAt w, md_ruts w, md_kinds w, md_longs w, md_strongs w, md_now w, v, md_deedMany w, md_log w, md_keptMany w, md_kept w, md_outcomes w, md_parts w, md_whole w, md_h w)
def md_set_deedMany (w : Md) (v : Int32) : Md := (md_told w, md_above w, md_below w, md_latest w, md_came w, md_sizes w, md_rows w, md_copied w, md_textSizes w, md_bytes w, md_readAt w, md_readMany w, md_readGate w, md_isBegun w, md_readRut w, md_readKind w, md_readLong w, md_readStrong w, md_n w, md_gateAt w, md_ruts w, md_kinds w, md_longs w, md_strongs w, md_now w, md_tried w, v, md_log w, md_keptMany w, md_kept w, md_outcomes w, md_parts w, md_whole w, md_h w)
def md_set_log (w : Md) (v : Ar) : Md := (md_told w, md_above w, md_below w, md_latest w, md_came w, md_sizes w, md_rows w, md_copied w, md_textSizes w, md_bytes w, md_readAt w, md_readMany w, md_readGate w, md_isBegun w, md_readRut w, md_readKind w, md_readLong w, md_readStrong w, md_n w, md_gateAt w, md_ruts w, md_kinds w, md_longs w, md_strongs w, md_now w, md_tried w, md_deedMany w, v, md_keptMany w, md_kept w, md_outcomes w, md_parts w, md_whole w, md_h w)
def md_set_keptMany (w : Md) (v : Ar) : Md := (md_told w, md_above w, md_below w, md_latest w, md_came w, md_sizes w, md_rows w, md_copied w, md_textSizes w, md_bytes w, md_readAt w, md_readMany w, md_readGate w, md_isBegun w, md_readRut w, md_readKind w, md_readLong w, md_readStrong w, md_n w, md_gateAt w, md_ruts w, md_kinds w, md_longs w, md_strongs w, md_now w, md_tried w, md_deedMany w, md_log w, v, md_kept w, md_outcomes w, md_parts w, md_whole w, md_h w)
def md_set_kept (w : Md) (v : Ar) : Md := (md_told w, md_above w, md_below w, md_latest w, md_came w, md_sizes w, md_rows w, md_copied w, md_textSizes w, md_bytes w, md_readAt w, md_readMany w, md_readGate w, md_isBegun w, md_readRut w, md_readKind w, md_readLong w, md_readStrong w, md_n w, md_gateAt w, md_ruts w, md_kinds w, md_longs w, md_strongs w, md_now w, md_tried w, md_deedMany w, md_log w, md_keptMany w, v, md_outcomes w, md_parts w, md_whole w, md_h w)
def md_set_outcomes (w : Md) (v : Ar) : Md := (md_told w, md_above w, md_below w, md_latest w, md_came w, md_sizes w, md_rows w, md_copied w, md_textSizes w, md_bytes w, md_readAt w, md_readMany w, md_readGate w, md_isBegun w, md_readRut w, md_readKind w, md_readLong w, md_readStrong w, md_n w, md_gateAt w, md_ruts w, md_kinds w, md_longs w, md_strongs w, md_now w, md_tried w, md_deedMany w, md_log w, md_keptMany w, md_kept w, v, md_parts w, md_whole w, md_h w)
def md_set_parts (w : Md) (v : ArL) : Md := (md_told w, md_above w, md_below w, md_latest w, md_came w, md_sizes w, md_rows w, md_copied w, md_textSizes w, md_bytes w, md_readAt w, md_readMany w, md_readGate w, md_isBegun w, md_readRut w, md_readKind w, md_readLong w, md_readStrong w, md_n w, md_gateAt w, md_ruts w, md_kinds w, md_longs w, md_strongs w, md_now w, md_tried w, md_deedMany w, md_log w, md_keptMany w, md_kept w, md_outcomes w, v, md_whole w, md_h w)
def md_set_whole (w : Md) (v : Int64) : Md := (md_told w, md_above w, md_below w, md_latest w, md_came w, md_sizes w, md_rows w, md_copied w, md_textSizes w, md_bytes w, md_readAt w, md_readMany w, md_readGate w, md_isBegun w, md_readRut w, md_readKind w, md_readLong w, md_readStrong w, md_n w, md_gateAt w, md_ruts w, md_kinds w, md_longs w, md_strongs w, md_now w, md_tried w, md_deedMany w, md_log w, md_keptMany w, md_kept w, md_outcomes w, md_parts w, v, md_h w)
def md_set_h (w : Md) (v : Int64) : Md := (md_told w, md_above w, md_below w, md_latest w, md_came w, md_sizes w, md_rows w, md_copied w, md_textSizes w, md_bytes w, md_readAt w, md_readMany w, md_readGate w, md_isBegun w, md_readRut w, md_readKind w, md_readLong w, md_readStrong w, md_n w, md_gateAt w, md_ruts w, md_kinds w, md_longs w, md_strongs w, md_now w, md_tried w, md_deedMany w, md_log w, md_keptMany w, md_kept w, md_outcomes w, md_parts w, md_whole w, v)
def updK (f : Nat → Ct) (k : Nat) (v : Ct) : Nat → Ct := fun j => if j = k then v else f j
def updA (f : Nat → Ar) (k : Nat) (v : Ar) : Nat → Ar := fun j => if j = k then v else f j
abbrev eI (G : GG) (n : Nat) (f : Ar) : va_E := .inl (G.2.1 0, n, .inl f)
abbrev eB (G : GG) (n : Nat) (f : Ar) : va_E := .inl (G.2.1 1, n, .inl f)
abbrev eL (G : GG) (n : Nat) (f : ArL) : va_E := .inl (G.2.1 2, n, .inr (.inl f))
abbrev eC (G : GG) (n : Nat) (f : Nat → Option Nat) : va_E := .inl (G.2.1 3, n, .inr (.inr (.inr (.inr f))))
abbrev eR (G : GG) (n : Nat) (f : Nat → Option Nat) : va_E := .inl (G.2.1 4, n, .inr (.inr (.inr (.inr f))))
def bWh (G : GG) (a : Nat → Nat) (o : Nat) (w : Wh) : va_W := [(a o, .inr (4, [.ref (a (o + 1)), .ref (a (o + 2)), .ref (a (o + 3)), .ref (a (o + 4)), .ref (a (o + 5)), .int (wh_spokes w), .int (wh_gateRut w), .int (wh_stand w), .int (wh_rut w), .int (wh_there w), .int (wh_dry w)])), (a (o + 1), eI G 8 (wh_depths w)), (a (o + 2), eI G 8 (wh_kind w)), (a (o + 3), eI G 8 (wh_length w)), (a (o + 4), eI G 8 (wh_strong w)), (a (o + 5), eI G 8 (wh_wear w))]
def bCt (G : GG) (a : Nat → Nat) (o : Nat) (w : Ct) : va_W := (a o, .inr (1, [.ref (a (o + 3)), .ref (a (o + 1)), .ref (a (o + 2)), .int (ct_done w)])) :: (a (o + 1), eI G 40 (ct_deeds w)) :: (a (o + 2), eI G 40 (ct_doneTo w)) :: bWh G a (o + 3) (ct_wheel w)
def bRd (G : GG) (a : Nat → Nat) (o : Nat) (w : Rd) : va_W := (a o, .inr (2, [.ref (a (o + 2)), .ref (a (o + 1)), .int (rd_size w), .int (rd_place w)])) :: (a (o + 1), eI G 60 (rd_signs w)) :: bWh G a (o + 2) (rd_draft w)
def bSh (G : GG) (n m : Nat) (a : Nat → Nat) (o : Nat) (w : Sh) : va_W := (a o, .inr (3, [.int (sh_most w), .ref (a (o + 1)), .ref (a (o + 2))])) :: (a (o + 1), eR G n (fun j => if j < n then some (a (o + 3 + j)) else none)) :: (a (o + 2), eI G n (sh_sizes w)) :: (List.range n).map (fun j => (a (o + 3 + j), eI G m (sh_places w j)))
def bAs (G : GG) (a : Nat → Nat) (o : Nat) (nr : Nat) (w : As) : va_W := (a o, .inr (0, [.int (as_found w), .ref (nr), .ref (a (o + 1))])) :: bWh G a (o + 1) (as_trial w)
def bsV (G : GG) (a : Nat → Nat) (o : Nat) (rm : Int32) (rz : Ar) (r0 : Ar) (r1 : Ar) (r2 : Ar) (r3 : Ar) (r4 : Ar) (r5 : Ar) (tm : Int32) (tz : Ar) (t0 : Ar) (t1 : Ar) (t2 : Ar) (t3 : Ar) (rd : Rd) (ct : Ct) (k0 : Ct) (k1 : Ct) (k2 : Ct) (sd : As) (tl : Ar) (fl : Int32) (al : Int32) (ul : Int64) (ll : Int64) : List va_W := [[(a o, .inr (5, [.ref (a (o + 3)), .ref (a (o + 12)), .ref (a (o + 19)), .ref (a (o + 27)), .ref (a (o + 2)), .ref (a (o + 63)), .ref (a (o + 1)), .int fl, .int al, .long ul, .long ll])), (a (o + 1), eI G 6 tl), (a (o + 2), eC G 3 (fun j => if j < 3 then some (a (o + 36 + 9 * j)) else none))], [(a (o + 3), .inr (3, [.int rm, .ref (a (o + 4)), .ref (a (o + 5))])), (a (o + 4), eR G 6 (fun j => if j < 6 then some (a (o + 6 + j)) else none)), (a (o + 5), eI G 6 rz)], [(a (o + 6), eI G 40 r0)], [(a (o + 7), eI G 40 r1)], [(a (o + 8), eI G 40 r2)], [(a (o + 9), eI G 40 r3)], [(a (o + 10), eI G 40 r4)], [(a (o + 11), eI G 40 r5)], [(a (o + 12), .inr (3, [.int tm, .ref (a (o + 13)), .ref (a (o + 14))])), (a (o + 13), eR G 4 (fun j => if j < 4 then some (a (o + 15 + j)) else none)), (a (o + 14), eI G 4 tz)], [(a (o + 15), eI G 60 t0)], [(a (o + 16), eI G 60 t1)], [(a (o + 17), eI G 60 t2)], [(a (o + 18), eI G 60 t3)], [(a (o + 19), .inr (2, [.ref (a (o + 21)), .ref (a (o + 20)), .int (rd_size rd), .int (rd_place rd)])), (a (o + 20), eI G 60 (rd_signs rd))], bWh G a (o + 21) (rd_draft rd), [(a (o + 27), .inr (1, [.ref (a (o + 30)), .ref (a (o + 28)), .ref (a (o + 29)), .int (ct_done ct)])), (a (o + 28), eI G 40 (ct_deeds ct)), (a (o + 29), eI G 40 (ct_doneTo ct))], bWh G a (o + 30) (ct_wheel ct), [(a (o + 36), .inr (1, [.ref (a (o + 39)), .ref (a (o + 37)), .ref (a (o + 38)), .int (ct_done k0)])), (a (o + 37), eI G 40 (ct_deeds k0)), (a (o + 38), eI G 40 (ct_doneTo k0))], bWh G a (o + 39) (ct_wheel k0), [(a (o + 45), .inr (1, [.ref (a (o + 48)), .ref (a (o + 46)), .ref (a (o + 47)), .int (ct_done k1)])), (a (o + 46), eI G 40 (ct_deeds k1)), (a (o + 47), eI G 40 (ct_doneTo k1))], bWh G a (o + 48) (ct_wheel k1), [(a (o + 54), .inr (1, [.ref (a (o + 57)), .ref (a (o + 55)), .ref (a (o + 56)), .int (ct_done k2)])), (a (o + 55), eI G 40 (ct_deeds k2)), (a (o + 56), eI G 40 (ct_doneTo k2))], bWh G a (o + 57) (ct_wheel k2), [(a (o + 63), .inr (0, [.int (as_found sd), .ref (a (o + 30)), .ref (a (o + 64))]))], bWh G a (o + 64) (as_trial sd)]
def bsWw (G : GG) (a : Nat → Nat) (o : Nat) (w : Ww) : List va_W := bsV G a o (sh_most (ww_rows w)) (sh_sizes (ww_rows w)) (sh_places (ww_rows w) 0) (sh_places (ww_rows w) 1) (sh_places (ww_rows w) 2) (sh_places (ww_rows w) 3) (sh_places (ww_rows w) 4) (sh_places (ww_rows w) 5) (sh_most (ww_texts w)) (sh_sizes (ww_texts w)) (sh_places (ww_texts w) 0) (sh_places (ww_texts w) 1) (sh_places (ww_texts w) 2) (sh_places (ww_texts w) 3) (ww_reader w) (ww_cart w) (ww_kept w 0) (ww_kept w 1) (ww_kept w 2) (ww_aside w) (ww_tallies w) (ww_findingLast w) (ww_askedLast w) (ww_upperLast w) (ww_lowerLast w)
def bWw (G : GG) (a : Nat → Nat) (o : Nat) (w : Ww) : va_W := (bsWw G a o w).flatten
def bMd (G : GG) (a : Nat → Nat) (o : Nat) (w : Md) : va_W := [(a o, .inr (6, [.int (md_told w), .long (md_above w), .long (md_below w), .int (md_latest w), .ref (a (o + 1)), .ref (a (o + 2)), .ref (a (o + 3)), .ref (a (o + 4)), .ref (a (o + 5)), .ref (a (o + 6)), .int (md_readAt w), .int (md_readMany w), .int (md_readGate w), .int (md_isBegun w), .ref (a (o + 7)), .ref (a (o + 8)), .ref (a (o + 9)), .ref (a (o + 10)), .int (md_n w), .int (md_gateAt w), .ref (a (o + 11)), .ref (a (o + 12)), .ref (a (o + 13)), .ref (a (o + 14)), .ref (a (o + 15)), .ref (a (o + 16)), .int (md_deedMany w), .ref (a (o + 17)), .ref (a (o + 18)), .ref (a (o + 19)), .ref (a (o + 20)), .ref (a (o + 21)), .long (md_whole w), .long (md_h w)])), (a (o + 1), eI G 6 (md_came w)), (a (o + 2), eI G 6 (md_sizes w)), (a (o + 3), eI G 240 (md_rows w)), (a (o + 4), eI G 40 (md_copied w)), (a (o + 5), eI G 4 (md_textSizes w)), (a (o + 6), eB G 480 (md_bytes w)), (a (o + 7), eI G 8 (md_readRut w)), (a (o + 8), eI G 8 (md_readKind w)), (a (o + 9), eI G 8 (md_readLong w)), (a (o + 10), eI G 8 (md_readStrong w)), (a (o + 11), eI G 8 (md_ruts w)), (a (o + 12), eI G 8 (md_kinds w)), (a (o + 13), eI G 8 (md_longs w)), (a (o + 14), eI G 8 (md_strongs w)), (a (o + 15), eI G 12 (md_now w)), (a (o + 16), eI G 12 (md_tried w)), (a (o + 17), eI G 480 (md_log w)), (a (o + 18), eI G 3 (md_keptMany w)), (a (o + 19), eI G 1476 (md_kept w)), (a (o + 20), eI G 6561 (md_outcomes w)), (a (o + 21), eL G 13 (md_parts w))]
def fuel : Nat := 100000
abbrev WW (p : Program) (l : Launch) (e : Env) (d : Nat) (s : State) (m : MethodId) (av : List Value) (below : List Frame) (meth : Method) (c : Code) (G : GG) (A : Nat → Prop) (rv : Option Value) (wc : va_W) (H : Heap) (locs : List Loc) (pc : Nat) (ls : Array Slot) (st : List Value) : Prop := W p l e (rmD d) s m av.toArray below meth c H locs 0 0 (MQ below (QN G A rv wc) av.toArray s 0 0 A) (F0 m pc ls st)
theorem elim_l {σ ρ : Type} {P : σ → Prop} {Z : ρ → Prop} {x : σ} (h : Sum.elim P Z (Sum.inl x)) : P x := h
theorem elim_r {σ ρ : Type} {P : σ → Prop} {Z : ρ → Prop} {x : ρ} (h : Sum.elim P Z (Sum.inr x)) : Z x := h
theorem vrep_self : ∀ (is : List Nat) (ws wc : va_W), is.map (fun i => ws[i]?) = wc.map some → vrep ws is wc = ws
  | [], ws, wc, _ => by cases wc <;> rfl
  | i :: is, ws, [], h => rfl
  | i :: is, ws, e :: es, h => by
    have h1 : ws[i]? = some e := (List.cons.inj h).1
    have h2 := (List.cons.inj h).2
    have h3 : ws.set i e = ws := by
      apply List.ext_getElem?
      intro j
      rw [List.getElem?_set]
      by_cases hj : i = j
      · subst hj
        rw [if_pos rfl, h1, if_pos (List.getElem?_eq_some_iff.mp h1).1]
      · rw [if_neg hj]
    show vrep (ws.set i e) is es = ws
    rw [h3]
    exact vrep_self is ws es h2
section KC
variable {p : Program} {l : Launch} {e : Env} {R : Room} {s : State} {m : MethodId} {args : Array Value} {below : List Frame} {meth : Method} {c : Code} {H : Heap} {locs : List Loc} {cells slots : Nat} {Q : State → Prop}
variable {G : GG} {A : Nat → Prop} {own : String} {cc : ByteArray} {nL : Nat} {ret : Option FieldType} {pc : Nat} {ls : Array Slot} {rest st0 st1 : List Value} {ws ws1 : va_W}
/-- calls, as the printed walks use them: 1 changes its cells, 0 leaves them as they are -/
theorem cV1 {y : MethodName} {cc2 : ByteArray} {nL2 n d idx : Nat} {ret2 : Option FieldType} {b : Nat} {As : List Value} {wc wc' : va_W} {rv : Option Value} (C0 : Cx p s m args meth c G A own cc nL ret) (hW : Wd G A s.heap H ws locs) (hl : ls.size = nL)
    (hM : Cn l G d y cc2 nL2 ret2 (.ref b :: As) wc rv wc') (B : cbV y cc2 nL2 ret2 n) (hlink : Cond.methodLink own idx y ∈ gw) (isC : List Nat) (hnd : va_nd isC = true) (hC : isC.map (fun i => ws[i]?) = wc.map some) (hsame : wc'.map Prod.fst = wc.map Prod.fst) (q0 ci : Nat) {rc : vw_C} {fs : List Value} (hci : vwCl[ci]? = some rc) (hrc : rc.1 = y.cls) (hq0 : wc[q0]? = some (b, .inr (ci, fs))) (hR : d + 1 ≤ R.frames ∧ 8 + (nL2 + 11) + 60 * d ≤ R.locals) (hn : As.length = n) (hst : st0 = As.reverse ++ .ref b :: rest) (hroom : (rest.map fun v => v.category).sum ≤ 8) (hcs : cells ≤ R.cells ∧ slots ≤ R.slots) (hdg : decode cc pc = .ok (.invokevirtual idx, 3)) (hst1 : rv.toList ++ rest = st1) (hw1 : vrep ws isC wc' = ws1)
    (kk : ∀ (H1 : Heap) (locs1 : List Loc), Wd G A s.heap H1 ws1 locs1 → W p l e R s m args below meth c H1 locs1 cells slots Q (F0 m (pc + 3) ls st1)) : W p l e R s m args below meth c H locs cells slots Q (F0 m pc ls st0) := by
  subst hst1; subst hw1
  exact k_callV C0 hW hl hM B hlink isC hnd hC hsame q0 ci hci hrc hq0 hR hn hst hroom hcs hdg kk
theorem cV0 {y : MethodName} {cc2 : ByteArray} {nL2 n d idx : Nat} {ret2 : Option FieldType} {b : Nat} {As : List Value} {wc : va_W} {rv : Option Value} (C0 : Cx p s m args meth c G A own cc nL ret) (hW : Wd G A s.heap H ws locs) (hl : ls.size = nL)
    (hM : Cn l G d y cc2 nL2 ret2 (.ref b :: As) wc rv wc) (B : cbV y cc2 nL2 ret2 n) (hlink : Cond.methodLink own idx y ∈ gw) (isC : List Nat) (hnd : va_nd isC = true) (hC : isC.map (fun i => ws[i]?) = wc.map some) (q0 ci : Nat) {rc : vw_C} {fs : List Value} (hci : vwCl[ci]? = some rc) (hrc : rc.1 = y.cls) (hq0 : wc[q0]? = some (b, .inr (ci, fs))) (hR : d + 1 ≤ R.frames ∧ 8 + (nL2 + 11) + 60 * d ≤ R.locals) (hn : As.length = n) (hst : st0 = As.reverse ++ .ref b :: rest) (hroom : (rest.map fun v => v.category).sum ≤ 8) (hcs : cells ≤ R.cells ∧ slots ≤ R.slots) (hdg : decode cc pc = .ok (.invokevirtual idx, 3)) (hst1 : rv.toList ++ rest = st1)
    (kk : ∀ (H1 : Heap) (locs1 : List Loc), Wd G A s.heap H1 ws locs1 → W p l e R s m args below meth c H1 locs1 cells slots Q (F0 m (pc + 3) ls st1)) : W p l e R s m args below meth c H locs cells slots Q (F0 m pc ls st0) := by
  subst hst1
  refine k_callV C0 hW hl hM B hlink isC hnd hC rfl q0 ci hci hrc hq0 hR hn hst hroom hcs hdg ?_
  rw [vrep_self isC ws wc hC]
  exact kk
theorem cS1 {y : MethodName} {cc2 : ByteArray} {nL2 n d idx : Nat} {ret2 : Option FieldType} {As : List Value} {wc wc' : va_W} {rv : Option Value} (C0 : Cx p s m args meth c G A own cc nL ret) (hW : Wd G A s.heap H ws locs) (hl : ls.size = nL)
    (hM : Cn l G d y cc2 nL2 ret2 As wc rv wc') (B : cbS y cc2 nL2 ret2 n) (hlink : Cond.methodLink own idx y ∈ gw) (isC : List Nat) (hnd : va_nd isC = true) (hC : isC.map (fun i => ws[i]?) = wc.map some) (hsame : wc'.map Prod.fst = wc.map Prod.fst) (hR : d + 1 ≤ R.frames ∧ 8 + (nL2 + 11) + 60 * d ≤ R.locals) (hn : As.length = n) (hst : st0 = As.reverse ++ rest) (hroom : (rest.map fun v => v.category).sum ≤ 8) (hcs : cells ≤ R.cells ∧ slots ≤ R.slots) (hdg : decode cc pc = .ok (.invokestatic idx, 3)) (hst1 : rv.toList ++ rest = st1) (hw1 : vrep ws isC wc' = ws1)
    (kk : ∀ (H1 : Heap) (locs1 : List Loc), Wd G A s.heap H1 ws1 locs1 → W p l e R s m args below meth c H1 locs1 cells slots Q (F0 m (pc + 3) ls st1)) : W p l e R s m args below meth c H locs cells slots Q (F0 m pc ls st0) := by
  subst hst1; subst hw1
  exact k_callS C0 hW hl hM B hlink isC hnd hC hsame hR hn hst hroom hcs hdg kk
theorem cS0 {y : MethodName} {cc2 : ByteArray} {nL2 n d idx : Nat} {ret2 : Option FieldType} {As : List Value} {wc : va_W} {rv : Option Value} (C0 : Cx p s m args meth c G A own cc nL ret) (hW : Wd G A s.heap H ws locs) (hl : ls.size = nL)
    (hM : Cn l G d y cc2 nL2 ret2 As wc rv wc) (B : cbS y cc2 nL2 ret2 n) (hlink : Cond.methodLink own idx y ∈ gw) (isC : List Nat) (hnd : va_nd isC = true) (hC : isC.map (fun i => ws[i]?) = wc.map some) (hR : d + 1 ≤ R.frames ∧ 8 + (nL2 + 11) + 60 * d ≤ R.locals) (hn : As.length = n) (hst : st0 = As.reverse ++ rest) (hroom : (rest.map fun v => v.category).sum ≤ 8) (hcs : cells ≤ R.cells ∧ slots ≤ R.slots) (hdg : decode cc pc = .ok (.invokestatic idx, 3)) (hst1 : rv.toList ++ rest = st1)
    (kk : ∀ (H1 : Heap) (locs1 : List Loc), Wd G A s.heap H1 ws locs1 → W p l e R s m args below meth c H1 locs1 cells slots Q (F0 m (pc + 3) ls st1)) : W p l e R s m args below meth c H locs cells slots Q (F0 m pc ls st0) := by
  subst hst1
  refine k_callS C0 hW hl hM B hlink isC hnd hC rfl hR hn hst hroom hcs hdg ?_
  rw [vrep_self isC ws wc hC]
  exact kk
theorem cN0 {y : MethodName} {cc2 : ByteArray} {nL2 n d idx : Nat} {ret2 : Option FieldType} {host : String} {As : List Value} {wc : va_W} {rv : Option Value} (C0 : Cx p s m args meth c G A own cc nL ret) (hW : Wd G A s.heap H ws locs) (hl : ls.size = nL)
    (hM : Cn l G d y cc2 nL2 ret2 As wc rv wc) (B : cbS y cc2 nL2 ret2 n) (hlink : Cond.methodLinkNest own idx y host ∈ nestW) (isC : List Nat) (hnd : va_nd isC = true) (hC : isC.map (fun i => ws[i]?) = wc.map some) (hR : d + 1 ≤ R.frames ∧ 8 + (nL2 + 11) + 60 * d ≤ R.locals) (hn : As.length = n) (hst : st0 = As.reverse ++ rest) (hroom : (rest.map fun v => v.category).sum ≤ 8) (hcs : cells ≤ R.cells ∧ slots ≤ R.slots) (hdg : decode cc pc = .ok (.invokestatic idx, 3)) (hst1 : rv.toList ++ rest = st1)
    (kk : ∀ (H1 : Heap) (locs1 : List Loc), Wd G A s.heap H1 ws locs1 → W p l e R s m args below meth c H1 locs1 cells slots Q (F0 m (pc + 3) ls st1)) : W p l e R s m args below meth c H locs cells slots Q (F0 m pc ls st0) := by
  subst hst1
  refine k_callSN C0 hW hl hM B hlink isC hnd hC rfl hR hn hst hroom hcs hdg ?_
  rw [vrep_self isC ws wc hC]
  exact kk
end KC
theorem mn_X5_23 : Cond.methodLinkNest RX5 23 yX2_init "WheelWeeks" ∈ nestW := by simp [nestW]
theorem mn_X2_11 : Cond.methodLinkNest RX2 11 yX4_init "WheelWeeks" ∈ nestW := by simp [nestW]
theorem mn_X5_30 : Cond.methodLinkNest RX5 30 yX1_init "WheelWeeks" ∈ nestW := by simp [nestW]
theorem mn_X1_11 : Cond.methodLinkNest RX1 11 yX4_init "WheelWeeks" ∈ nestW := by simp [nestW]
theorem mn_X0_17 : Cond.methodLinkNest RX0 17 yX4_init "WheelWeeks" ∈ nestW := by simp [nestW]
theorem mn_X2_73 : Cond.fieldLinkNest RX2 73 RX5 "LETTERS" "[I" "WheelWeeks" ∈ nestW := by simp [nestW, RX5]
theorem mn_X4_66 : Cond.methodLinkNest RX4 66 yX5_bearing "WheelWeeks" ∈ nestW := by simp [nestW]
theorem mn_X0_106 : Cond.methodLinkNest RX0 106 yX5_bearing "WheelWeeks" ∈ nestW := by simp [nestW]
theorem mn_X5_231 : Cond.methodLinkNest RX5 231 yX0_fight "WheelWeeks" ∈ nestW := by simp [nestW]
theorem mn_X0_124 : Cond.methodLinkNest RX0 124 yX5_power "WheelWeeks" ∈ nestW := by simp [nestW]
theorem mn_X4_78 : Cond.methodLinkNest RX4 78 yX5_isOfKind "WheelWeeks" ∈ nestW := by simp [nestW]
theorem cb_X0_rutBehind : cbV yX0_rutBehind cX0_rutBehind 2 (some .int) 1 := ⟨mi_X0_rutBehind, ms_X0_rutBehind, mz_X0, mc_X0_rutBehind, by decide +kernel, by decide +kernel, by decide +kernel⟩
theorem cb_X0_rutOver : cbV yX0_rutOver cX0_rutOver 1 (some .int) 0 := ⟨mi_X0_rutOver, ms_X0_rutOver, mz_X0, mc_X0_rutOver, by decide +kernel, by decide +kernel, by decide +kernel⟩
theorem cb_X0_writeLimps : cbV yX0_writeLimps cX0_writeLimps 5 (some .int) 2 := ⟨mi_X0_writeLimps, ms_X0_writeLimps, mz_X0, mc_X0_writeLimps, by decide +kernel, by decide +kernel, by decide +kernel⟩
theorem cb_X0_fewestToGate : cbV yX0_fewestToGate cX0_fewestToGate 4 (some .int) 0 := ⟨mi_X0_fewestToGate, ms_X0_fewestToGate, mz_X0, mc_X0_fewestToGate, by decide +kernel, by decide +kernel, by decide +kernel⟩
theorem cb_X0_reachesGateWith : cbV yX0_reachesGateWith cX0_reachesGateWith 2 (some .boolean) 1 := ⟨mi_X0_reachesGateWith, ms_X0_reachesGateWith, mz_X0, mc_X0_reachesGateWith, by decide +kernel, by decide +kernel, by decide +kernel⟩
theorem cb_X0_bestStand : cbV yX0_bestStand cX0_bestStand 4 (some .int) 0 := ⟨mi_X0_bestStand, ms_X0_bestStand, mz_X0, mc_X0_bestStand, by decide +kernel, by decide +kernel, by decide +kernel⟩
theorem cb_X0_bestChange : cbV yX0_bestChange cX0_bestChange 5 (some .int) 0 := ⟨mi_X0_bestChange, ms_X0_bestChange, mz_X0, mc_X0_bestChange, by decide +kernel, by decide +kernel, by decide +kernel⟩
theorem cb_X0_goneSets : cbV yX0_goneSets cX0_goneSets 6 (some .int) 2 := ⟨mi_X0_goneSets, ms_X0_goneSets, mz_X0, mc_X0_goneSets, by decide +kernel, by decide +kernel, by decide +kernel⟩
theorem cb_X0_likelyStrengths : cbV yX0_likelyStrengths cX0_likelyStrengths 6 (some .int) 3 := ⟨mi_X0_likelyStrengths, ms_X0_likelyStrengths, mz_X0, mc_X0_likelyStrengths, by decide +kernel, by decide +kernel, by decide +kernel⟩
theorem cb_X0_likelyKinds : cbV yX0_likelyKinds cX0_likelyKinds 6 (some .int) 3 := ⟨mi_X0_likelyKinds, ms_X0_likelyKinds, mz_X0, mc_X0_likelyKinds, by decide +kernel, by decide +kernel, by decide +kernel⟩
theorem cb_X0_bestDepth : cbV yX0_bestDepth cX0_bestDepth 6 (some .int) 1 := ⟨mi_X0_bestDepth, ms_X0_bestDepth, mz_X0, mc_X0_bestDepth, by decide +kernel, by decide +kernel, by decide +kernel⟩
theorem cb_X0_kindsBearing : cbV yX0_kindsBearing cX0_kindsBearing 5 (some .int) 2 := ⟨mi_X0_kindsBearing, ms_X0_kindsBearing, mz_X0, mc_X0_kindsBearing, by decide +kernel, by decide +kernel, by decide +kernel⟩
theorem cb_X0_fight : cbV yX0_fight cX0_fight 13 (some .int) 6 := ⟨mi_X0_fight, ms_X0_fight, mz_X0, mc_X0_fight, by decide +kernel, by decide +kernel, by decide +kernel⟩
theorem cb_X0_limpsWith : cbV yX0_limpsWith cX0_limpsWith 3 (some .int) 2 := ⟨mi_X0_limpsWith, ms_X0_limpsWith, mz_X0, mc_X0_limpsWith, by decide +kernel, by decide +kernel, by decide +kernel⟩
theorem cb_X0_waysUpTo : cbV yX0_waysUpTo cX0_waysUpTo 8 (some .long) 2 := ⟨mi_X0_waysUpTo, ms_X0_waysUpTo, mz_X0, mc_X0_waysUpTo, by decide +kernel, by decide +kernel, by decide +kernel⟩
theorem cb_X0_limpsOverWays : cbV yX0_limpsOverWays cX0_limpsOverWays 7 (some .long) 1 := ⟨mi_X0_limpsOverWays, ms_X0_limpsOverWays, mz_X0, mc_X0_limpsOverWays, by decide +kernel, by decide +kernel, by decide +kernel⟩
theorem cb_X0_waysToLose : cbV yX0_waysToLose cX0_waysToLose 5 (some .long) 2 := ⟨mi_X0_waysToLose, ms_X0_waysToLose, mz_X0, mc_X0_waysToLose, by decide +kernel, by decide +kernel, by decide +kernel⟩
theorem cb_X1_begin : cbV yX1_begin cX1_begin 2 (none) 1 := ⟨mi_X1_begin, ms_X1_begin, mz_X1, mc_X1_begin, by decide +kernel, by decide +kernel, by decide +kernel⟩
theorem cb_X1_take : cbV yX1_take cX1_take 2 (none) 1 := ⟨mi_X1_take, ms_X1_take, mz_X1, mc_X1_take, by decide +kernel, by decide +kernel, by decide +kernel⟩
theorem cb_X1_add : cbV yX1_add cX1_add 3 (some .int) 2 := ⟨mi_X1_add, ms_X1_add, mz_X1, mc_X1_add, by decide +kernel, by decide +kernel, by decide +kernel⟩
theorem cb_X1_goBack : cbV yX1_goBack cX1_goBack 3 (none) 1 := ⟨mi_X1_goBack, ms_X1_goBack, mz_X1, mc_X1_goBack, by decide +kernel, by decide +kernel, by decide +kernel⟩
theorem cb_X2_read : cbV yX2_read cX2_read 4 (some .int) 2 := ⟨mi_X2_read, ms_X2_read, mz_X2, mc_X2_read, by decide +kernel, by decide +kernel, by decide +kernel⟩
theorem cb_X2_skipBlanks : cbV yX2_skipBlanks cX2_skipBlanks 1 (none) 0 := ⟨mi_X2_skipBlanks, ms_X2_skipBlanks, mz_X2, mc_X2_skipBlanks, by decide +kernel, by decide +kernel, by decide +kernel⟩
theorem cb_X2_readRoad : cbV yX2_readRoad cX2_readRoad 3 (some .boolean) 0 := ⟨mi_X2_readRoad, ms_X2_readRoad, mz_X2, mc_X2_readRoad, by decide +kernel, by decide +kernel, by decide +kernel⟩
theorem cb_X2_readGate : cbV yX2_readGate cX2_readGate 4 (some .boolean) 0 := ⟨mi_X2_readGate, ms_X2_readGate, mz_X2, mc_X2_readGate, by decide +kernel, by decide +kernel, by decide +kernel⟩
theorem cb_X2_readSpoke : cbV yX2_readSpoke cX2_readSpoke 5 (some .boolean) 0 := ⟨mi_X2_readSpoke, ms_X2_readSpoke, mz_X2, mc_X2_readSpoke, by decide +kernel, by decide +kernel, by decide +kernel⟩
theorem cb_X2_readFigure : cbV yX2_readFigure cX2_readFigure 3 (some .int) 1 := ⟨mi_X2_readFigure, ms_X2_readFigure, mz_X2, mc_X2_readFigure, by decide +kernel, by decide +kernel, by decide +kernel⟩
theorem cb_X2_kindOf : cbS yX2_kindOf cX2_kindOf 2 (some .int) 1 := ⟨mt_X2_kindOf, mz_X2, mc_X2_kindOf, by decide +kernel, by decide +kernel, by decide +kernel⟩
theorem cb_X3_isNumber : cbV yX3_isNumber cX3_isNumber 2 (some .boolean) 1 := ⟨mi_X3_isNumber, ms_X3_isNumber, mz_X3, mc_X3_isNumber, by decide +kernel, by decide +kernel, by decide +kernel⟩
theorem cb_X3_isMissing : cbV yX3_isMissing cX3_isMissing 2 (some .boolean) 1 := ⟨mi_X3_isMissing, ms_X3_isMissing, mz_X3, mc_X3_isMissing, by decide +kernel, by decide +kernel, by decide +kernel⟩
theorem cb_X3_isPlace : cbV yX3_isPlace cX3_isPlace 3 (some .boolean) 2 := ⟨mi_X3_isPlace, ms_X3_isPlace, mz_X3, mc_X3_isPlace, by decide +kernel, by decide +kernel, by decide +kernel⟩
theorem cb_X3_hasPart : cbV yX3_hasPart cX3_hasPart 4 (some .boolean) 3 := ⟨mi_X3_hasPart, ms_X3_hasPart, mz_X3, mc_X3_hasPart, by decide +kernel, by decide +kernel, by decide +kernel⟩
theorem cb_X3_holdsBits : cbV yX3_holdsBits cX3_holdsBits 3 (some .boolean) 1 := ⟨mi_X3_holdsBits, ms_X3_holdsBits, mz_X3, mc_X3_holdsBits, by decide +kernel, by decide +kernel, by decide +kernel⟩
theorem cb_X3_sizeOf : cbV yX3_sizeOf cX3_sizeOf 2 (some .int) 1 := ⟨mi_X3_sizeOf, ms_X3_sizeOf, mz_X3, mc_X3_sizeOf, by decide +kernel, by decide +kernel, by decide +kernel⟩
theorem cb_X3_placesOf : cbV yX3_placesOf cX3_placesOf 2 (some (.array .int)) 1 := ⟨mi_X3_placesOf, ms_X3_placesOf, mz_X3, mc_X3_placesOf, by decide +kernel, by decide +kernel, by decide +kernel⟩
theorem cb_X3_get : cbV yX3_get cX3_get 3 (some .int) 2 := ⟨mi_X3_get, ms_X3_get, mz_X3, mc_X3_get, by decide +kernel, by decide +kernel, by decide +kernel⟩
theorem cb_X3_set : cbV yX3_set cX3_set 5 (some .int) 3 := ⟨mi_X3_set, ms_X3_set, mz_X3, mc_X3_set, by decide +kernel, by decide +kernel, by decide +kernel⟩
theorem cb_X3_makeOne : cbV yX3_makeOne cX3_makeOne 4 (none) 3 := ⟨mi_X3_makeOne, ms_X3_makeOne, mz_X3, mc_X3_makeOne, by decide +kernel, by decide +kernel, by decide +kernel⟩
theorem cb_X3_drop : cbV yX3_drop cX3_drop 2 (none) 1 := ⟨mi_X3_drop, ms_X3_drop, mz_X3, mc_X3_drop, by decide +kernel, by decide +kernel, by decide +kernel⟩
theorem cb_X3_move : cbV yX3_move cX3_move 6 (none) 5 := ⟨mi_X3_move, ms_X3_move, mz_X3, mc_X3_move, by decide +kernel, by decide +kernel, by decide +kernel⟩
theorem cb_X3_sum : cbV yX3_sum cX3_sum 5 (some .long) 1 := ⟨mi_X3_sum, ms_X3_sum, mz_X3, mc_X3_sum, by decide +kernel, by decide +kernel, by decide +kernel⟩
theorem cb_X3_howMany : cbV yX3_howMany cX3_howMany 3 (some .int) 0 := ⟨mi_X3_howMany, ms_X3_howMany, mz_X3, mc_X3_howMany, by decide +kernel, by decide +kernel, by decide +kernel⟩
theorem cb_X3_mix : cbV yX3_mix cX3_mix 7 (some .long) 1 := ⟨mi_X3_mix, ms_X3_mix, mz_X3, mc_X3_mix, by decide +kernel, by decide +kernel, by decide +kernel⟩
theorem cb_X4_take : cbV yX4_take cX4_take 2 (none) 1 := ⟨mi_X4_take, ms_X4_take, mz_X4, mc_X4_take, by decide +kernel, by decide +kernel, by decide +kernel⟩
theorem cb_X4_start : cbV yX4_start cX4_start 1 (none) 0 := ⟨mi_X4_start, ms_X4_start, mz_X4, mc_X4_start, by decide +kernel, by decide +kernel, by decide +kernel⟩
theorem cb_X4_isEmpty : cbV yX4_isEmpty cX4_isEmpty 1 (some .boolean) 0 := ⟨mi_X4_isEmpty, ms_X4_isEmpty, mz_X4, mc_X4_isEmpty, by decide +kernel, by decide +kernel, by decide +kernel⟩
theorem cb_X4_isSpoke : cbV yX4_isSpoke cX4_isSpoke 2 (some .boolean) 1 := ⟨mi_X4_isSpoke, ms_X4_isSpoke, mz_X4, mc_X4_isSpoke, by decide +kernel, by decide +kernel, by decide +kernel⟩
theorem cb_X4_isThere : cbV yX4_isThere cX4_isThere 2 (some .boolean) 1 := ⟨mi_X4_isThere, ms_X4_isThere, mz_X4, mc_X4_isThere, by decide +kernel, by decide +kernel, by decide +kernel⟩
theorem cb_X4_goneOnes : cbV yX4_goneOnes cX4_goneOnes 1 (some .int) 0 := ⟨mi_X4_goneOnes, ms_X4_goneOnes, mz_X4, mc_X4_goneOnes, by decide +kernel, by decide +kernel, by decide +kernel⟩
theorem cb_X4_isOver : cbV yX4_isOver cX4_isOver 3 (some .boolean) 0 := ⟨mi_X4_isOver, ms_X4_isOver, mz_X4, mc_X4_isOver, by decide +kernel, by decide +kernel, by decide +kernel⟩
theorem cb_X4_depth : cbV yX4_depth cX4_depth 1 (some .int) 0 := ⟨mi_X4_depth, ms_X4_depth, mz_X4, mc_X4_depth, by decide +kernel, by decide +kernel, by decide +kernel⟩
theorem cb_X4_bearingAs : cbV yX4_bearingAs cX4_bearingAs 3 (some .int) 2 := ⟨mi_X4_bearingAs, ms_X4_bearingAs, mz_X4, mc_X4_bearingAs, by decide +kernel, by decide +kernel, by decide +kernel⟩
theorem cb_X4_facet : cbV yX4_facet cX4_facet 3 (some .int) 2 := ⟨mi_X4_facet, ms_X4_facet, mz_X4, mc_X4_facet, by decide +kernel, by decide +kernel, by decide +kernel⟩
theorem cb_X4_differs : cbV yX4_differs cX4_differs 4 (some .int) 2 := ⟨mi_X4_differs, ms_X4_differs, mz_X4, mc_X4_differs, by decide +kernel, by decide +kernel, by decide +kernel⟩
theorem cb_X4_lengthThere : cbV yX4_lengthThere cX4_lengthThere 3 (some .int) 0 := ⟨mi_X4_lengthThere, ms_X4_lengthThere, mz_X4, mc_X4_lengthThere, by decide +kernel, by decide +kernel, by decide +kernel⟩
theorem cb_X4_ironOnes : cbV yX4_ironOnes cX4_ironOnes 3 (some .int) 0 := ⟨mi_X4_ironOnes, ms_X4_ironOnes, mz_X4, mc_X4_ironOnes, by decide +kernel, by decide +kernel, by decide +kernel⟩
theorem cb_X4_act : cbV yX4_act cX4_act 3 (some .int) 2 := ⟨mi_X4_act, ms_X4_act, mz_X4, mc_X4_act, by decide +kernel, by decide +kernel, by decide +kernel⟩
theorem cb_X4_roll : cbV yX4_roll cX4_roll 4 (some .boolean) 0 := ⟨mi_X4_roll, ms_X4_roll, mz_X4, mc_X4_roll, by decide +kernel, by decide +kernel, by decide +kernel⟩
theorem cb_X4_soakAll : cbV yX4_soakAll cX4_soakAll 3 (some .int) 0 := ⟨mi_X4_soakAll, ms_X4_soakAll, mz_X4, mc_X4_soakAll, by decide +kernel, by decide +kernel, by decide +kernel⟩
theorem cb_X4_turnWeather : cbV yX4_turnWeather cX4_turnWeather 1 (some .int) 0 := ⟨mi_X4_turnWeather, ms_X4_turnWeather, mz_X4, mc_X4_turnWeather, by decide +kernel, by decide +kernel, by decide +kernel⟩
theorem cb_X4_knockOut : cbV yX4_knockOut cX4_knockOut 2 (some .int) 1 := ⟨mi_X4_knockOut, ms_X4_knockOut, mz_X4, mc_X4_knockOut, by decide +kernel, by decide +kernel, by decide +kernel⟩
theorem cb_X4_putIn : cbV yX4_putIn cX4_putIn 3 (some .int) 1 := ⟨mi_X4_putIn, ms_X4_putIn, mz_X4, mc_X4_putIn, by decide +kernel, by decide +kernel, by decide +kernel⟩
theorem cb_X4_putInAll : cbV yX4_putInAll cX4_putInAll 3 (none) 1 := ⟨mi_X4_putInAll, ms_X4_putInAll, mz_X4, mc_X4_putInAll, by decide +kernel, by decide +kernel, by decide +kernel⟩
theorem cb_X4_changeRound : cbV yX4_changeRound cX4_changeRound 3 (none) 2 := ⟨mi_X4_changeRound, ms_X4_changeRound, mz_X4, mc_X4_changeRound, by decide +kernel, by decide +kernel, by decide +kernel⟩
theorem cb_X4_swap : cbS yX4_swap cX4_swap 4 (none) 3 := ⟨mt_X4_swap, mz_X4, mc_X4_swap, by decide +kernel, by decide +kernel, by decide +kernel⟩
theorem cb_X4_rollFar : cbV yX4_rollFar cX4_rollFar 4 (some .int) 1 := ⟨mi_X4_rollFar, ms_X4_rollFar, mz_X4, mc_X4_rollFar, by decide +kernel, by decide +kernel, by decide +kernel⟩
theorem cb_X4_limpsIn : cbV yX4_limpsIn cX4_limpsIn 4 (some .int) 1 := ⟨mi_X4_limpsIn, ms_X4_limpsIn, mz_X4, mc_X4_limpsIn, by decide +kernel, by decide +kernel, by decide +kernel⟩
theorem cb_X4_limpsAs : cbV yX4_limpsAs cX4_limpsAs 5 (some .boolean) 2 := ⟨mi_X4_limpsAs, ms_X4_limpsAs, mz_X4, mc_X4_limpsAs, by decide +kernel, by decide +kernel, by decide +kernel⟩
theorem cb_X4_reachesGate : cbV yX4_reachesGate cX4_reachesGate 2 (some .boolean) 0 := ⟨mi_X4_reachesGate, ms_X4_reachesGate, mz_X4, mc_X4_reachesGate, by decide +kernel, by decide +kernel, by decide +kernel⟩
theorem cb_X4_mix : cbV yX4_mix cX4_mix 7 (some .long) 1 := ⟨mi_X4_mix, ms_X4_mix, mz_X4, mc_X4_mix, by decide +kernel, by decide +kernel, by decide +kernel⟩
theorem cb_X5_row : cbV yX5_row cX5_row 3 (some .int) 2 := ⟨mi_X5_row, ms_X5_row, mz_X5, mc_X5_row, by decide +kernel, by decide +kernel, by decide +kernel⟩
theorem cb_X5_lay : cbV yX5_lay cX5_lay 5 (some .int) 3 := ⟨mi_X5_lay, ms_X5_lay, mz_X5, mc_X5_lay, by decide +kernel, by decide +kernel, by decide +kernel⟩
theorem cb_X5_at : cbV yX5_at cX5_at 4 (some .int) 2 := ⟨mi_X5_at, ms_X5_at, mz_X5, mc_X5_at, by decide +kernel, by decide +kernel, by decide +kernel⟩
theorem cb_X5_tear : cbV yX5_tear cX5_tear 3 (some .int) 1 := ⟨mi_X5_tear, ms_X5_tear, mz_X5, mc_X5_tear, by decide +kernel, by decide +kernel, by decide +kernel⟩
theorem cb_X5_copy : cbV yX5_copy cX5_copy 6 (some .int) 5 := ⟨mi_X5_copy, ms_X5_copy, mz_X5, mc_X5_copy, by decide +kernel, by decide +kernel, by decide +kernel⟩
theorem cb_X5_mean : cbV yX5_mean cX5_mean 4 (some .int) 1 := ⟨mi_X5_mean, ms_X5_mean, mz_X5, mc_X5_mean, by decide +kernel, by decide +kernel, by decide +kernel⟩
theorem cb_X5_text : cbV yX5_text cX5_text 3 (some .int) 2 := ⟨mi_X5_text, ms_X5_text, mz_X5, mc_X5_text, by decide +kernel, by decide +kernel, by decide +kernel⟩
theorem cb_X5_put : cbV yX5_put cX5_put 5 (some .int) 3 := ⟨mi_X5_put, ms_X5_put, mz_X5, mc_X5_put, by decide +kernel, by decide +kernel, by decide +kernel⟩
theorem cb_X5_fault : cbV yX5_fault cX5_fault 3 (some .int) 1 := ⟨mi_X5_fault, ms_X5_fault, mz_X5, mc_X5_fault, by decide +kernel, by decide +kernel, by decide +kernel⟩
theorem cb_X5_wheel : cbV yX5_wheel cX5_wheel 4 (some .int) 1 := ⟨mi_X5_wheel, ms_X5_wheel, mz_X5, mc_X5_wheel, by decide +kernel, by decide +kernel, by decide +kernel⟩
theorem cb_X5_spoke : cbV yX5_spoke cX5_spoke 3 (some .int) 2 := ⟨mi_X5_spoke, ms_X5_spoke, mz_X5, mc_X5_spoke, by decide +kernel, by decide +kernel, by decide +kernel⟩
theorem cb_X5_mark : cbV yX5_mark cX5_mark 3 (some .int) 2 := ⟨mi_X5_mark, ms_X5_mark, mz_X5, mc_X5_mark, by decide +kernel, by decide +kernel, by decide +kernel⟩
theorem cb_X5_bears : cbV yX5_bears cX5_bears 4 (some .int) 3 := ⟨mi_X5_bears, ms_X5_bears, mz_X5, mc_X5_bears, by decide +kernel, by decide +kernel, by decide +kernel⟩
theorem cb_X5_step : cbV yX5_step cX5_step 1 (some .int) 0 := ⟨mi_X5_step, ms_X5_step, mz_X5, mc_X5_step, by decide +kernel, by decide +kernel, by decide +kernel⟩
theorem cb_X5_soak : cbV yX5_soak cX5_soak 1 (some .int) 0 := ⟨mi_X5_soak, ms_X5_soak, mz_X5, mc_X5_soak, by decide +kernel, by decide +kernel, by decide +kernel⟩
theorem cb_X5_weather : cbV yX5_weather cX5_weather 1 (some .int) 0 := ⟨mi_X5_weather, ms_X5_weather, mz_X5, mc_X5_weather, by decide +kernel, by decide +kernel, by decide +kernel⟩
theorem cb_X5_knock : cbV yX5_knock cX5_knock 2 (some .int) 1 := ⟨mi_X5_knock, ms_X5_knock, mz_X5, mc_X5_knock, by decide +kernel, by decide +kernel, by decide +kernel⟩
theorem cb_X5_mend : cbV yX5_mend cX5_mend 2 (some .int) 1 := ⟨mi_X5_mend, ms_X5_mend, mz_X5, mc_X5_mend, by decide +kernel, by decide +kernel, by decide +kernel⟩
theorem cb_X5_undo : cbV yX5_undo cX5_undo 3 (some .int) 1 := ⟨mi_X5_undo, ms_X5_undo, mz_X5, mc_X5_undo, by decide +kernel, by decide +kernel, by decide +kernel⟩
theorem cb_X5_keep : cbV yX5_keep cX5_keep 2 (some .int) 1 := ⟨mi_X5_keep, ms_X5_keep, mz_X5, mc_X5_keep, by decide +kernel, by decide +kernel, by decide +kernel⟩
theorem cb_X5_on : cbV yX5_on cX5_on 2 (some .int) 1 := ⟨mi_X5_on, ms_X5_on, mz_X5, mc_X5_on, by decide +kernel, by decide +kernel, by decide +kernel⟩
theorem cb_X5_goes : cbV yX5_goes cX5_goes 2 (some .int) 1 := ⟨mi_X5_goes, ms_X5_goes, mz_X5, mc_X5_goes, by decide +kernel, by decide +kernel, by decide +kernel⟩
theorem cb_X5_over : cbV yX5_over cX5_over 1 (some .int) 0 := ⟨mi_X5_over, ms_X5_over, mz_X5, mc_X5_over, by decide +kernel, by decide +kernel, by decide +kernel⟩
theorem cb_X5_limps : cbV yX5_limps cX5_limps 3 (some .int) 2 := ⟨mi_X5_limps, ms_X5_limps, mz_X5, mc_X5_limps, by decide +kernel, by decide +kernel, by decide +kernel⟩
theorem cb_X5_gate : cbV yX5_gate cX5_gate 1 (some .int) 0 := ⟨mi_X5_gate, ms_X5_gate, mz_X5, mc_X5_gate, by decide +kernel, by decide +kernel, by decide +kernel⟩
theorem cb_X5_turned : cbV yX5_turned cX5_turned 1 (some .int) 0 := ⟨mi_X5_turned, ms_X5_turned, mz_X5, mc_X5_turned, by decide +kernel, by decide +kernel, by decide +kernel⟩
theorem cb_X5_change : cbV yX5_change cX5_change 1 (some .int) 0 := ⟨mi_X5_change, ms_X5_change, mz_X5, mc_X5_change, by decide +kernel, by decide +kernel, by decide +kernel⟩
theorem cb_X5_gone : cbV yX5_gone cX5_gone 3 (some .int) 1 := ⟨mi_X5_gone, ms_X5_gone, mz_X5, mc_X5_gone, by decide +kernel, by decide +kernel, by decide +kernel⟩
theorem cb_X5_strengths : cbV yX5_strengths cX5_strengths 4 (some .int) 2 := ⟨mi_X5_strengths, ms_X5_strengths, mz_X5, mc_X5_strengths, by decide +kernel, by decide +kernel, by decide +kernel⟩
theorem cb_X5_kinds : cbV yX5_kinds cX5_kinds 4 (some .int) 2 := ⟨mi_X5_kinds, ms_X5_kinds, mz_X5, mc_X5_kinds, by decide +kernel, by decide +kernel, by decide +kernel⟩
theorem cb_X5_look : cbV yX5_look cX5_look 2 (some .int) 1 := ⟨mi_X5_look, ms_X5_look, mz_X5, mc_X5_look, by decide +kernel, by decide +kernel, by decide +kernel⟩
theorem cb_X5_duel : cbV yX5_duel cX5_duel 2 (some .int) 1 := ⟨mi_X5_duel, ms_X5_duel, mz_X5, mc_X5_duel, by decide +kernel, by decide +kernel, by decide +kernel⟩
theorem cb_X5_odds : cbV yX5_odds cX5_odds 3 (some .int) 2 := ⟨mi_X5_odds, ms_X5_odds, mz_X5, mc_X5_odds, by decide +kernel, by decide +kernel, by decide +kernel⟩
theorem cb_X5_mid : cbV yX5_mid cX5_mid 2 (some .int) 1 := ⟨mi_X5_mid, ms_X5_mid, mz_X5, mc_X5_mid, by decide +kernel, by decide +kernel, by decide +kernel⟩
theorem cb_X5_lots : cbV yX5_lots cX5_lots 6 (some .int) 2 := ⟨mi_X5_lots, ms_X5_lots, mz_X5, mc_X5_lots, by decide +kernel, by decide +kernel, by decide +kernel⟩
theorem cb_X5_asked : cbV yX5_asked cX5_asked 1 (some .int) 0 := ⟨mi_X5_asked, ms_X5_asked, mz_X5, mc_X5_asked, by decide +kernel, by decide +kernel, by decide +kernel⟩
theorem cb_X5_upper : cbV yX5_upper cX5_upper 1 (some .long) 0 := ⟨mi_X5_upper, ms_X5_upper, mz_X5, mc_X5_upper, by decide +kernel, by decide +kernel, by decide +kernel⟩
theorem cb_X5_lower : cbV yX5_lower cX5_lower 1 (some .long) 0 := ⟨mi_X5_lower, ms_X5_lower, mz_X5, mc_X5_lower, by decide +kernel, by decide +kernel, by decide +kernel⟩
theorem cb_X5_count : cbV yX5_count cX5_count 2 (some .int) 1 := ⟨mi_X5_count, ms_X5_count, mz_X5, mc_X5_count, by decide +kernel, by decide +kernel, by decide +kernel⟩
theorem cb_X5_finding : cbV yX5_finding cX5_finding 1 (some .int) 0 := ⟨mi_X5_finding, ms_X5_finding, mz_X5, mc_X5_finding, by decide +kernel, by decide +kernel, by decide +kernel⟩
theorem cb_X5_findings : cbV yX5_findings cX5_findings 2 (some .int) 1 := ⟨mi_X5_findings, ms_X5_findings, mz_X5, mc_X5_findings, by decide +kernel, by decide +kernel, by decide +kernel⟩
theorem cb_X5_digest : cbV yX5_digest cX5_digest 4 (some .long) 0 := ⟨mi_X5_digest, ms_X5_digest, mz_X5, mc_X5_digest, by decide +kernel, by decide +kernel, by decide +kernel⟩
theorem cb_X5_refuse : cbV yX5_refuse cX5_refuse 2 (some .int) 1 := ⟨mi_X5_refuse, ms_X5_refuse, mz_X5, mc_X5_refuse, by decide +kernel, by decide +kernel, by decide +kernel⟩
theorem cb_X5_refuseMissing : cbV yX5_refuseMissing cX5_refuseMissing 3 (some .int) 2 := ⟨mi_X5_refuseMissing, ms_X5_refuseMissing, mz_X5, mc_X5_refuseMissing, by decide +kernel, by decide +kernel, by decide +kernel⟩
theorem cb_X5_refusePlace : cbV yX5_refusePlace cX5_refusePlace 5 (some .int) 3 := ⟨mi_X5_refusePlace, ms_X5_refusePlace, mz_X5, mc_X5_refusePlace, by decide +kernel, by decide +kernel, by decide +kernel⟩
theorem cb_X5_refuseLimps : cbV yX5_refuseLimps cX5_refuseLimps 2 (some .int) 1 := ⟨mi_X5_refuseLimps, ms_X5_refuseLimps, mz_X5, mc_X5_refuseLimps, by decide +kernel, by decide +kernel, by decide +kernel⟩
theorem cb_X5_refuseGuess : cbV yX5_refuseGuess cX5_refuseGuess 3 (some .int) 2 := ⟨mi_X5_refuseGuess, ms_X5_refuseGuess, mz_X5, mc_X5_refuseGuess, by decide +kernel, by decide +kernel, by decide +kernel⟩
theorem cb_X5_makeAnew : cbV yX5_makeAnew cX5_makeAnew 5 (some .int) 4 := ⟨mi_X5_makeAnew, ms_X5_makeAnew, mz_X5, mc_X5_makeAnew, by decide +kernel, by decide +kernel, by decide +kernel⟩
theorem cb_X5_tell : cbV yX5_tell cX5_tell 2 (some .int) 1 := ⟨mi_X5_tell, ms_X5_tell, mz_X5, mc_X5_tell, by decide +kernel, by decide +kernel, by decide +kernel⟩
theorem cb_X5_tellBeside : cbV yX5_tellBeside cX5_tellBeside 2 (some .int) 1 := ⟨mi_X5_tellBeside, ms_X5_tellBeside, mz_X5, mc_X5_tellBeside, by decide +kernel, by decide +kernel, by decide +kernel⟩
theorem cb_X5_tellShare : cbV yX5_tellShare cX5_tellShare 7 (some .int) 1 := ⟨mi_X5_tellShare, ms_X5_tellShare, mz_X5, mc_X5_tellShare, by decide +kernel, by decide +kernel, by decide +kernel⟩
theorem cb_X5_doDeed : cbV yX5_doDeed cX5_doDeed 3 (some .int) 2 := ⟨mi_X5_doDeed, ms_X5_doDeed, mz_X5, mc_X5_doDeed, by decide +kernel, by decide +kernel, by decide +kernel⟩
theorem cb_X5_doLot : cbV yX5_doLot cX5_doLot 5 (none) 1 := ⟨mi_X5_doLot, ms_X5_doLot, mz_X5, mc_X5_doLot, by decide +kernel, by decide +kernel, by decide +kernel⟩
theorem cb_X5_counted : cbV yX5_counted cX5_counted 3 (some .int) 1 := ⟨mi_X5_counted, ms_X5_counted, mz_X5, mc_X5_counted, by decide +kernel, by decide +kernel, by decide +kernel⟩
theorem cb_X5_keptOnes : cbV yX5_keptOnes cX5_keptOnes 3 (some .int) 0 := ⟨mi_X5_keptOnes, ms_X5_keptOnes, mz_X5, mc_X5_keptOnes, by decide +kernel, by decide +kernel, by decide +kernel⟩
theorem cb_X5_isOfKind : cbS yX5_isOfKind cX5_isOfKind 2 (some .boolean) 2 := ⟨mt_X5_isOfKind, mz_X5, mc_X5_isOfKind, by decide +kernel, by decide +kernel, by decide +kernel⟩
theorem cb_X5_bearing : cbS yX5_bearing cX5_bearing 6 (some .int) 5 := ⟨mt_X5_bearing, mz_X5, mc_X5_bearing, by decide +kernel, by decide +kernel, by decide +kernel⟩
theorem cb_X5_feltWear : cbS yX5_feltWear cX5_feltWear 3 (some .int) 3 := ⟨mt_X5_feltWear, mz_X5, mc_X5_feltWear, by decide +kernel, by decide +kernel, by decide +kernel⟩
theorem cb_X5_power : cbS yX5_power cX5_power 6 (some .long) 2 := ⟨mt_X5_power, mz_X5, mc_X5_power, by decide +kernel, by decide +kernel, by decide +kernel⟩
theorem cb_X5_commonDivisor : cbS yX5_commonDivisor cX5_commonDivisor 11 (some .long) 2 := ⟨mt_X5_commonDivisor, mz_X5, mc_X5_commonDivisor, by decide +kernel, by decide +kernel, by decide +kernel⟩
theorem cb_X6_in : cbS yX6_in cX6_in 3 (some .boolean) 3 := ⟨mt_X6_in, mz_X6, mc_X6_in, by decide +kernel, by decide +kernel, by decide +kernel⟩
theorem cb_X6_has : cbS yX6_has cX6_has 2 (some .boolean) 2 := ⟨mt_X6_has, mz_X6, mc_X6_has, by decide +kernel, by decide +kernel, by decide +kernel⟩
theorem cb_X6_bits : cbS yX6_bits cX6_bits 3 (some .int) 1 := ⟨mt_X6_bits, mz_X6, mc_X6_bits, by decide +kernel, by decide +kernel, by decide +kernel⟩
theorem cb_X6_meets : cbV yX6_meets cX6_meets 2 (some .int) 1 := ⟨mi_X6_meets, ms_X6_meets, mz_X6, mc_X6_meets, by decide +kernel, by decide +kernel, by decide +kernel⟩
theorem cb_X6_tells : cbV yX6_tells cX6_tells 3 (some .int) 2 := ⟨mi_X6_tells, ms_X6_tells, mz_X6, mc_X6_tells, by decide +kernel, by decide +kernel, by decide +kernel⟩
theorem cb_X6_asked : cbV yX6_asked cX6_asked 1 (some .int) 0 := ⟨mi_X6_asked, ms_X6_asked, mz_X6, mc_X6_asked, by decide +kernel, by decide +kernel, by decide +kernel⟩
theorem cb_X6_upper : cbV yX6_upper cX6_upper 1 (some .long) 0 := ⟨mi_X6_upper, ms_X6_upper, mz_X6, mc_X6_upper, by decide +kernel, by decide +kernel, by decide +kernel⟩
theorem cb_X6_lower : cbV yX6_lower cX6_lower 1 (some .long) 0 := ⟨mi_X6_lower, ms_X6_lower, mz_X6, mc_X6_lower, by decide +kernel, by decide +kernel, by decide +kernel⟩
theorem cb_X6_lowest : cbV yX6_lowest cX6_lowest 11 (some .int) 2 := ⟨mi_X6_lowest, ms_X6_lowest, mz_X6, mc_X6_lowest, by decide +kernel, by decide +kernel, by decide +kernel⟩
theorem cb_X6_finding : cbV yX6_finding cX6_finding 1 (some .int) 0 := ⟨mi_X6_finding, ms_X6_finding, mz_X6, mc_X6_finding, by decide +kernel, by decide +kernel, by decide +kernel⟩
theorem cb_X6_findings : cbV yX6_findings cX6_findings 2 (some .int) 1 := ⟨mi_X6_findings, ms_X6_findings, mz_X6, mc_X6_findings, by decide +kernel, by decide +kernel, by decide +kernel⟩
theorem cb_X6_isRow : cbS yX6_isRow cX6_isRow 1 (some .boolean) 1 := ⟨mt_X6_isRow, mz_X6, mc_X6_isRow, by decide +kernel, by decide +kernel, by decide +kernel⟩
theorem cb_X6_rowAt : cbV yX6_rowAt cX6_rowAt 3 (some .int) 2 := ⟨mi_X6_rowAt, ms_X6_rowAt, mz_X6, mc_X6_rowAt, by decide +kernel, by decide +kernel, by decide +kernel⟩
theorem cb_X6_row : cbV yX6_row cX6_row 4 (some .int) 2 := ⟨mi_X6_row, ms_X6_row, mz_X6, mc_X6_row, by decide +kernel, by decide +kernel, by decide +kernel⟩
theorem cb_X6_lay : cbV yX6_lay cX6_lay 5 (some .int) 3 := ⟨mi_X6_lay, ms_X6_lay, mz_X6, mc_X6_lay, by decide +kernel, by decide +kernel, by decide +kernel⟩
theorem cb_X6_at : cbV yX6_at cX6_at 3 (some .int) 2 := ⟨mi_X6_at, ms_X6_at, mz_X6, mc_X6_at, by decide +kernel, by decide +kernel, by decide +kernel⟩
theorem cb_X6_tear : cbV yX6_tear cX6_tear 2 (some .int) 1 := ⟨mi_X6_tear, ms_X6_tear, mz_X6, mc_X6_tear, by decide +kernel, by decide +kernel, by decide +kernel⟩
theorem cb_X6_copy : cbV yX6_copy cX6_copy 7 (some .int) 5 := ⟨mi_X6_copy, ms_X6_copy, mz_X6, mc_X6_copy, by decide +kernel, by decide +kernel, by decide +kernel⟩
theorem cb_X6_mean : cbV yX6_mean cX6_mean 5 (some .int) 1 := ⟨mi_X6_mean, ms_X6_mean, mz_X6, mc_X6_mean, by decide +kernel, by decide +kernel, by decide +kernel⟩
theorem cb_X6_isText : cbS yX6_isText cX6_isText 1 (some .boolean) 1 := ⟨mt_X6_isText, mz_X6, mc_X6_isText, by decide +kernel, by decide +kernel, by decide +kernel⟩
theorem cb_X6_text : cbV yX6_text cX6_text 4 (some .int) 2 := ⟨mi_X6_text, ms_X6_text, mz_X6, mc_X6_text, by decide +kernel, by decide +kernel, by decide +kernel⟩
theorem cb_X6_put : cbV yX6_put cX6_put 5 (some .int) 3 := ⟨mi_X6_put, ms_X6_put, mz_X6, mc_X6_put, by decide +kernel, by decide +kernel, by decide +kernel⟩
theorem cb_X6_letterAt : cbV yX6_letterAt cX6_letterAt 3 (some .int) 2 := ⟨mi_X6_letterAt, ms_X6_letterAt, mz_X6, mc_X6_letterAt, by decide +kernel, by decide +kernel, by decide +kernel⟩
theorem cb_X6_kindOf : cbS yX6_kindOf cX6_kindOf 1 (some .int) 1 := ⟨mt_X6_kindOf, mz_X6, mc_X6_kindOf, by decide +kernel, by decide +kernel, by decide +kernel⟩
theorem cb_X6_reads : cbV yX6_reads cX6_reads 4 (some .int) 2 := ⟨mi_X6_reads, ms_X6_reads, mz_X6, mc_X6_reads, by decide +kernel, by decide +kernel, by decide +kernel⟩
theorem cb_X6_readsRoad : cbV yX6_readsRoad cX6_readsRoad 5 (some .boolean) 1 := ⟨mi_X6_readsRoad, ms_X6_readsRoad, mz_X6, mc_X6_readsRoad, by decide +kernel, by decide +kernel, by decide +kernel⟩
theorem cb_X6_readsSpoke : cbV yX6_readsSpoke cX6_readsSpoke 5 (some .boolean) 1 := ⟨mi_X6_readsSpoke, ms_X6_readsSpoke, mz_X6, mc_X6_readsSpoke, by decide +kernel, by decide +kernel, by decide +kernel⟩
theorem cb_X6_faultOf : cbV yX6_faultOf cX6_faultOf 2 (some .int) 1 := ⟨mi_X6_faultOf, ms_X6_faultOf, mz_X6, mc_X6_faultOf, by decide +kernel, by decide +kernel, by decide +kernel⟩
theorem cb_X6_fault : cbV yX6_fault cX6_fault 2 (some .int) 1 := ⟨mi_X6_fault, ms_X6_fault, mz_X6, mc_X6_fault, by decide +kernel, by decide +kernel, by decide +kernel⟩
theorem cb_X6_wheel : cbV yX6_wheel cX6_wheel 3 (some .int) 1 := ⟨mi_X6_wheel, ms_X6_wheel, mz_X6, mc_X6_wheel, by decide +kernel, by decide +kernel, by decide +kernel⟩
theorem cb_X6_isSpoke : cbV yX6_isSpoke cX6_isSpoke 2 (some .boolean) 1 := ⟨mi_X6_isSpoke, ms_X6_isSpoke, mz_X6, mc_X6_isSpoke, by decide +kernel, by decide +kernel, by decide +kernel⟩
theorem cb_X6_depth : cbV yX6_depth cX6_depth 2 (some .int) 1 := ⟨mi_X6_depth, ms_X6_depth, mz_X6, mc_X6_depth, by decide +kernel, by decide +kernel, by decide +kernel⟩
theorem cb_X6_above0 : cbS yX6_above0 cX6_above0 1 (some .int) 1 := ⟨mt_X6_above0, mz_X6, mc_X6_above0, by decide +kernel, by decide +kernel, by decide +kernel⟩
theorem cb_X6_bearsAs : cbS yX6_bearsAs cX6_bearsAs 7 (some .int) 5 := ⟨mt_X6_bearsAs, mz_X6, mc_X6_bearsAs, by decide +kernel, by decide +kernel, by decide +kernel⟩
theorem cb_X6_bearsOn : cbV yX6_bearsOn cX6_bearsOn 4 (some .int) 3 := ⟨mi_X6_bearsOn, ms_X6_bearsOn, mz_X6, mc_X6_bearsOn, by decide +kernel, by decide +kernel, by decide +kernel⟩
theorem cb_X6_isOver : cbV yX6_isOver cX6_isOver 4 (some .boolean) 1 := ⟨mi_X6_isOver, ms_X6_isOver, mz_X6, mc_X6_isOver, by decide +kernel, by decide +kernel, by decide +kernel⟩
theorem cb_X6_steps : cbV yX6_steps cX6_steps 6 (some .boolean) 1 := ⟨mi_X6_steps, ms_X6_steps, mz_X6, mc_X6_steps, by decide +kernel, by decide +kernel, by decide +kernel⟩
theorem cb_X6_spokeTells : cbV yX6_spokeTells cX6_spokeTells 3 (some .int) 2 := ⟨mi_X6_spokeTells, ms_X6_spokeTells, mz_X6, mc_X6_spokeTells, by decide +kernel, by decide +kernel, by decide +kernel⟩
theorem cb_X6_spoke : cbV yX6_spoke cX6_spoke 3 (some .int) 2 := ⟨mi_X6_spoke, ms_X6_spoke, mz_X6, mc_X6_spoke, by decide +kernel, by decide +kernel, by decide +kernel⟩
theorem cb_X6_isOf : cbS yX6_isOf cX6_isOf 2 (some .boolean) 2 := ⟨mt_X6_isOf, mz_X6, mc_X6_isOf, by decide +kernel, by decide +kernel, by decide +kernel⟩
theorem cb_X6_alike : cbV yX6_alike cX6_alike 3 (some .int) 2 := ⟨mi_X6_alike, ms_X6_alike, mz_X6, mc_X6_alike, by decide +kernel, by decide +kernel, by decide +kernel⟩
theorem cb_X6_mark : cbV yX6_mark cX6_mark 4 (some .int) 2 := ⟨mi_X6_mark, ms_X6_mark, mz_X6, mc_X6_mark, by decide +kernel, by decide +kernel, by decide +kernel⟩
theorem cb_X6_bears : cbV yX6_bears cX6_bears 4 (some .int) 3 := ⟨mi_X6_bears, ms_X6_bears, mz_X6, mc_X6_bears, by decide +kernel, by decide +kernel, by decide +kernel⟩
theorem cb_X6_remember : cbV yX6_remember cX6_remember 2 (none) 0 := ⟨mi_X6_remember, ms_X6_remember, mz_X6, mc_X6_remember, by decide +kernel, by decide +kernel, by decide +kernel⟩
theorem cb_X6_need : cbV yX6_need cX6_need 1 (some .int) 0 := ⟨mi_X6_need, ms_X6_need, mz_X6, mc_X6_need, by decide +kernel, by decide +kernel, by decide +kernel⟩
theorem cb_X6_step : cbV yX6_step cX6_step 1 (some .int) 0 := ⟨mi_X6_step, ms_X6_step, mz_X6, mc_X6_step, by decide +kernel, by decide +kernel, by decide +kernel⟩
theorem cb_X6_soaks : cbS yX6_soaks cX6_soaks 3 (some .int) 1 := ⟨mt_X6_soaks, mz_X6, mc_X6_soaks, by decide +kernel, by decide +kernel, by decide +kernel⟩
theorem cb_X6_soak : cbV yX6_soak cX6_soak 1 (some .int) 0 := ⟨mi_X6_soak, ms_X6_soak, mz_X6, mc_X6_soak, by decide +kernel, by decide +kernel, by decide +kernel⟩
theorem cb_X6_weather : cbV yX6_weather cX6_weather 1 (some .int) 0 := ⟨mi_X6_weather, ms_X6_weather, mz_X6, mc_X6_weather, by decide +kernel, by decide +kernel, by decide +kernel⟩
theorem cb_X6_knock : cbV yX6_knock cX6_knock 2 (some .int) 1 := ⟨mi_X6_knock, ms_X6_knock, mz_X6, mc_X6_knock, by decide +kernel, by decide +kernel, by decide +kernel⟩
theorem cb_X6_puts : cbS yX6_puts cX6_puts 2 (none) 2 := ⟨mt_X6_puts, mz_X6, mc_X6_puts, by decide +kernel, by decide +kernel, by decide +kernel⟩
theorem cb_X6_mend : cbV yX6_mend cX6_mend 3 (some .int) 1 := ⟨mi_X6_mend, ms_X6_mend, mz_X6, mc_X6_mend, by decide +kernel, by decide +kernel, by decide +kernel⟩
theorem cb_X6_undo : cbV yX6_undo cX6_undo 4 (some .int) 1 := ⟨mi_X6_undo, ms_X6_undo, mz_X6, mc_X6_undo, by decide +kernel, by decide +kernel, by decide +kernel⟩
theorem cb_X6_keep : cbV yX6_keep cX6_keep 3 (some .int) 1 := ⟨mi_X6_keep, ms_X6_keep, mz_X6, mc_X6_keep, by decide +kernel, by decide +kernel, by decide +kernel⟩
theorem cb_X6_on : cbV yX6_on cX6_on 3 (some .int) 1 := ⟨mi_X6_on, ms_X6_on, mz_X6, mc_X6_on, by decide +kernel, by decide +kernel, by decide +kernel⟩
theorem cb_X6_copyNow : cbV yX6_copyNow cX6_copyNow 2 (none) 0 := ⟨mi_X6_copyNow, ms_X6_copyNow, mz_X6, mc_X6_copyNow, by decide +kernel, by decide +kernel, by decide +kernel⟩
theorem cb_X6_limpsIn : cbV yX6_limpsIn cX6_limpsIn 6 (some .int) 2 := ⟨mi_X6_limpsIn, ms_X6_limpsIn, mz_X6, mc_X6_limpsIn, by decide +kernel, by decide +kernel, by decide +kernel⟩
theorem cb_X6_goes : cbV yX6_goes cX6_goes 3 (some .int) 1 := ⟨mi_X6_goes, ms_X6_goes, mz_X6, mc_X6_goes, by decide +kernel, by decide +kernel, by decide +kernel⟩
theorem cb_X6_all : cbV yX6_all cX6_all 1 (some .int) 0 := ⟨mi_X6_all, ms_X6_all, mz_X6, mc_X6_all, by decide +kernel, by decide +kernel, by decide +kernel⟩
theorem cb_X6_over : cbV yX6_over cX6_over 1 (some .int) 0 := ⟨mi_X6_over, ms_X6_over, mz_X6, mc_X6_over, by decide +kernel, by decide +kernel, by decide +kernel⟩
theorem cb_X6_limps : cbV yX6_limps cX6_limps 6 (some .int) 2 := ⟨mi_X6_limps, ms_X6_limps, mz_X6, mc_X6_limps, by decide +kernel, by decide +kernel, by decide +kernel⟩
theorem cb_X6_comes : cbV yX6_comes cX6_comes 2 (some .boolean) 0 := ⟨mi_X6_comes, ms_X6_comes, mz_X6, mc_X6_comes, by decide +kernel, by decide +kernel, by decide +kernel⟩
theorem cb_X6_gate : cbV yX6_gate cX6_gate 4 (some .int) 0 := ⟨mi_X6_gate, ms_X6_gate, mz_X6, mc_X6_gate, by decide +kernel, by decide +kernel, by decide +kernel⟩
theorem cb_X6_turned : cbV yX6_turned cX6_turned 5 (some .int) 0 := ⟨mi_X6_turned, ms_X6_turned, mz_X6, mc_X6_turned, by decide +kernel, by decide +kernel, by decide +kernel⟩
theorem cb_X6_swap : cbS yX6_swap cX6_swap 4 (none) 3 := ⟨mt_X6_swap, mz_X6, mc_X6_swap, by decide +kernel, by decide +kernel, by decide +kernel⟩
theorem cb_X6_changes : cbV yX6_changes cX6_changes 3 (none) 2 := ⟨mi_X6_changes, ms_X6_changes, mz_X6, mc_X6_changes, by decide +kernel, by decide +kernel, by decide +kernel⟩
theorem cb_X6_change : cbV yX6_change cX6_change 8 (some .int) 0 := ⟨mi_X6_change, ms_X6_change, mz_X6, mc_X6_change, by decide +kernel, by decide +kernel, by decide +kernel⟩
theorem cb_X6_needLimps : cbV yX6_needLimps cX6_needLimps 4 (some .int) 1 := ⟨mi_X6_needLimps, ms_X6_needLimps, mz_X6, mc_X6_needLimps, by decide +kernel, by decide +kernel, by decide +kernel⟩
theorem cb_X6_isSo : cbV yX6_isSo cX6_isSo 4 (some .boolean) 1 := ⟨mi_X6_isSo, ms_X6_isSo, mz_X6, mc_X6_isSo, by decide +kernel, by decide +kernel, by decide +kernel⟩
theorem cb_X6_gone : cbV yX6_gone cX6_gone 7 (some .int) 1 := ⟨mi_X6_gone, ms_X6_gone, mz_X6, mc_X6_gone, by decide +kernel, by decide +kernel, by decide +kernel⟩
theorem cb_X6_strengths : cbV yX6_strengths cX6_strengths 7 (some .int) 2 := ⟨mi_X6_strengths, ms_X6_strengths, mz_X6, mc_X6_strengths, by decide +kernel, by decide +kernel, by decide +kernel⟩
theorem cb_X6_kinds : cbV yX6_kinds cX6_kinds 7 (some .int) 2 := ⟨mi_X6_kinds, ms_X6_kinds, mz_X6, mc_X6_kinds, by decide +kernel, by decide +kernel, by decide +kernel⟩
theorem cb_X6_look : cbV yX6_look cX6_look 7 (some .int) 1 := ⟨mi_X6_look, ms_X6_look, mz_X6, mc_X6_look, by decide +kernel, by decide +kernel, by decide +kernel⟩
theorem cb_X6_isMoved : cbV yX6_isMoved cX6_isMoved 8 (some .boolean) 2 := ⟨mi_X6_isMoved, ms_X6_isMoved, mz_X6, mc_X6_isMoved, by decide +kernel, by decide +kernel, by decide +kernel⟩
theorem cb_X6_duel : cbV yX6_duel cX6_duel 9 (some .int) 1 := ⟨mi_X6_duel, ms_X6_duel, mz_X6, mc_X6_duel, by decide +kernel, by decide +kernel, by decide +kernel⟩
theorem cb_X6_layParts : cbV yX6_layParts cX6_layParts 6 (none) 1 := ⟨mi_X6_layParts, ms_X6_layParts, mz_X6, mc_X6_layParts, by decide +kernel, by decide +kernel, by decide +kernel⟩
theorem cb_X6_odds : cbV yX6_odds cX6_odds 6 (some .int) 2 := ⟨mi_X6_odds, ms_X6_odds, mz_X6, mc_X6_odds, by decide +kernel, by decide +kernel, by decide +kernel⟩
theorem cb_X6_mid : cbV yX6_mid cX6_mid 5 (some .int) 1 := ⟨mi_X6_mid, ms_X6_mid, mz_X6, mc_X6_mid, by decide +kernel, by decide +kernel, by decide +kernel⟩
theorem cb_X6_lots : cbV yX6_lots cX6_lots 6 (some .int) 2 := ⟨mi_X6_lots, ms_X6_lots, mz_X6, mc_X6_lots, by decide +kernel, by decide +kernel, by decide +kernel⟩
theorem cb_X6_counted : cbV yX6_counted cX6_counted 4 (some .int) 1 := ⟨mi_X6_counted, ms_X6_counted, mz_X6, mc_X6_counted, by decide +kernel, by decide +kernel, by decide +kernel⟩
theorem cb_X6_count : cbV yX6_count cX6_count 2 (some .int) 1 := ⟨mi_X6_count, ms_X6_count, mz_X6, mc_X6_count, by decide +kernel, by decide +kernel, by decide +kernel⟩
theorem cb_X6_adds : cbV yX6_adds cX6_adds 3 (none) 1 := ⟨mi_X6_adds, ms_X6_adds, mz_X6, mc_X6_adds, by decide +kernel, by decide +kernel, by decide +kernel⟩
theorem cb_X6_digest : cbV yX6_digest cX6_digest 3 (some .long) 0 := ⟨mi_X6_digest, ms_X6_digest, mz_X6, mc_X6_digest, by decide +kernel, by decide +kernel, by decide +kernel⟩
theorem cb_J6_bitCount_0f7a4 : cbS yJ6_bitCount_0f7a4 cJ6_bitCount_0f7a4 1 (some .int) 1 := ⟨mt_J6_bitCount_0f7a4, mz_J6, mc_J6_bitCount_0f7a4, by decide +kernel, by decide +kernel, by decide +kernel⟩
theorem cb_J9_max_7cf53 : cbS yJ9_max_7cf53 cJ9_max_7cf53 2 (some .int) 2 := ⟨mt_J9_max_7cf53, mz_J9, mc_J9_max_7cf53, by decide +kernel, by decide +kernel, by decide +kernel⟩
theorem cb_J9_min_7cf53 : cbS yJ9_min_7cf53 cJ9_min_7cf53 2 (some .int) 2 := ⟨mt_J9_min_7cf53, mz_J9, mc_J9_min_7cf53, by decide +kernel, by decide +kernel, by decide +kernel⟩
theorem cb_J7_fill_53178 : cbS yJ7_fill_53178 cJ7_fill_53178 4 (none) 2 := ⟨mt_J7_fill_53178, mz_J7, mc_J7_fill_53178, by decide +kernel, by decide +kernel, by decide +kernel⟩
theorem inb_lt {i : Int32} {n : Nat} (h : inb i n = true) : ix i < n := by
  simp only [inb, Bool.and_eq_true, decide_eq_true_eq] at h
  exact h.2
theorem wd_eq {G : GG} {A : Nat → Prop} {H0 H : Heap} {ws ws1 : va_W} {locs : List Loc} (h : ws = ws1) (hW : Wd G A H0 H ws locs) : Wd G A H0 H ws1 locs := h ▸ hW
theorem sh_row {G : GG} {n m : Nat} {a : Nat → Nat} {o : Nat} {w : Sh} {j : Nat} (h : j < n) : (bSh G n m a o w)[3 + j]? = some (a (o + 3 + j), eI G m (sh_places w j)) := by
  rw [Nat.add_comm 3 j]
  show ((List.range n).map (fun j => (a (o + 3 + j), eI G m (sh_places w j))))[j]? = _
  rw [List.getElem?_map, List.getElem?_range h]
  rfl
theorem sh_put {G : GG} {n m : Nat} {a : Nat → Nat} {o : Nat} {w : Sh} {j : Nat} (h : j < n) (f : Ar) : (bSh G n m a o w).set (3 + j) (a (o + 3 + j), eI G m f) = bSh G n m a o (sh_set_places w (updA (sh_places w) j f)) := by
  apply List.ext_getElem?
  intro i
  rw [List.getElem?_set]
  by_cases hi : 3 + j = i
  · subst hi
    rw [if_pos rfl, if_pos (List.getElem?_eq_some_iff.mp (sh_row (G := G) (m := m) (a := a) (o := o) (w := w) h)).1, sh_row h]
    show some (a (o + 3 + j), eI G m f) = some (a (o + 3 + j), eI G m (updA (sh_places w) j f j))
    rw [show updA (sh_places w) j f j = f from if_pos rfl]
  · rw [if_neg hi]
    match i, hi with
    | 0, _ => rfl
    | 1, _ => rfl
    | 2, _ => rfl
    | i + 3, hi =>
      show ((List.range n).map (fun j => (a (o + 3 + j), eI G m (sh_places w j))))[i]? = ((List.range n).map (fun i => (a (o + 3 + i), eI G m (updA (sh_places w) j f i))))[i]?
      rw [List.getElem?_map, List.getElem?_map]
      by_cases hin : i < n
      · rw [List.getElem?_range hin]
        have : i ≠ j := by omega
        simp [updA, this]
      · rw [List.getElem?_eq_none (by rw [List.length_range]; omega)]
        rfl
