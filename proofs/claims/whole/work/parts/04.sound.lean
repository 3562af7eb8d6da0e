/-! THE ABSTRACT MACHINE IS TRUE OF THE REAL ONE: what a step of the code asks, kind by kind -/
-- TABLES OF THE METHODS, printed
def mY : Nat → MethodName := fun m => match m with
  | 0 => yX0_clear
  | 1 => yX0_copyFrom
  | 2 => yX0_addInstrument
  | 3 => yX0_addBar
  | 4 => yX0_toldSet
  | 5 => yX0_addSeat
  | 6 => yX0_addGap
  | 7 => yX0_hasAllItNames
  | 8 => yX0_seatAll
  | 9 => yX1_lookAround
  | 10 => yX1_comeAnyway
  | 11 => yX1_comeAfter
  | 12 => yJ6_bitCount_0f7a4
  | 13 => yX1_playAll
  | 14 => yX2_append
  | 15 => yX2_numbersBehind
  | 16 => yX2_letterAt
  | 17 => yX2_isFigure
  | 18 => yX2_figuresAt
  | 19 => yX2_numberAt
  | 20 => yX2_endOfItem
  | 21 => yX2_takeItem
  | 22 => yX2_readAll
  | 23 => yJ7_fill_53178
  | 24 => yX3_begin
  | 25 => yX3_changesToTrial
  | 26 => yX3_soundsAlike
  | 27 => yX4_swapSeats
  | 28 => yX3_goToNextSeating
  | 29 => yX3_lookAtAll
  | 30 => yX4_settle
  | 31 => yX4_layText
  | 32 => yX4_init
  | 33 => yX4_write
  | 34 => yX4_wipe
  | 35 => yX4_fault
  | 36 => yX4_lay
  | 37 => yX4_isInstrument
  | 38 => yX4_seatOf
  | 39 => yX4_instrument
  | 40 => yX4_seat
  | 41 => yX4_isBar
  | 42 => yX4_asked
  | 43 => yX4_plays
  | 44 => yX4_missingIn
  | 45 => yX4_missing
  | 46 => yX4_first
  | 47 => yX4_notes
  | 48 => yX4_remember
  | 49 => yX4_change
  | 50 => yX4_priceOf
  | 51 => yX4_bribe
  | 52 => yX4_undo
  | 53 => yX4_surveyed
  | 54 => yX4_best
  | 55 => yX4_changes
  | 56 => yX4_help
  | 57 => yX4_bribes
  | 58 => yX4_rests
  | 59 => yX4_silence
  | 60 => yX4_alike
  | 61 => yX4_inLowestTerms
  | 62 => yX4_odds
  | 63 => yX4_atLeast
  | 64 => yX4_heard
  | 65 => yX4_forget
  | 66 => yX4_agreesWithHeard
  | 67 => yX4_kinds
  | 68 => yX4_hall
  | 69 => yX4_draw
  | 70 => yX4_tour
  | 71 => yX4_keep
  | 72 => yX4_back
  | 73 => yX4_count
  | 74 => yX5_begins
  | 75 => yX5_adds
  | 76 => yX5_sits
  | 77 => yX5_lays
  | 78 => yX5_init
  | 79 => yX5_in
  | 80 => yX5_isOne
  | 81 => yX5_isBar
  | 82 => yX5_ones
  | 83 => yX5_write
  | 84 => yX5_wipe
  | 85 => yX5_letterAt
  | 86 => yX5_isFigure
  | 87 => yX5_number
  | 88 => yX5_readsItem
  | 89 => yX5_reads
  | 90 => yX5_fault
  | 91 => yX5_lay
  | 92 => yX5_asItIs
  | 93 => yX5_wants
  | 94 => yX5_askedIn
  | 95 => yX5_goes
  | 96 => yX5_seatOf
  | 97 => yX5_instrument
  | 98 => yX5_seat
  | 99 => yX5_asked
  | 100 => yX5_plays
  | 101 => yX5_missing
  | 102 => yX5_first
  | 103 => yX5_notes
  | 104 => yX5_keeps
  | 105 => yX5_change
  | 106 => yX5_costOf
  | 107 => yX5_bribe
  | 108 => yX5_undo
  | 109 => yX5_firstSeating
  | 110 => yX5_swaps
  | 111 => yX5_nextSeating
  | 112 => yX5_best
  | 113 => yX5_far
  | 114 => yX5_changes
  | 115 => yX5_help
  | 116 => yX5_bribes
  | 117 => yX5_rests
  | 118 => yX5_silence
  | 119 => yX5_alike
  | 120 => yX5_share
  | 121 => yX5_odds
  | 122 => yX5_atLeast
  | 123 => yX5_heard
  | 124 => yX5_forget
  | 125 => yX5_kinds
  | 126 => yX5_hall
  | 127 => yX5_tour
  | 128 => yX5_keep
  | 129 => yX5_back
  | 130 => yX5_count
  | 131 => x
  | _ => x
def mB : Nat → ByteArray := fun m => match m with
  | 0 => cX0_clear
  | 1 => cX0_copyFrom
  | 2 => cX0_addInstrument
  | 3 => cX0_addBar
  | 4 => cX0_toldSet
  | 5 => cX0_addSeat
  | 6 => cX0_addGap
  | 7 => cX0_hasAllItNames
  | 8 => cX0_seatAll
  | 9 => cX1_lookAround
  | 10 => cX1_comeAnyway
  | 11 => cX1_comeAfter
  | 12 => cJ6_bitCount_0f7a4
  | 13 => cX1_playAll
  | 14 => cX2_append
  | 15 => cX2_numbersBehind
  | 16 => cX2_letterAt
  | 17 => cX2_isFigure
  | 18 => cX2_figuresAt
  | 19 => cX2_numberAt
  | 20 => cX2_endOfItem
  | 21 => cX2_takeItem
  | 22 => cX2_readAll
  | 23 => cJ7_fill_53178
  | 24 => cX3_begin
  | 25 => cX3_changesToTrial
  | 26 => cX3_soundsAlike
  | 27 => cX4_swapSeats
  | 28 => cX3_goToNextSeating
  | 29 => cX3_lookAtAll
  | 30 => cX4_settle
  | 31 => cX4_layText
  | 32 => cX4_init
  | 33 => cX4_write
  | 34 => cX4_wipe
  | 35 => cX4_fault
  | 36 => cX4_lay
  | 37 => cX4_isInstrument
  | 38 => cX4_seatOf
  | 39 => cX4_instrument
  | 40 => cX4_seat
  | 41 => cX4_isBar
  | 42 => cX4_asked
  | 43 => cX4_plays
  | 44 => cX4_missingIn
  | 45 => cX4_missing
  | 46 => cX4_first
  | 47 => cX4_notes
  | 48 => cX4_remember
  | 49 => cX4_change
  | 50 => cX4_priceOf
  | 51 => cX4_bribe
  | 52 => cX4_undo
  | 53 => cX4_surveyed
  | 54 => cX4_best
  | 55 => cX4_changes
  | 56 => cX4_help
  | 57 => cX4_bribes
  | 58 => cX4_rests
  | 59 => cX4_silence
  | 60 => cX4_alike
  | 61 => cX4_inLowestTerms
  | 62 => cX4_odds
  | 63 => cX4_atLeast
  | 64 => cX4_heard
  | 65 => cX4_forget
  | 66 => cX4_agreesWithHeard
  | 67 => cX4_kinds
  | 68 => cX4_hall
  | 69 => cX4_draw
  | 70 => cX4_tour
  | 71 => cX4_keep
  | 72 => cX4_back
  | 73 => cX4_count
  | 74 => cX5_begins
  | 75 => cX5_adds
  | 76 => cX5_sits
  | 77 => cX5_lays
  | 78 => cX5_init
  | 79 => cX5_in
  | 80 => cX5_isOne
  | 81 => cX5_isBar
  | 82 => cX5_ones
  | 83 => cX5_write
  | 84 => cX5_wipe
  | 85 => cX5_letterAt
  | 86 => cX5_isFigure
  | 87 => cX5_number
  | 88 => cX5_readsItem
  | 89 => cX5_reads
  | 90 => cX5_fault
  | 91 => cX5_lay
  | 92 => cX5_asItIs
  | 93 => cX5_wants
  | 94 => cX5_askedIn
  | 95 => cX5_goes
  | 96 => cX5_seatOf
  | 97 => cX5_instrument
  | 98 => cX5_seat
  | 99 => cX5_asked
  | 100 => cX5_plays
  | 101 => cX5_missing
  | 102 => cX5_first
  | 103 => cX5_notes
  | 104 => cX5_keeps
  | 105 => cX5_change
  | 106 => cX5_costOf
  | 107 => cX5_bribe
  | 108 => cX5_undo
  | 109 => cX5_firstSeating
  | 110 => cX5_swaps
  | 111 => cX5_nextSeating
  | 112 => cX5_best
  | 113 => cX5_far
  | 114 => cX5_changes
  | 115 => cX5_help
  | 116 => cX5_bribes
  | 117 => cX5_rests
  | 118 => cX5_silence
  | 119 => cX5_alike
  | 120 => cX5_share
  | 121 => cX5_odds
  | 122 => cX5_atLeast
  | 123 => cX5_heard
  | 124 => cX5_forget
  | 125 => cX5_kinds
  | 126 => cX5_hall
  | 127 => cX5_tour
  | 128 => cX5_keep
  | 129 => cX5_back
  | 130 => cX5_count
  | 131 => code
  | _ => code
def mRet : Nat → Option FieldType := fun m => match m with
  | 0 => none
  | 1 => none
  | 2 => (some .boolean)
  | 3 => (some .boolean)
  | 4 => (some .int)
  | 5 => (some .boolean)
  | 6 => (some .boolean)
  | 7 => (some .boolean)
  | 8 => none
  | 9 => none
  | 10 => (some .int)
  | 11 => (some .int)
  | 12 => (some .int)
  | 13 => none
  | 14 => (some .boolean)
  | 15 => (some .int)
  | 16 => (some .char)
  | 17 => (some .boolean)
  | 18 => (some .int)
  | 19 => (some .int)
  | 20 => (some .int)
  | 21 => (some .boolean)
  | 22 => (some .int)
  | 23 => none
  | 24 => none
  | 25 => (some .int)
  | 26 => (some .boolean)
  | 27 => none
  | 28 => none
  | 29 => none
  | 30 => none
  | 31 => (some .boolean)
  | 32 => none
  | 33 => (some .int)
  | 34 => (some .int)
  | 35 => (some .int)
  | 36 => (some .int)
  | 37 => (some .boolean)
  | 38 => (some .int)
  | 39 => (some .int)
  | 40 => (some .int)
  | 41 => (some .boolean)
  | 42 => (some .int)
  | 43 => (some .int)
  | 44 => (some .int)
  | 45 => (some .int)
  | 46 => (some .int)
  | 47 => (some .int)
  | 48 => none
  | 49 => (some .int)
  | 50 => (some .int)
  | 51 => (some .int)
  | 52 => (some .int)
  | 53 => (some (.object "SecondOboe$Survey"))
  | 54 => (some .int)
  | 55 => (some .int)
  | 56 => (some .int)
  | 57 => (some .int)
  | 58 => (some .int)
  | 59 => (some .int)
  | 60 => (some .int)
  | 61 => (some .int)
  | 62 => (some .int)
  | 63 => (some .int)
  | 64 => (some .int)
  | 65 => (some .int)
  | 66 => (some .boolean)
  | 67 => (some .int)
  | 68 => (some .int)
  | 69 => (some .int)
  | 70 => (some .int)
  | 71 => (some .int)
  | 72 => (some .int)
  | 73 => (some .int)
  | 74 => none
  | 75 => none
  | 76 => none
  | 77 => none
  | 78 => none
  | 79 => (some .boolean)
  | 80 => (some .boolean)
  | 81 => (some .boolean)
  | 82 => (some .int)
  | 83 => (some .int)
  | 84 => (some .int)
  | 85 => (some .int)
  | 86 => (some .boolean)
  | 87 => (some .int)
  | 88 => (some .boolean)
  | 89 => (some .int)
  | 90 => (some .int)
  | 91 => (some .int)
  | 92 => none
  | 93 => (some .boolean)
  | 94 => (some .int)
  | 95 => (some .int)
  | 96 => (some .int)
  | 97 => (some .int)
  | 98 => (some .int)
  | 99 => (some .int)
  | 100 => (some .int)
  | 101 => (some .int)
  | 102 => (some .int)
  | 103 => (some .int)
  | 104 => none
  | 105 => (some .int)
  | 106 => (some .int)
  | 107 => (some .int)
  | 108 => (some .int)
  | 109 => none
  | 110 => none
  | 111 => (some .boolean)
  | 112 => (some .int)
  | 113 => (some .int)
  | 114 => (some .int)
  | 115 => (some .int)
  | 116 => (some .int)
  | 117 => (some .int)
  | 118 => (some .int)
  | 119 => (some .int)
  | 120 => (some .int)
  | 121 => (some .int)
  | 122 => (some .int)
  | 123 => (some .int)
  | 124 => (some .int)
  | 125 => (some .int)
  | 126 => (some .int)
  | 127 => (some .int)
  | 128 => (some .int)
  | 129 => (some .int)
  | 130 => (some .int)
  | 131 => (some .boolean)
  | _ => none
def mRkL : List Nat := [0, 0, 1, 1, 1, 1, 1, 1, 0, 0, 1, 1, 1, 0, 1, 1, 1, 1, 1, 1, 1, 1, 1, 0, 0, 1, 1, 0, 0, 0, 0, 1, 0, 1, 1, 1, 1, 1, 1, 1, 1, 1, 1, 1, 1, 1, 1, 1, 0, 1, 1, 1, 1, 2, 1, 1, 1, 1, 1, 1, 1, 1, 1, 1, 1, 1, 1, 1, 1, 1, 1, 1, 1, 1, 0, 0, 0, 0, 0, 1, 1, 1, 1, 1, 1, 1, 1, 1, 1, 1, 1, 1, 0, 1, 1, 1, 1, 1, 1, 1, 1, 1, 1, 1, 0, 1, 1, 1, 1, 0, 0, 1, 1, 1, 1, 1, 1, 1, 1, 1, 1, 1, 1, 1, 1, 1, 1, 1, 1, 1, 1, 1]
def mRk (m : Nat) : Nat := mRkL.getD m 0
def mFrL : List Nat := [0, 1, 0, 0, 0, 1, 0, 0, 1, 0, 0, 0, 0, 1, 0, 0, 0, 0, 1, 1, 2, 2, 3, 0, 1, 0, 0, 0, 1, 2, 2, 4, 7, 1, 0, 4, 5, 0, 0, 1, 1, 0, 1, 1, 0, 1, 1, 0, 1, 3, 0, 3, 3, 3, 4, 4, 2, 2, 1, 2, 4, 0, 4, 4, 1, 0, 0, 2, 2, 0, 2, 1, 3, 1, 0, 0, 0, 1, 2, 0, 1, 1, 0, 1, 0, 0, 1, 2, 3, 4, 5, 5, 0, 0, 0, 1, 0, 2, 2, 2, 2, 3, 2, 2, 0, 2, 0, 2, 0, 0, 0, 1, 2, 1, 2, 2, 2, 2, 2, 2, 2, 3, 3, 2, 0, 2, 2, 2, 0, 0, 1, 6]
def mFr (m : Nat) : Nat := mFrL.getD m 0
def mLoL : List Nat := [0, 26, 0, 0, 0, 22, 0, 0, 26, 0, 0, 0, 0, 27, 0, 0, 0, 0, 21, 21, 44, 43, 70, 0, 23, 0, 0, 0, 23, 56, 56, 92, 120, 21, 0, 92, 112, 0, 0, 22, 21, 0, 21, 21, 0, 21, 21, 0, 26, 76, 0, 76, 76, 82, 102, 102, 56, 56, 21, 56, 102, 0, 102, 102, 21, 0, 0, 56, 56, 0, 56, 26, 76, 20, 0, 0, 0, 23, 44, 0, 22, 22, 0, 22, 0, 0, 22, 42, 66, 90, 111, 111, 0, 0, 0, 24, 0, 49, 43, 43, 49, 70, 49, 49, 0, 43, 0, 43, 0, 0, 0, 23, 49, 23, 49, 49, 49, 49, 49, 49, 49, 77, 77, 43, 0, 49, 49, 49, 0, 0, 22, 133]
def mLo (m : Nat) : Nat := mLoL.getD m 0
def mLgL : List (List Nat) := [[], [], [], [], [], [], [], [], [], [], [], [], [], [], [], [], [], [], [], [], [], [], [], [], [], [], [], [], [], [], [], [], [], [], [], [], [], [], [], [], [], [], [], [], [], [], [], [], [], [], [], [], [], [], [], [], [], [], [], [], [], [], [], [], [], [], [], [], [], [2], [], [], [], [], [], [], [], [], [], [], [], [], [], [], [], [], [], [], [], [], [], [], [], [], [], [], [], [], [], [], [], [], [], [], [], [], [], [], [], [], [], [], [], [], [], [], [], [], [], [], [], [], [], [], [], [], [], [7], [], [], [], []]
def mLg (m : Nat) : List Nat := mLgL.getD m []
def refL : List (List Bool) := [[true, true, true, false, true, false, true, false, false], [true, true, false, false], [true, false, true, true], [false, false, false, false, false, false, true, true, true, true, true], [true, true, true, false, true, true, true, true, true, false, true, true, true, false, true, true, false], [true, false, true, true, true, true, false, true, false, true, false, false, true, true, true, true, false, false, false, false, true]]
def isR (c k : Nat) : Bool := (refL.getD c []).getD k false
def nfL : List Nat := [9, 4, 4, 11, 17, 21]
def nf (c : Nat) : Nat := nfL.getD c 0
def mNL : List Nat := [1, 2, 4, 3, 1, 2, 2, 1, 2, 4, 3, 4, 1, 6, 2, 1, 2, 1, 2, 3, 2, 2, 1, 2, 3, 2, 3, 3, 2, 5, 1, 1, 1, 2, 1, 1, 1, 2, 2, 3, 2, 2, 2, 2, 2, 2, 1, 2, 2, 3, 2, 2, 1, 1, 2, 1, 2, 2, 1, 2, 1, 3, 2, 3, 4, 1, 3, 2, 2, 2, 4, 1, 1, 2, 1, 4, 2, 1, 1, 3, 2, 2, 1, 2, 1, 2, 1, 3, 2, 1, 1, 1, 1, 4, 2, 1, 2, 3, 2, 2, 2, 2, 1, 2, 1, 3, 2, 2, 1, 1, 3, 1, 2, 1, 1, 2, 2, 1, 2, 1, 3, 2, 3, 4, 1, 2, 2, 4, 1, 1, 2, 1]
def mN (m : Nat) : Nat := mNL.getD m 0
def lawN : Nat := 131

def gwl : List Cond := lw_tbl.filter goodWord
theorem gw_in {w : Cond} (h : w ∈ lw_tbl) (g : goodWord w = true) : w ∈ gwl := List.mem_filter.mpr ⟨h, g⟩
theorem gw_good {ws : List Cond} (h : ∀ w ∈ ws, w ∈ gwl) : GoodIn gwl ws := fun w hw => ⟨h w hw, good_of_word (List.mem_filter.mp (h w hw)).2⟩
def mW (m : Nat) : List Cond := Cond.code (mY m) (mB m) (nlm m) (mRet m) :: gwl
def mRm (m : Nat) : Room := { frames := mFr m, cells := 0, slots := 0, locals := mLo m }
def nestW : Cond := .methodLinkNest "SecondOboe$Survey" 109 ⟨"SecondOboe", "swapSeats", "([III)V"⟩ "SecondOboe"
-- values
def cv (adr : Nat → Nat) : AV → Option Value
  | .inl x => some (.int (Int32.ofInt x))
  | .inr (.inl p) => some (.ref (adr p))
  | .inr (.inr (.inl x)) => some (.long (Int64.ofInt x))
  | .inr (.inr (.inr _)) => none
def cvD (adr : Nat → Nat) : AV → Value
  | .inl x => .int (Int32.ofInt x)
  | .inr (.inl p) => .ref (adr p)
  | .inr (.inr (.inl x)) => .long (Int64.ofInt x)
  | .inr (.inr (.inr _)) => .null
def stk (adr : Nat → Nat) (st : List AV) : List Value := st.map (cvD adr)
def lmap (adr : Nat → Nat) : Nat → List AV → List (Nat × Value)
  | _, [] => []
  | i, v :: r => match cv adr v with
    | some w => (i, w) :: lmap adr (i + 1) r
    | none => lmap adr (i + 1) r
theorem lmap_mem (adr : Nat → Nat) : ∀ (ls : List AV) (o i : Nat) (w : Value), (i, w) ∈ lmap adr o ls ↔ ∃ v, o ≤ i ∧ ls[i - o]? = some v ∧ cv adr v = some w
  | [], o, i, w => by simp [lmap]
  | v :: r, o, i, w => by
    have ih := lmap_mem adr r (o + 1) i w
    have key : (∃ v', o ≤ i ∧ (v :: r)[i - o]? = some v' ∧ cv adr v' = some w) ↔ (i = o ∧ cv adr v = some w) ∨ ∃ v', o + 1 ≤ i ∧ r[i - (o + 1)]? = some v' ∧ cv adr v' = some w := by
      constructor
      · rintro ⟨v', h1, h2, h3⟩
        rcases Nat.eq_or_lt_of_le h1 with e | e
        · subst e
          rw [Nat.sub_self] at h2
          cases h2
          exact Or.inl ⟨rfl, h3⟩
        · refine Or.inr ⟨v', e, ?_, h3⟩
          rw [show i - o = (i - (o + 1)) + 1 by omega] at h2
          exact h2
      · rintro (⟨rfl, h⟩ | ⟨v', h1, h2, h3⟩)
        · exact ⟨v, Nat.le_refl _, by rw [Nat.sub_self]; rfl, h⟩
        · refine ⟨v', by omega, ?_, h3⟩
          rw [show i - o = (i - (o + 1)) + 1 by omega]
          exact h2
    have e : lmap adr o (v :: r) = match cv adr v with
      | some w => (o, w) :: lmap adr (o + 1) r
      | none => lmap adr (o + 1) r := rfl
    rw [key, ← ih, e]
    cases hc : cv adr v with
    | none => simp
    | some w' =>
      simp only [List.mem_cons, Prod.mk.injEq, Option.some.injEq]
      constructor
      · rintro (⟨a, b⟩ | h)
        · exact Or.inl ⟨a, b.symm⟩
        · exact Or.inr h
      · rintro (⟨a, b⟩ | h)
        · exact Or.inl ⟨a, b.symm⟩
        · exact Or.inr h
theorem lmap_at {adr : Nat → Nat} {ls : List AV} {i : Nat} {w : Value} : (i, w) ∈ lmap adr 0 ls ↔ ∃ v, ls[i]? = some v ∧ cv adr v = some w := by
  rw [lmap_mem]
  simp
theorem lv_mono {lsA : Array Slot} {n : Nat} {l l' : List (Nat × Value)} (h : lv_has lsA n l) (hm : ∀ q ∈ l', q ∈ l) : lv_has lsA n l' := ⟨h.1, h.2.1, fun q hq => h.2.2 q (hm q hq)⟩
-- cells
def cE (adr : Nat → Nat) (cI cC cG : ClassId) (σ : Sg) (p : Nat) : va_E :=
  if kd p = 10 then .inl (cI, ln p, .inl (fun j => Int32.ofInt (σ p j)))
  else if kd p = 11 then .inl (cC, ln p, .inl (fun j => Int32.ofInt (σ p j)))
  else if kd p = 12 then .inl (cG, ln p, .inr (.inr (.inr (.inr (fun j => some (adr (lk p j)))))))
  else .inr (kd p, (List.range (nf (kd p))).map (fun k => if isR (kd p) k = true then Value.ref (adr (lk p k)) else Value.int (Int32.ofInt (σ p k))))
def cs (N : Nat) (adr : Nat → Nat) (cI cC cG : ClassId) (σ : Sg) : va_W := (List.range N).map (fun p => (adr p, cE adr cI cC cG σ p))
def tys3 (cI cC cG : ClassId) : List (ClassId × FieldType) := [(cI, .int), (cC, .char), (cG, .array .int)]
theorem cs_at {N : Nat} {adr : Nat → Nat} {cI cC cG : ClassId} {σ : Sg} {p : Nat} (h : p < N) : (cs N adr cI cC cG σ)[p]? = some (adr p, cE adr cI cC cG σ p) := by
  unfold cs
  rw [List.getElem?_map, List.getElem?_range h]
  rfl
theorem cs_of {N : Nat} {adr : Nat → Nat} {cI cC cG : ClassId} {σ : Sg} {p : Nat} {q : Nat × va_E} (h : (cs N adr cI cC cG σ)[p]? = some q) : p < N ∧ q = (adr p, cE adr cI cC cG σ p) := by
  rcases Nat.lt_or_ge p N with g | g
  · rw [cs_at g] at h
    exact ⟨g, (Option.some.inj h).symm⟩
  · have : (cs N adr cI cC cG σ)[p]? = none := List.getElem?_eq_none (by unfold cs; rw [List.length_map, List.length_range]; exact g)
    rw [this] at h
    cases h
theorem cE_i {adr : Nat → Nat} {cI cC cG : ClassId} {σ : Sg} {p : Nat} (h : kd p = 10) : cE adr cI cC cG σ p = .inl (cI, ln p, .inl (fun j => Int32.ofInt (σ p j))) := if_pos h
theorem cE_c {adr : Nat → Nat} {cI cC cG : ClassId} {σ : Sg} {p : Nat} (h : kd p = 11) : cE adr cI cC cG σ p = .inl (cC, ln p, .inl (fun j => Int32.ofInt (σ p j))) := by
  unfold cE
  rw [if_neg (by omega), if_pos h]
theorem cE_g {adr : Nat → Nat} {cI cC cG : ClassId} {σ : Sg} {p : Nat} (h : kd p = 12) : cE adr cI cC cG σ p = .inl (cG, ln p, .inr (.inr (.inr (.inr (fun j => some (adr (lk p j))))))) := by
  unfold cE
  rw [if_neg (by omega), if_neg (by omega), if_pos h]
def fsO (adr : Nat → Nat) (σ : Sg) (p c : Nat) : List Value := (List.range (nf c)).map (fun k => if isR c k = true then Value.ref (adr (lk p k)) else Value.int (Int32.ofInt (σ p k)))
theorem cE_o {adr : Nat → Nat} {cI cC cG : ClassId} {σ : Sg} {p c : Nat} (h : kd p = c) (hc : c < 10) : cE adr cI cC cG σ p = .inr (c, fsO adr σ p c) := by
  unfold cE
  subst h
  rw [if_neg (by omega), if_neg (by omega), if_neg (by omega)]
  rfl
theorem fsO_at {adr : Nat → Nat} {σ : Sg} {p c k : Nat} (h : k < nf c) : (fsO adr σ p c)[k]? = some (if isR c k = true then Value.ref (adr (lk p k)) else Value.int (Int32.ofInt (σ p k))) := by
  unfold fsO
  rw [List.getElem?_map, List.getElem?_range h]
  rfl
theorem fsO_len {adr : Nat → Nat} {σ : Sg} {p c : Nat} : (fsO adr σ p c).length = nf c := by
  unfold fsO
  rw [List.length_map, List.length_range]
theorem cE_same {adr : Nat → Nat} {cI cC cG : ClassId} {σ σ' : Sg} {p : Nat} (h : σ' p = σ p) : cE adr cI cC cG σ' p = cE adr cI cC cG σ p := by
  unfold cE
  rw [h]
theorem cs_set {N : Nat} {adr : Nat → Nat} {cI cC cG : ClassId} {σ σ' : Sg} {p : Nat} {e : va_E} (hp : p < N) (h : ∀ q, q ≠ p → σ' q = σ q) (he : e = cE adr cI cC cG σ' p) : (cs N adr cI cC cG σ).set p (adr p, e) = cs N adr cI cC cG σ' := by
  have hl : p < (cs N adr cI cC cG σ).length := by unfold cs; rw [List.length_map, List.length_range]; exact hp
  apply List.ext_getElem?
  intro i
  by_cases hi : i = p
  · subst hi
    rw [List.getElem?_set_self hl, cs_at hp, he]
  · rw [List.getElem?_set_ne (Ne.symm hi)]
    rcases Nat.lt_or_ge i N with g | g
    · rw [cs_at g, cs_at g, cE_same (h i hi)]
    · have l1 : ∀ τ : Sg, (cs N adr cI cC cG τ)[i]? = none := fun τ => List.getElem?_eq_none (by unfold cs; rw [List.length_map, List.length_range]; exact g)
      rw [l1, l1]
theorem cs_D {N : Nat} {adr : Nat → Nat} {cI cC cG : ClassId} {σ : Sg} {A : Nat → Prop} (hi : ∀ i j, i < N → j < N → adr i = adr j → i = j) (hA : ∀ i, i < N → A (adr i)) : va_D A (cs N adr cI cC cG σ) := by
  refine ⟨fun i j p q h1 h2 h3 => ?_, fun k q h => ?_⟩
  · obtain ⟨a1, rfl⟩ := cs_of h1
    obtain ⟨a2, rfl⟩ := cs_of h2
    exact hi i j a1 a2 h3
  · obtain ⟨a1, rfl⟩ := cs_of h
    exact hA k a1
-- references that lead to cells that are there, or to the script
def lowA (N : Nat) : AV → Prop
  | .inr (.inl p) => p < N ∨ p = 99
  | _ => True
def low (N : Nat) (st : List AV) : Prop := ∀ v ∈ st, lowA N v
theorem low_t {N : Nat} {v : AV} {st : List AV} (h : low N (v :: st)) : low N st := fun w hw => h w (List.mem_cons_of_mem _ hw)
theorem low_h {N : Nat} {v : AV} {st : List AV} (h : low N (v :: st)) : lowA N v := h v List.mem_cons_self
theorem low_c {N : Nat} {v : AV} {st : List AV} (h1 : lowA N v) (h : low N st) : low N (v :: st) := List.forall_mem_cons.mpr ⟨h1, h⟩
theorem low_i {N : Nat} {x : Int} {st : List AV} (h : low N st) : low N (vI x :: st) := low_c trivial h
theorem low_l {N : Nat} {x : Int} {st : List AV} (h : low N st) : low N (vL x :: st) := low_c trivial h
theorem low_d {N n : Nat} {st : List AV} (h : low N st) : low N (st.drop n) := fun v hv => h v (List.mem_of_mem_drop hv)
theorem low_r {N n : Nat} {st : List AV} (h : low N st) : low N (st.take n).reverse := fun v hv => h v (List.mem_of_mem_take (List.mem_reverse.mp hv))
theorem low_p {N p c : Nat} {st : List AV} (h : low N (vR p :: st)) (hk : kd p = c) (hc : c < 99) : p < N := by
  rcases low_h h with q | q
  · exact q
  · exfalso
    rw [q] at hk
    have : kd 99 = 99 := by decide
    omega
theorem low_s {N k : Nat} {v : AV} {ls : List AV} (h : low N ls) (hv : lowA N v) : low N (ls.set k v) := fun w hw => by
  rcases List.mem_or_eq_of_mem_set hw with q | q
  · exact h w q
  · rw [q]; exact hv
-- numbers
theorem w_lt (x y : Int) : Int32.ofInt x < Int32.ofInt y ↔ wr x < wr y := Int32.lt_iff_toInt_lt
theorem w_le (x y : Int) : Int32.ofInt x ≤ Int32.ofInt y ↔ wr x ≤ wr y := Int32.le_iff_toInt_le
theorem w_eq (x y : Int) : Int32.ofInt x = Int32.ofInt y ↔ wr x = wr y := Int32.toInt_inj.symm
theorem w_0 : (0 : Int32) = Int32.ofInt 0 := by decide
theorem w_i0 : wr 0 = 0 := by decide
theorem w_lt0 (x : Int) : Int32.ofInt x < 0 ↔ wr x < 0 := by rw [w_0, w_lt, w_i0]
theorem w_0lt (x : Int) : 0 < Int32.ofInt x ↔ 0 < wr x := by rw [w_0, w_lt, w_i0]
theorem w_eq0 (x : Int) : Int32.ofInt x = 0 ↔ wr x = 0 := by rw [w_0, w_eq, w_i0]
theorem w_0le (x : Int) : 0 ≤ Int32.ofInt x ↔ ¬ wr x < 0 := by rw [w_0, w_le, w_i0]; omega
theorem w_le0 (x : Int) : Int32.ofInt x ≤ 0 ↔ ¬ 0 < wr x := by rw [w_0, w_le, w_i0]; omega
theorem w_rt (x : Int32) : Int32.ofInt x.toInt = x := Int32.ofInt_toInt x
theorem w_rtL (x : Int64) : Int64.ofInt x.toInt = x := Int64.ofInt_toInt x
theorem w_in {i : Int} {n : Nat} (h : 0 ≤ wr i ∧ wr i < n) : vp_in (Int32.ofInt i) n := vp_in_iff.mpr h
theorem w_cl {i : Int} (h : 0 ≤ wr i) : (Int32.ofInt i).toNatClampNeg = (wr i).toNat := rfl
