/-! THE STATE: ints, longs, rows of ints (bytes too), rows of longs, places; one type for the class and for the reference -/
abbrev ST : Type := (Nat → Int32) × (Nat → Int64) × (Nat → Nat → Int32) × (Nat → Nat → Int64) × (Nat → Nat)
def gI (u : ST) (k : Nat) : Int32 := u.1 k
def gJ (u : ST) (k : Nat) : Int64 := u.2.1 k
def gR (u : ST) (k : Nat) : Nat → Int32 := u.2.2.1 k
def gB (u : ST) (k : Nat) : Nat → Int64 := u.2.2.2.1 k
def gZ (u : ST) (k : Nat) : Nat := u.2.2.2.2 k
def sI (u : ST) (k : Nat) (v : Int32) : ST := (fun j => if j = k then v else u.1 j, u.2.1, u.2.2.1, u.2.2.2.1, u.2.2.2.2)
def sJ (u : ST) (k : Nat) (v : Int64) : ST := (u.1, fun j => if j = k then v else u.2.1 j, u.2.2.1, u.2.2.2.1, u.2.2.2.2)
def sR (u : ST) (k i : Nat) (v : Int32) : ST := (u.1, u.2.1, fun j => if j = k then upd (u.2.2.1 k) i v else u.2.2.1 j, u.2.2.2.1, u.2.2.2.2)
def sB (u : ST) (k i : Nat) (v : Int64) : ST := (u.1, u.2.1, u.2.2.1, fun j => if j = k then vp_updL (u.2.2.2.1 k) i v else u.2.2.2.1 j, u.2.2.2.2)
def sZ (u : ST) (k : Nat) (v : Nat) : ST := (u.1, u.2.1, u.2.2.1, u.2.2.2.1, fun j => if j = k then v else u.2.2.2.2 j)
theorem gI_sI (u : ST) (k j : Nat) (v : Int32) : gI (sI u k v) j = if j = k then v else gI u j := rfl
theorem gI_sJ (u : ST) (k j : Nat) (v : Int64) : gI (sJ u k v) j = gI u j := rfl
theorem gI_sR (u : ST) (k i j : Nat) (v : Int32) : gI (sR u k i v) j = gI u j := rfl
theorem gI_sB (u : ST) (k i j : Nat) (v : Int64) : gI (sB u k i v) j = gI u j := rfl
theorem gI_sZ (u : ST) (k j : Nat) (v : Nat) : gI (sZ u k v) j = gI u j := rfl
theorem gJ_sI (u : ST) (k j : Nat) (v : Int32) : gJ (sI u k v) j = gJ u j := rfl
theorem gJ_sJ (u : ST) (k j : Nat) (v : Int64) : gJ (sJ u k v) j = if j = k then v else gJ u j := rfl
theorem gJ_sR (u : ST) (k i j : Nat) (v : Int32) : gJ (sR u k i v) j = gJ u j := rfl
theorem gJ_sB (u : ST) (k i j : Nat) (v : Int64) : gJ (sB u k i v) j = gJ u j := rfl
theorem gJ_sZ (u : ST) (k j : Nat) (v : Nat) : gJ (sZ u k v) j = gJ u j := rfl
theorem gR_sI (u : ST) (k j : Nat) (v : Int32) : gR (sI u k v) j = gR u j := rfl
theorem gR_sJ (u : ST) (k j : Nat) (v : Int64) : gR (sJ u k v) j = gR u j := rfl
theorem gR_sR (u : ST) (k i j : Nat) (v : Int32) : gR (sR u k i v) j = if j = k then upd (gR u k) i v else gR u j := rfl
theorem gR_sB (u : ST) (k i j : Nat) (v : Int64) : gR (sB u k i v) j = gR u j := rfl
theorem gR_sZ (u : ST) (k j : Nat) (v : Nat) : gR (sZ u k v) j = gR u j := rfl
theorem gB_sI (u : ST) (k j : Nat) (v : Int32) : gB (sI u k v) j = gB u j := rfl
theorem gB_sJ (u : ST) (k j : Nat) (v : Int64) : gB (sJ u k v) j = gB u j := rfl
theorem gB_sR (u : ST) (k i j : Nat) (v : Int32) : gB (sR u k i v) j = gB u j := rfl
theorem gB_sB (u : ST) (k i j : Nat) (v : Int64) : gB (sB u k i v) j = if j = k then vp_updL (gB u k) i v else gB u j := rfl
theorem gB_sZ (u : ST) (k j : Nat) (v : Nat) : gB (sZ u k v) j = gB u j := rfl
theorem gZ_sI (u : ST) (k j : Nat) (v : Int32) : gZ (sI u k v) j = gZ u j := rfl
theorem gZ_sJ (u : ST) (k j : Nat) (v : Int64) : gZ (sJ u k v) j = gZ u j := rfl
theorem gZ_sR (u : ST) (k i j : Nat) (v : Int32) : gZ (sR u k i v) j = gZ u j := rfl
theorem gZ_sB (u : ST) (k i j : Nat) (v : Int64) : gZ (sB u k i v) j = gZ u j := rfl
theorem gZ_sZ (u : ST) (k j : Nat) (v : Nat) : gZ (sZ u k v) j = if j = k then v else gZ u j := rfl
/-! THE CLASS's WORLD. Places of addresses: 0 RuleTables, 1 Tape, 2+t Table t, 4+n Names n (2t conditions, 2t+1 actions), 8 Way, 9 Tree, 10 Code, 11+j rows of longs (0 words, 1+n names), 16 the lists, 17+k rows of ints (3t yes, 3t+1 no, 3t+2 action; 6 7 8 the way's; 9 sizes, 10 blanks, 11 differences, 12 heads, 13 otherwise, 14 bytes, 15 places, 16+d list d). -/
abbrev aT (ad : Nat → Nat) (t : Nat) : Nat := ad (2 + t)
abbrev aN (ad : Nat → Nat) (n : Nat) : Nat := ad (4 + n)
abbrev aL (ad : Nat → Nat) (j : Nat) : Nat := ad (11 + j)
abbrev aR (ad : Nat → Nat) (k : Nat) : Nat := ad (17 + k)
def lenL (j : Nat) : Nat := if j = 0 then 1000 else if j = 1 ∨ j = 3 then 16 else 64
def lenR (k : Nat) : Nat := if k < 9 then 256 else if k = 9 then 17 else if k < 12 then 16 else if k = 14 then 2000 else if k < 16 then 1000 else 256
/-- the classes of arrays: bytes, ints, longs, rows of rows -/
abbrev CY : Type := ClassId × ClassId × ClassId × ClassId
abbrev tyS (cy : CY) : List (ClassId × FieldType) := [(cy.1, .byte), (cy.2.1, .int), (cy.2.2.1, .long), (cy.2.2.2, .array .int)]
abbrev fRT (ad : Nat → Nat) (u : ST) : List Value := [.ref (ad 1), .ref (aT ad (gZ u 0)), .ref (aT ad (gZ u 1)), .int (gI u 0), .int (gI u 1), .int (gI u 2), .int (gI u 3), .int (gI u 4), .ref (ad 8), .ref (ad 9), .ref (ad 10)]
abbrev fTP (ad : Nat → Nat) (u : ST) : List Value := [.ref (aL ad 0), .int (gI u 5), .int (gI u 6), .int (gI u 7), .long (gJ u 0), .int (gI u 8), .int (gI u 9)]
abbrev fTB (ad : Nat → Nat) (u : ST) (t : Nat) : List Value := [.ref (aN ad (2 * t)), .ref (aN ad (2 * t + 1)), .ref (aR ad (3 * t)), .ref (aR ad (3 * t + 1)), .ref (aR ad (3 * t + 2)), .int (gI u (10 + t))]
abbrev fNM (ad : Nat → Nat) (u : ST) (n : Nat) : List Value := [.ref (aL ad (1 + n)), .int (gI u (12 + n))]
abbrev fWY (ad : Nat → Nat) (u : ST) : List Value := [.ref (aR ad 6), .ref (aR ad 7), .ref (aR ad 8), .int (gI u 16), .ref (ad 16), .ref (aR ad 9), .ref (aR ad 10), .ref (aR ad 11)]
abbrev fTR (ad : Nat → Nat) (u : ST) : List Value := [.ref (aR ad 12), .ref (aR ad 13), .int (gI u 17), .int (gI u 18), .int (gI u 19), .long (gJ u 1), .int (gI u 20)]
abbrev fCD (ad : Nat → Nat) (u : ST) : List Value := [.ref (aR ad 14), .ref (aR ad 15), .int (gI u 21)]
abbrev eL (cy : CY) (u : ST) (j : Nat) : va_E := .inl (cy.2.2.1, lenL j, .inr (.inl (gB u j)))
abbrev eR (cy : CY) (u : ST) (k : Nat) : va_E := .inl (cy.2.1, lenR k, .inl (gR u k))
abbrev eO (cy : CY) (ad : Nat → Nat) : va_E := .inl (cy.2.2.2, 17, .inr (.inr (.inr (.inr (fun d => some (aR ad (16 + d)))))))
def cW (cy : CY) (ad : Nat → Nat) (u : ST) : va_W := [(ad 0, .inr (6, fRT ad u)), (ad 1, .inr (3, fTP ad u)), (aT ad 0, .inr (2, fTB ad u 0)), (aT ad 1, .inr (2, fTB ad u 1)), (aN ad 0, .inr (1, fNM ad u 0)), (aN ad 1, .inr (1, fNM ad u 1)), (aN ad 2, .inr (1, fNM ad u 2)), (aN ad 3, .inr (1, fNM ad u 3)), (ad 8, .inr (5, fWY ad u)), (ad 9, .inr (4, fTR ad u)), (ad 10, .inr (0, fCD ad u)), (aL ad 0, eL cy u 0), (aL ad 1, eL cy u 1), (aL ad 2, eL cy u 2), (aL ad 3, eL cy u 3), (aL ad 4, eL cy u 4), (ad 16, eO cy ad), (aR ad 0, eR cy u 0), (aR ad 1, eR cy u 1), (aR ad 2, eR cy u 2), (aR ad 3, eR cy u 3), (aR ad 4, eR cy u 4), (aR ad 5, eR cy u 5), (aR ad 6, eR cy u 6), (aR ad 7, eR cy u 7), (aR ad 8, eR cy u 8), (aR ad 9, eR cy u 9), (aR ad 10, eR cy u 10), (aR ad 11, eR cy u 11), (aR ad 12, eR cy u 12), (aR ad 13, eR cy u 13), (aR ad 14, eR cy u 14), (aR ad 15, eR cy u 15), (aR ad 16, eR cy u 16), (aR ad 17, eR cy u 17), (aR ad 18, eR cy u 18), (aR ad 19, eR cy u 19), (aR ad 20, eR cy u 20), (aR ad 21, eR cy u 21), (aR ad 22, eR cy u 22), (aR ad 23, eR cy u 23), (aR ad 24, eR cy u 24), (aR ad 25, eR cy u 25), (aR ad 26, eR cy u 26), (aR ad 27, eR cy u 27), (aR ad 28, eR cy u 28), (aR ad 29, eR cy u 29), (aR ad 30, eR cy u 30), (aR ad 31, eR cy u 31), (aR ad 32, eR cy u 32)]
theorem cW_T (cy : CY) (ad : Nat → Nat) (u : ST) : ∀ t : Nat, t < 2 → (cW cy ad u)[2 + t]? = some (aT ad t, .inr (2, fTB ad u t))
  | 0, _ => rfl
  | 1, _ => rfl
  | t + 2, h => absurd h (by omega)
theorem cW_N (cy : CY) (ad : Nat → Nat) (u : ST) : ∀ t : Nat, t < 4 → (cW cy ad u)[4 + t]? = some (aN ad t, .inr (1, fNM ad u t))
  | 0, _ => rfl
  | 1, _ => rfl
  | 2, _ => rfl
  | 3, _ => rfl
  | t + 4, h => absurd h (by omega)
theorem cW_L (cy : CY) (ad : Nat → Nat) (u : ST) : ∀ t : Nat, t < 5 → (cW cy ad u)[11 + t]? = some (aL ad t, eL cy u t)
  | 0, _ => rfl
  | 1, _ => rfl
  | 2, _ => rfl
  | 3, _ => rfl
  | 4, _ => rfl
  | t + 5, h => absurd h (by omega)
theorem cW_R (cy : CY) (ad : Nat → Nat) (u : ST) : ∀ t : Nat, t < 33 → (cW cy ad u)[17 + t]? = some (aR ad t, eR cy u t)
  | 0, _ => rfl
  | 1, _ => rfl
  | 2, _ => rfl
  | 3, _ => rfl
  | 4, _ => rfl
  | 5, _ => rfl
  | 6, _ => rfl
  | 7, _ => rfl
  | 8, _ => rfl
  | 9, _ => rfl
  | 10, _ => rfl
  | 11, _ => rfl
  | 12, _ => rfl
  | 13, _ => rfl
  | 14, _ => rfl
  | 15, _ => rfl
  | 16, _ => rfl
  | 17, _ => rfl
  | 18, _ => rfl
  | 19, _ => rfl
  | 20, _ => rfl
  | 21, _ => rfl
  | 22, _ => rfl
  | 23, _ => rfl
  | 24, _ => rfl
  | 25, _ => rfl
  | 26, _ => rfl
  | 27, _ => rfl
  | 28, _ => rfl
  | 29, _ => rfl
  | 30, _ => rfl
  | 31, _ => rfl
  | 32, _ => rfl
  | t + 33, h => absurd h (by omega)
theorem cS_RT_3 (cy : CY) (ad : Nat → Nat) (u : ST) (v : Int32) : (cW cy ad u).set 0 (ad 0, .inr (6, (fRT ad u).set 3 (.int v))) = cW cy ad (sI u 0 v) := rfl
theorem cS_RT_4 (cy : CY) (ad : Nat → Nat) (u : ST) (v : Int32) : (cW cy ad u).set 0 (ad 0, .inr (6, (fRT ad u).set 4 (.int v))) = cW cy ad (sI u 1 v) := rfl
theorem cS_RT_5 (cy : CY) (ad : Nat → Nat) (u : ST) (v : Int32) : (cW cy ad u).set 0 (ad 0, .inr (6, (fRT ad u).set 5 (.int v))) = cW cy ad (sI u 2 v) := rfl
theorem cS_RT_6 (cy : CY) (ad : Nat → Nat) (u : ST) (v : Int32) : (cW cy ad u).set 0 (ad 0, .inr (6, (fRT ad u).set 6 (.int v))) = cW cy ad (sI u 3 v) := rfl
theorem cS_RT_7 (cy : CY) (ad : Nat → Nat) (u : ST) (v : Int32) : (cW cy ad u).set 0 (ad 0, .inr (6, (fRT ad u).set 7 (.int v))) = cW cy ad (sI u 4 v) := rfl
theorem cS_TP_1 (cy : CY) (ad : Nat → Nat) (u : ST) (v : Int32) : (cW cy ad u).set 1 (ad 1, .inr (3, (fTP ad u).set 1 (.int v))) = cW cy ad (sI u 5 v) := rfl
theorem cS_TP_2 (cy : CY) (ad : Nat → Nat) (u : ST) (v : Int32) : (cW cy ad u).set 1 (ad 1, .inr (3, (fTP ad u).set 2 (.int v))) = cW cy ad (sI u 6 v) := rfl
theorem cS_TP_3 (cy : CY) (ad : Nat → Nat) (u : ST) (v : Int32) : (cW cy ad u).set 1 (ad 1, .inr (3, (fTP ad u).set 3 (.int v))) = cW cy ad (sI u 7 v) := rfl
theorem cS_TP_5 (cy : CY) (ad : Nat → Nat) (u : ST) (v : Int32) : (cW cy ad u).set 1 (ad 1, .inr (3, (fTP ad u).set 5 (.int v))) = cW cy ad (sI u 8 v) := rfl
theorem cS_TP_6 (cy : CY) (ad : Nat → Nat) (u : ST) (v : Int32) : (cW cy ad u).set 1 (ad 1, .inr (3, (fTP ad u).set 6 (.int v))) = cW cy ad (sI u 9 v) := rfl
theorem cS_WY_3 (cy : CY) (ad : Nat → Nat) (u : ST) (v : Int32) : (cW cy ad u).set 8 (ad 8, .inr (5, (fWY ad u).set 3 (.int v))) = cW cy ad (sI u 16 v) := rfl
theorem cS_TR_2 (cy : CY) (ad : Nat → Nat) (u : ST) (v : Int32) : (cW cy ad u).set 9 (ad 9, .inr (4, (fTR ad u).set 2 (.int v))) = cW cy ad (sI u 17 v) := rfl
theorem cS_TR_3 (cy : CY) (ad : Nat → Nat) (u : ST) (v : Int32) : (cW cy ad u).set 9 (ad 9, .inr (4, (fTR ad u).set 3 (.int v))) = cW cy ad (sI u 18 v) := rfl
theorem cS_TR_4 (cy : CY) (ad : Nat → Nat) (u : ST) (v : Int32) : (cW cy ad u).set 9 (ad 9, .inr (4, (fTR ad u).set 4 (.int v))) = cW cy ad (sI u 19 v) := rfl
theorem cS_TR_6 (cy : CY) (ad : Nat → Nat) (u : ST) (v : Int32) : (cW cy ad u).set 9 (ad 9, .inr (4, (fTR ad u).set 6 (.int v))) = cW cy ad (sI u 20 v) := rfl
theorem cS_CD_2 (cy : CY) (ad : Nat → Nat) (u : ST) (v : Int32) : (cW cy ad u).set 10 (ad 10, .inr (0, (fCD ad u).set 2 (.int v))) = cW cy ad (sI u 21 v) := rfl
theorem cS_TP_4 (cy : CY) (ad : Nat → Nat) (u : ST) (v : Int64) : (cW cy ad u).set 1 (ad 1, .inr (3, (fTP ad u).set 4 (.long v))) = cW cy ad (sJ u 0 v) := rfl
theorem cS_TR_5 (cy : CY) (ad : Nat → Nat) (u : ST) (v : Int64) : (cW cy ad u).set 9 (ad 9, .inr (4, (fTR ad u).set 5 (.long v))) = cW cy ad (sJ u 1 v) := rfl
theorem cS_RT_1 (cy : CY) (ad : Nat → Nat) (u : ST) (v : Nat) : (cW cy ad u).set 0 (ad 0, .inr (6, (fRT ad u).set 1 (.ref (aT ad v)))) = cW cy ad (sZ u 0 v) := rfl
theorem cS_RT_2 (cy : CY) (ad : Nat → Nat) (u : ST) (v : Nat) : (cW cy ad u).set 0 (ad 0, .inr (6, (fRT ad u).set 2 (.ref (aT ad v)))) = cW cy ad (sZ u 1 v) := rfl
theorem cS_TB_5 (cy : CY) (ad : Nat → Nat) (u : ST) (v : Int32) : ∀ t : Nat, t < 2 → (cW cy ad u).set (2 + t) (aT ad t, .inr (2, (fTB ad u t).set 5 (.int v))) = cW cy ad (sI u (10 + t) v)
  | 0, _ => rfl
  | 1, _ => rfl
  | t + 2, h => absurd h (by omega)
theorem cS_NM_1 (cy : CY) (ad : Nat → Nat) (u : ST) (v : Int32) : ∀ t : Nat, t < 4 → (cW cy ad u).set (4 + t) (aN ad t, .inr (1, (fNM ad u t).set 1 (.int v))) = cW cy ad (sI u (12 + t) v)
  | 0, _ => rfl
  | 1, _ => rfl
  | 2, _ => rfl
  | 3, _ => rfl
  | t + 4, h => absurd h (by omega)
theorem cS_L (cy : CY) (ad : Nat → Nat) (u : ST) (i : Nat) (v : Int64) : ∀ t : Nat, t < 5 → (cW cy ad u).set (11 + t) (aL ad t, .inl (cy.2.2.1, lenL t, .inr (.inl (vp_updL (gB u t) i v)))) = cW cy ad (sB u t i v)
  | 0, _ => rfl
  | 1, _ => rfl
  | 2, _ => rfl
  | 3, _ => rfl
  | 4, _ => rfl
  | t + 5, h => absurd h (by omega)
theorem cS_R (cy : CY) (ad : Nat → Nat) (u : ST) (i : Nat) (v : Int32) : ∀ t : Nat, t < 33 → (cW cy ad u).set (17 + t) (aR ad t, .inl (cy.2.1, lenR t, .inl (upd (gR u t) i v))) = cW cy ad (sR u t i v)
  | 0, _ => rfl
  | 1, _ => rfl
  | 2, _ => rfl
  | 3, _ => rfl
  | 4, _ => rfl
  | 5, _ => rfl
  | 6, _ => rfl
  | 7, _ => rfl
  | 8, _ => rfl
  | 9, _ => rfl
  | 10, _ => rfl
  | 11, _ => rfl
  | 12, _ => rfl
  | 13, _ => rfl
  | 14, _ => rfl
  | 15, _ => rfl
  | 16, _ => rfl
  | 17, _ => rfl
  | 18, _ => rfl
  | 19, _ => rfl
  | 20, _ => rfl
  | 21, _ => rfl
  | 22, _ => rfl
  | 23, _ => rfl
  | 24, _ => rfl
  | 25, _ => rfl
  | 26, _ => rfl
  | 27, _ => rfl
  | 28, _ => rfl
  | 29, _ => rfl
  | 30, _ => rfl
  | 31, _ => rfl
  | 32, _ => rfl
  | t + 33, h => absurd h (by omega)
/-! THE REFERENCE's WORLD: its object at am 0, the array of slot k at am k; ints gI u slot, rows gR u slot -/
abbrev fMD (am : Nat → Nat) (u : ST) : List Value := [.int (gI u 0), .ref (am 1), .int (gI u 2), .int (gI u 3), .int (gI u 4), .ref (am 5), .ref (am 6), .ref (am 7), .ref (am 8), .ref (am 9), .int (gI u 10), .int (gI u 11), .int (gI u 12), .int (gI u 13), .int (gI u 14), .int (gI u 15), .int (gI u 16), .int (gI u 17), .int (gI u 18), .int (gI u 19), .int (gI u 20), .int (gI u 21), .ref (am 22), .ref (am 23), .ref (am 24), .ref (am 25), .ref (am 26), .ref (am 27), .ref (am 28), .ref (am 29), .ref (am 30), .ref (am 31), .ref (am 32), .int (gI u 33)]
def mLen (k : Nat) : Nat := match k with
  | 1 => 8000
  | 5 => 1600
  | 6 => 160
  | 7 => 512
  | 8 => 512
  | 9 => 512
  | 22 => 1000
  | 23 => 1000
  | 24 => 1000
  | 25 => 1000
  | 26 => 1000
  | 27 => 1000
  | 28 => 40
  | 29 => 40
  | 30 => 40
  | 31 => 40
  | 32 => 3000
  | _ => 0
abbrev mPos (k : Nat) : Nat := match k with
  | 1 => 1
  | 5 => 2
  | 6 => 3
  | 7 => 4
  | 8 => 5
  | 9 => 6
  | 22 => 7
  | 23 => 8
  | 24 => 9
  | 25 => 10
  | 26 => 11
  | 27 => 12
  | 28 => 13
  | 29 => 14
  | 30 => 15
  | 31 => 16
  | 32 => 17
  | _ => 0
def mW (cy : CY) (am : Nat → Nat) (u : ST) : va_W := [(am 0, .inr (7, fMD am u)), (am 1, .inl (cy.1, 8000, .inl (gR u 1))), (am 5, .inl (cy.1, 1600, .inl (gR u 5))), (am 6, .inl (cy.2.1, 160, .inl (gR u 6))), (am 7, .inl (cy.2.1, 512, .inl (gR u 7))), (am 8, .inl (cy.2.1, 512, .inl (gR u 8))), (am 9, .inl (cy.2.1, 512, .inl (gR u 9))), (am 22, .inl (cy.2.1, 1000, .inl (gR u 22))), (am 23, .inl (cy.2.1, 1000, .inl (gR u 23))), (am 24, .inl (cy.2.1, 1000, .inl (gR u 24))), (am 25, .inl (cy.2.1, 1000, .inl (gR u 25))), (am 26, .inl (cy.2.1, 1000, .inl (gR u 26))), (am 27, .inl (cy.2.1, 1000, .inl (gR u 27))), (am 28, .inl (cy.2.1, 40, .inl (gR u 28))), (am 29, .inl (cy.2.1, 40, .inl (gR u 29))), (am 30, .inl (cy.2.1, 40, .inl (gR u 30))), (am 31, .inl (cy.2.1, 40, .inl (gR u 31))), (am 32, .inl (cy.2.1, 3000, .inl (gR u 32)))]
theorem mS_0 (cy : CY) (am : Nat → Nat) (u : ST) (v : Int32) : (mW cy am u).set 0 (am 0, .inr (7, (fMD am u).set 0 (.int v))) = mW cy am (sI u 0 v) := rfl
theorem mS_2 (cy : CY) (am : Nat → Nat) (u : ST) (v : Int32) : (mW cy am u).set 0 (am 0, .inr (7, (fMD am u).set 2 (.int v))) = mW cy am (sI u 2 v) := rfl
theorem mS_3 (cy : CY) (am : Nat → Nat) (u : ST) (v : Int32) : (mW cy am u).set 0 (am 0, .inr (7, (fMD am u).set 3 (.int v))) = mW cy am (sI u 3 v) := rfl
theorem mS_4 (cy : CY) (am : Nat → Nat) (u : ST) (v : Int32) : (mW cy am u).set 0 (am 0, .inr (7, (fMD am u).set 4 (.int v))) = mW cy am (sI u 4 v) := rfl
theorem mS_10 (cy : CY) (am : Nat → Nat) (u : ST) (v : Int32) : (mW cy am u).set 0 (am 0, .inr (7, (fMD am u).set 10 (.int v))) = mW cy am (sI u 10 v) := rfl
theorem mS_11 (cy : CY) (am : Nat → Nat) (u : ST) (v : Int32) : (mW cy am u).set 0 (am 0, .inr (7, (fMD am u).set 11 (.int v))) = mW cy am (sI u 11 v) := rfl
theorem mS_12 (cy : CY) (am : Nat → Nat) (u : ST) (v : Int32) : (mW cy am u).set 0 (am 0, .inr (7, (fMD am u).set 12 (.int v))) = mW cy am (sI u 12 v) := rfl
theorem mS_13 (cy : CY) (am : Nat → Nat) (u : ST) (v : Int32) : (mW cy am u).set 0 (am 0, .inr (7, (fMD am u).set 13 (.int v))) = mW cy am (sI u 13 v) := rfl
theorem mS_14 (cy : CY) (am : Nat → Nat) (u : ST) (v : Int32) : (mW cy am u).set 0 (am 0, .inr (7, (fMD am u).set 14 (.int v))) = mW cy am (sI u 14 v) := rfl
theorem mS_15 (cy : CY) (am : Nat → Nat) (u : ST) (v : Int32) : (mW cy am u).set 0 (am 0, .inr (7, (fMD am u).set 15 (.int v))) = mW cy am (sI u 15 v) := rfl
theorem mS_16 (cy : CY) (am : Nat → Nat) (u : ST) (v : Int32) : (mW cy am u).set 0 (am 0, .inr (7, (fMD am u).set 16 (.int v))) = mW cy am (sI u 16 v) := rfl
theorem mS_17 (cy : CY) (am : Nat → Nat) (u : ST) (v : Int32) : (mW cy am u).set 0 (am 0, .inr (7, (fMD am u).set 17 (.int v))) = mW cy am (sI u 17 v) := rfl
theorem mS_18 (cy : CY) (am : Nat → Nat) (u : ST) (v : Int32) : (mW cy am u).set 0 (am 0, .inr (7, (fMD am u).set 18 (.int v))) = mW cy am (sI u 18 v) := rfl
theorem mS_19 (cy : CY) (am : Nat → Nat) (u : ST) (v : Int32) : (mW cy am u).set 0 (am 0, .inr (7, (fMD am u).set 19 (.int v))) = mW cy am (sI u 19 v) := rfl
theorem mS_20 (cy : CY) (am : Nat → Nat) (u : ST) (v : Int32) : (mW cy am u).set 0 (am 0, .inr (7, (fMD am u).set 20 (.int v))) = mW cy am (sI u 20 v) := rfl
theorem mS_21 (cy : CY) (am : Nat → Nat) (u : ST) (v : Int32) : (mW cy am u).set 0 (am 0, .inr (7, (fMD am u).set 21 (.int v))) = mW cy am (sI u 21 v) := rfl
theorem mS_33 (cy : CY) (am : Nat → Nat) (u : ST) (v : Int32) : (mW cy am u).set 0 (am 0, .inr (7, (fMD am u).set 33 (.int v))) = mW cy am (sI u 33 v) := rfl
theorem mR_1 (cy : CY) (am : Nat → Nat) (u : ST) (i : Nat) (v : Int32) : (mW cy am u).set 1 (am 1, .inl (cy.1, 8000, .inl (upd (gR u 1) i v))) = mW cy am (sR u 1 i v) := rfl
theorem mR_5 (cy : CY) (am : Nat → Nat) (u : ST) (i : Nat) (v : Int32) : (mW cy am u).set 2 (am 5, .inl (cy.1, 1600, .inl (upd (gR u 5) i v))) = mW cy am (sR u 5 i v) := rfl
theorem mR_6 (cy : CY) (am : Nat → Nat) (u : ST) (i : Nat) (v : Int32) : (mW cy am u).set 3 (am 6, .inl (cy.2.1, 160, .inl (upd (gR u 6) i v))) = mW cy am (sR u 6 i v) := rfl
theorem mR_7 (cy : CY) (am : Nat → Nat) (u : ST) (i : Nat) (v : Int32) : (mW cy am u).set 4 (am 7, .inl (cy.2.1, 512, .inl (upd (gR u 7) i v))) = mW cy am (sR u 7 i v) := rfl
theorem mR_8 (cy : CY) (am : Nat → Nat) (u : ST) (i : Nat) (v : Int32) : (mW cy am u).set 5 (am 8, .inl (cy.2.1, 512, .inl (upd (gR u 8) i v))) = mW cy am (sR u 8 i v) := rfl
theorem mR_9 (cy : CY) (am : Nat → Nat) (u : ST) (i : Nat) (v : Int32) : (mW cy am u).set 6 (am 9, .inl (cy.2.1, 512, .inl (upd (gR u 9) i v))) = mW cy am (sR u 9 i v) := rfl
theorem mR_22 (cy : CY) (am : Nat → Nat) (u : ST) (i : Nat) (v : Int32) : (mW cy am u).set 7 (am 22, .inl (cy.2.1, 1000, .inl (upd (gR u 22) i v))) = mW cy am (sR u 22 i v) := rfl
theorem mR_23 (cy : CY) (am : Nat → Nat) (u : ST) (i : Nat) (v : Int32) : (mW cy am u).set 8 (am 23, .inl (cy.2.1, 1000, .inl (upd (gR u 23) i v))) = mW cy am (sR u 23 i v) := rfl
theorem mR_24 (cy : CY) (am : Nat → Nat) (u : ST) (i : Nat) (v : Int32) : (mW cy am u).set 9 (am 24, .inl (cy.2.1, 1000, .inl (upd (gR u 24) i v))) = mW cy am (sR u 24 i v) := rfl
theorem mR_25 (cy : CY) (am : Nat → Nat) (u : ST) (i : Nat) (v : Int32) : (mW cy am u).set 10 (am 25, .inl (cy.2.1, 1000, .inl (upd (gR u 25) i v))) = mW cy am (sR u 25 i v) := rfl
theorem mR_26 (cy : CY) (am : Nat → Nat) (u : ST) (i : Nat) (v : Int32) : (mW cy am u).set 11 (am 26, .inl (cy.2.1, 1000, .inl (upd (gR u 26) i v))) = mW cy am (sR u 26 i v) := rfl
theorem mR_27 (cy : CY) (am : Nat → Nat) (u : ST) (i : Nat) (v : Int32) : (mW cy am u).set 12 (am 27, .inl (cy.2.1, 1000, .inl (upd (gR u 27) i v))) = mW cy am (sR u 27 i v) := rfl
theorem mR_28 (cy : CY) (am : Nat → Nat) (u : ST) (i : Nat) (v : Int32) : (mW cy am u).set 13 (am 28, .inl (cy.2.1, 40, .inl (upd (gR u 28) i v))) = mW cy am (sR u 28 i v) := rfl
theorem mR_29 (cy : CY) (am : Nat → Nat) (u : ST) (i : Nat) (v : Int32) : (mW cy am u).set 14 (am 29, .inl (cy.2.1, 40, .inl (upd (gR u 29) i v))) = mW cy am (sR u 29 i v) := rfl
theorem mR_30 (cy : CY) (am : Nat → Nat) (u : ST) (i : Nat) (v : Int32) : (mW cy am u).set 15 (am 30, .inl (cy.2.1, 40, .inl (upd (gR u 30) i v))) = mW cy am (sR u 30 i v) := rfl
theorem mR_31 (cy : CY) (am : Nat → Nat) (u : ST) (i : Nat) (v : Int32) : (mW cy am u).set 16 (am 31, .inl (cy.2.1, 40, .inl (upd (gR u 31) i v))) = mW cy am (sR u 31 i v) := rfl
theorem mR_32 (cy : CY) (am : Nat → Nat) (u : ST) (i : Nat) (v : Int32) : (mW cy am u).set 17 (am 32, .inl (cy.2.1, 3000, .inl (upd (gR u 32) i v))) = mW cy am (sR u 32 i v) := rfl
