/-! tables of the permutations in their order; the numbers of the listed maps -/
def ttN (n : Nat) : Nat := match n with
  | 1 => 0
  | 2 => 260
  | 3 => 6674532341796
  | 4 => 669236436005411928080145373044091295208890640391302853860
  | _ => 0
def tiN (n : Nat) : Nat := match n with
  | 1 => 0
  | 2 => 260
  | 3 => 6636028631076
  | 4 => 664926173604805343331056000938794711025044630072668501220
  | _ => 0
def tcN (n : Nat) : Nat := match n with
  | 1 => 0
  | 2 => 1329227995784915872903807060280344608
  | 3 => 4636324286875404409426208017035817323086652753189703559447038885596108686499705167464846528273246447956851829450088584605167646394576139251563571332241712142977318326685518296452941580320
  | 4 => 963083904067687740382735603551689858979262908457194405886049381333969802301183085837553985273473854330919290650503943115840069356509638955686872359685717332808901270679562285084298514669757260143135839602817718328491187159082064147838148221860841857298935111617501776737072422980980029411854874636928447370107983835290263782952548816511020583812907530610125653564010220842482491962004376120388759761678501504925865068116183498263901531782434546190694459208408295563000458219589420019657733870239199217371120552283113993841669272690250937181101628696532967492507089921218779169242377132803342235395010373055173633197438399586503732527643592394751693744750901567759454225611815304897823538575145718919194832468029427789693900593094299686717877973378999991997074262632222442029776699593767455265065230686956072508893019315770005973264241629444791670033435835305658400
  | _ => 0
def tT (n r y : Nat) : Nat := ttN n / 4 ^ (4 * r + y) % 4
def tI (n r y : Nat) : Nat := tiN n / 4 ^ (4 * r + y) % 4
def tC (n r s : Nat) : Nat := tcN n / 32 ^ (24 * r + s) % 32
def nmL (n : Nat) : List Nat := match n with
  | 1 => [0]
  | 2 => [0, 3]
  | 3 => [0, 2, 7, 43, 129]
  | 4 => [0, 2, 8, 25, 31, 150, 175, 601, 1803, 14425, 14550, 14575, 24150, 43275, 43876, 86425, 86431, 86575, 92782, 100975, 106375, 129825, 135018]
  | _ => []
def nm (n i : Nat) : Nat := (nmL n).getD i 0
def anyD (p : Nat → Bool) : Nat → Bool
  | 0 => false
  | k + 1 => p k || anyD p k
def allD (p : Nat → Bool) : Nat → Bool
  | 0 => true
  | k + 1 => p k && allD p k
def cmpG (f g : Nat → Nat) : Nat → Nat
  | 0 => 0
  | k + 1 => match cmpG f g k with
    | 0 => bif Nat.beq (f k) (g k) then 0 else (bif Nat.ble (f k) (g k) then 1 else 2)
    | c + 1 => c + 1
/-- row x of the first d + 1 rows that a number tells -/
def rw0 (F q d x : Nat) : Nat := q / F ^ (d - x) % F
def pfail (n F q d x y : Nat) : Bool := Nat.ble (tT n (rw0 F q d x) y) d && (Nat.ble (tI n (rw0 F q d (tT n (rw0 F q d x) y)) x) d && !(Nat.beq (tC n (rw0 F q d x) (rw0 F q d y)) (tC n (rw0 F q d (tT n (rw0 F q d x) y)) (rw0 F q d (tI n (rw0 F q d (tT n (rw0 F q d x) y)) x)))))
def afail (n F q d : Nat) : Bool := anyD (fun k => pfail n F q d (k / (d + 1)) (k % (d + 1))) ((d + 1) * (d + 1))
def lcmp (n F q j : Nat) : Nat := cmpG (fun k => tT n j (tT n (rw0 F q (n - 1) (tI n j (k / n))) (tI n j (k % n)))) (fun k => tT n (rw0 F q (n - 1) (k / n)) (k % n)) (n * n)
def memN (q : Nat) : List Nat → Bool
  | [] => false
  | a :: r => Nat.beq q a || memN q r
def leafB (n F q : Nat) : Bool := memN q (nmL n) || anyD (fun j => Nat.beq (lcmp n F q j) 1) F
def srch (n F : Nat) : Nat → Nat → Nat → Bool
  | 0, _, q => leafB n F q
  | f + 1, d, q => allD (fun r => afail n F (F * q + r) d || srch n F f (d + 1) (F * q + r)) F
theorem srch_1 : srch 1 1 1 0 0 = true := by decide +kernel
theorem srch_2 : srch 2 2 2 0 0 = true := by decide +kernel
theorem srch_3 : srch 3 6 3 0 0 = true := by decide +kernel
theorem srch_4_0 : (afail 4 24 (24 * 0 + 0) 0 || srch 4 24 3 1 (24 * 0 + 0)) = true := by decide +kernel
theorem srch_4_1 : (afail 4 24 (24 * 0 + 1) 0 || srch 4 24 3 1 (24 * 0 + 1)) = true := by decide +kernel
theorem srch_4_2 : (afail 4 24 (24 * 0 + 2) 0 || srch 4 24 3 1 (24 * 0 + 2)) = true := by decide +kernel
theorem srch_4_3 : (afail 4 24 (24 * 0 + 3) 0 || srch 4 24 3 1 (24 * 0 + 3)) = true := by decide +kernel
theorem srch_4_4 : (afail 4 24 (24 * 0 + 4) 0 || srch 4 24 3 1 (24 * 0 + 4)) = true := by decide +kernel
theorem srch_4_5 : (afail 4 24 (24 * 0 + 5) 0 || srch 4 24 3 1 (24 * 0 + 5)) = true := by decide +kernel
theorem srch_4_6 : (afail 4 24 (24 * 0 + 6) 0 || srch 4 24 3 1 (24 * 0 + 6)) = true := by decide +kernel
theorem srch_4_7 : (afail 4 24 (24 * 0 + 7) 0 || srch 4 24 3 1 (24 * 0 + 7)) = true := by decide +kernel
theorem srch_4_8 : (afail 4 24 (24 * 0 + 8) 0 || srch 4 24 3 1 (24 * 0 + 8)) = true := by decide +kernel
theorem srch_4_9 : (afail 4 24 (24 * 0 + 9) 0 || srch 4 24 3 1 (24 * 0 + 9)) = true := by decide +kernel
theorem srch_4_10 : (afail 4 24 (24 * 0 + 10) 0 || srch 4 24 3 1 (24 * 0 + 10)) = true := by decide +kernel
theorem srch_4_11 : (afail 4 24 (24 * 0 + 11) 0 || srch 4 24 3 1 (24 * 0 + 11)) = true := by decide +kernel
theorem srch_4_12 : (afail 4 24 (24 * 0 + 12) 0 || srch 4 24 3 1 (24 * 0 + 12)) = true := by decide +kernel
theorem srch_4_13 : (afail 4 24 (24 * 0 + 13) 0 || srch 4 24 3 1 (24 * 0 + 13)) = true := by decide +kernel
theorem srch_4_14 : (afail 4 24 (24 * 0 + 14) 0 || srch 4 24 3 1 (24 * 0 + 14)) = true := by decide +kernel
theorem srch_4_15 : (afail 4 24 (24 * 0 + 15) 0 || srch 4 24 3 1 (24 * 0 + 15)) = true := by decide +kernel
theorem srch_4_16 : (afail 4 24 (24 * 0 + 16) 0 || srch 4 24 3 1 (24 * 0 + 16)) = true := by decide +kernel
theorem srch_4_17 : (afail 4 24 (24 * 0 + 17) 0 || srch 4 24 3 1 (24 * 0 + 17)) = true := by decide +kernel
theorem srch_4_18 : (afail 4 24 (24 * 0 + 18) 0 || srch 4 24 3 1 (24 * 0 + 18)) = true := by decide +kernel
theorem srch_4_19 : (afail 4 24 (24 * 0 + 19) 0 || srch 4 24 3 1 (24 * 0 + 19)) = true := by decide +kernel
theorem srch_4_20 : (afail 4 24 (24 * 0 + 20) 0 || srch 4 24 3 1 (24 * 0 + 20)) = true := by decide +kernel
theorem srch_4_21 : (afail 4 24 (24 * 0 + 21) 0 || srch 4 24 3 1 (24 * 0 + 21)) = true := by decide +kernel
theorem srch_4_22 : (afail 4 24 (24 * 0 + 22) 0 || srch 4 24 3 1 (24 * 0 + 22)) = true := by decide +kernel
theorem srch_4_23 : (afail 4 24 (24 * 0 + 23) 0 || srch 4 24 3 1 (24 * 0 + 23)) = true := by decide +kernel
