/-! the geometry: regions 0..99 -/
-- TurnBench.told: region 1
-- TurnBench$Told.codes: region 2
-- TurnBench$Told.isTold: region 4
-- TurnBench.group: region 5
-- TurnBench$Group.codes: region 6
-- TurnBench$Group.elementOfKey: region 8
-- TurnBench$Group.turnCodes: region 9
-- TurnBench$Group.withTurn: region 11
-- TurnBench$Group.madeFrom: region 13
-- TurnBench$Group.madeBy: region 14
-- TurnBench$Group.table: region 15
-- TurnBench$Group.back: region 17
-- TurnBench$Group.order: region 18
-- TurnBench$Group.classOf: region 19
-- TurnBench$Group.classLeast: region 20
-- TurnBench$Group.classSize: region 21
-- TurnBench$Group.isMirror: region 22
-- TurnBench$Group.rings: region 23
-- TurnBench$Rings.length: region 24
-- TurnBench$Rings.signProduct: region 25
-- TurnBench.signs: region 26
-- TurnBench$Signs.rows: region 27
-- TurnBench.molien: region 29
-- TurnBench$Molien.row: region 30
-- TurnBench.polynomials: region 31
-- TurnBench$Polynomials.rows: region 32
-- TurnBench$Polynomials.aside: region 34
-- TurnBench$Polynomials.letterPowers: region 35
-- TurnBench$Polynomials.powers: region 37
-- TurnBench$Powers.of: region 38
-- TurnBench$Powers.degree: region 40
-- TurnBench$Powers.sent: region 41
-- TurnBench.few: region 42
-- TurnBench$Few.degree: region 43
-- TurnBench$Few.product: region 44
-- TurnBench$Few.layers: region 45
-- TurnBench$Few.average: region 46
-- TurnBench$Layer.often: region 48
-- TurnBench$Layer.rows: region 50
-- TurnBench$Layer.leastFew: region 52
-- TurnBench$Layer.freeProduct: region 53
-- TurnBench$Layer.reduced: region 54
-- TurnBench$Layer.mix: region 56
-- TurnBench$Layer.pivot: region 58
-- TurnBench$Layer.work: region 59
-- TurnBench$Layer.workMix: region 60
-- TurnBench.parts: region 61
-- TurnBench$Parts.multiple: region 62
-- TurnBench$Parts.degree: region 63
-- TurnBench$Parts.often: region 64
-- TurnBench.images: region 66
-- TurnBench$Images.place: region 67
-- TurnBench$Images.rows: region 68
-- TurnBench$Images.led: region 70
-- TurnBenchModel.told: region 72
-- TurnBenchModel.turn: region 73
-- TurnBenchModel.code: region 74
-- TurnBenchModel.parent: region 75
-- TurnBenchModel.through: region 76
-- TurnBenchModel.maker: region 77
-- TurnBenchModel.classes: region 78
-- TurnBenchModel.signs: region 79
-- TurnBenchModel.reached: region 80
-- TurnBenchModel.poly: region 81
-- TurnBenchModel.row: region 82
-- TurnBenchModel.fewDegree: region 83
-- TurnBenchModel.few: region 84
-- TurnBenchModel.often: region 85
-- TurnBenchModel.lead: region 86
-- TurnBenchModel.made: region 87
-- TurnBenchModel.use: region 88
-- TurnBenchModel.basis: region 89
-- TurnBenchModel.share: region 90
-- TurnBenchModel.shareNow: region 91
-- TurnBenchModel.wide: region 92
-- TurnBenchModel.partTimes: region 93
-- TurnBenchModel.partDegree: region 94
-- TurnBenchModel.partOften: region 95
-- TurnBenchModel.place: region 96
-- TurnBenchModel.images: region 97
-- TurnBenchModel.led: region 98
-- object TurnBench: region 0
-- object TurnBench$Told: region 1
-- object TurnBench$Group: region 5
-- object TurnBench$Rings: region 23
-- object TurnBench$Signs: region 26
-- object TurnBench$Molien: region 29
-- object TurnBench$Polynomials: region 31
-- object TurnBench$Powers: region 37
-- object TurnBench$Few: region 42
-- object TurnBench$Layer: region 47
-- object TurnBench$Parts: region 61
-- object TurnBench$Images: region 66
-- object TurnBenchModel: region 71
-- the script: region 99
def gmo (d : Nat) : Nat := bif Nat.ble d 2 then (bif Nat.ble d 0 then 1 else bif Nat.ble d 1 then 3 else 6) else (bif Nat.ble d 3 then 10 else bif Nat.ble d 5 then 21 else 56)
def gwd (d : Nat) : Nat := (d + 1) * (d + 2) / 2
def G0k (r : Nat) : Nat := bif Nat.ble r 49 then (bif Nat.ble r 24 then (bif Nat.ble r 11 then (bif Nat.ble r 5 then (bif Nat.ble r 2 then (bif Nat.ble r 0 then (0) else (bif Nat.ble r 1 then (0) else (5))) else (bif Nat.ble r 3 then (1) else (bif Nat.ble r 4 then (3) else (0)))) else (bif Nat.ble r 8 then (bif Nat.ble r 6 then (5) else (1)) else (bif Nat.ble r 9 then (5) else (bif Nat.ble r 10 then (1) else (5))))) else (bif Nat.ble r 17 then (bif Nat.ble r 14 then (1) else (bif Nat.ble r 15 then (5) else (1))) else (bif Nat.ble r 20 then (1) else (bif Nat.ble r 22 then (bif Nat.ble r 21 then (1) else (3)) else (bif Nat.ble r 23 then (0) else (1)))))) else (bif Nat.ble r 36 then (bif Nat.ble r 30 then (bif Nat.ble r 27 then (bif Nat.ble r 25 then (1) else (bif Nat.ble r 26 then (0) else (5))) else (bif Nat.ble r 28 then (1) else (bif Nat.ble r 29 then (0) else (1)))) else (bif Nat.ble r 33 then (bif Nat.ble r 31 then (0) else (bif Nat.ble r 32 then (5) else (1))) else (bif Nat.ble r 34 then (1) else (bif Nat.ble r 35 then (5) else (1))))) else (bif Nat.ble r 42 then (bif Nat.ble r 39 then (bif Nat.ble r 37 then (0) else (bif Nat.ble r 38 then (5) else (1))) else (bif Nat.ble r 40 then (1) else (bif Nat.ble r 41 then (1) else (0)))) else (bif Nat.ble r 45 then (bif Nat.ble r 43 then (1) else (bif Nat.ble r 44 then (1) else (6))) else (bif Nat.ble r 47 then (bif Nat.ble r 46 then (1) else (0)) else (bif Nat.ble r 48 then (5) else (1))))))) else (bif Nat.ble r 74 then (bif Nat.ble r 61 then (bif Nat.ble r 55 then (bif Nat.ble r 52 then (bif Nat.ble r 50 then (5) else (1)) else (bif Nat.ble r 53 then (1) else (bif Nat.ble r 54 then (5) else (1)))) else (bif Nat.ble r 58 then (bif Nat.ble r 56 then (5) else (1)) else (bif Nat.ble r 59 then (1) else (bif Nat.ble r 60 then (1) else (0))))) else (bif Nat.ble r 67 then (bif Nat.ble r 64 then (bif Nat.ble r 62 then (1) else (bif Nat.ble r 63 then (1) else (5))) else (bif Nat.ble r 65 then (1) else (bif Nat.ble r 66 then (0) else (1)))) else (bif Nat.ble r 70 then (bif Nat.ble r 68 then (5) else (1)) else (bif Nat.ble r 72 then (bif Nat.ble r 71 then (0) else (3)) else (1))))) else (bif Nat.ble r 86 then (bif Nat.ble r 80 then (bif Nat.ble r 77 then (1) else (bif Nat.ble r 78 then (1) else (bif Nat.ble r 79 then (1) else (3)))) else (bif Nat.ble r 83 then (bif Nat.ble r 81 then (1) else (bif Nat.ble r 82 then (2) else (1))) else (1))) else (bif Nat.ble r 92 then (1) else (bif Nat.ble r 95 then (1) else (bif Nat.ble r 97 then (1) else (bif Nat.ble r 98 then (1) else (4)))))))
def G0c (r : Nat) : Nat := bif Nat.ble r 49 then (bif Nat.ble r 24 then (bif Nat.ble r 11 then (bif Nat.ble r 5 then (bif Nat.ble r 2 then (bif Nat.ble r 0 then (11) else (bif Nat.ble r 1 then (10) else (0))) else (bif Nat.ble r 3 then (0) else (bif Nat.ble r 4 then (0) else (1)))) else (0)) else (bif Nat.ble r 17 then (0) else (bif Nat.ble r 20 then (0) else (bif Nat.ble r 22 then (0) else (bif Nat.ble r 23 then (8) else (0)))))) else (bif Nat.ble r 36 then (bif Nat.ble r 30 then (bif Nat.ble r 27 then (bif Nat.ble r 25 then (0) else (bif Nat.ble r 26 then (9) else (0))) else (bif Nat.ble r 28 then (0) else (bif Nat.ble r 29 then (4) else (0)))) else (bif Nat.ble r 33 then (bif Nat.ble r 31 then (6) else (0)) else (0))) else (bif Nat.ble r 42 then (bif Nat.ble r 39 then (bif Nat.ble r 37 then (7) else (0)) else (0)) else (bif Nat.ble r 45 then (0) else (bif Nat.ble r 47 then (bif Nat.ble r 46 then (0) else (3)) else (0)))))) else (bif Nat.ble r 74 then (bif Nat.ble r 61 then (bif Nat.ble r 55 then (0) else (bif Nat.ble r 58 then (0) else (bif Nat.ble r 59 then (0) else (bif Nat.ble r 60 then (0) else (5))))) else (bif Nat.ble r 67 then (bif Nat.ble r 64 then (0) else (bif Nat.ble r 65 then (0) else (bif Nat.ble r 66 then (2) else (0)))) else (bif Nat.ble r 70 then (0) else (bif Nat.ble r 72 then (bif Nat.ble r 71 then (12) else (0)) else (0))))) else (0))
def G0n (r i : Nat) : Nat := bif Nat.ble r 49 then (bif Nat.ble r 24 then (bif Nat.ble r 11 then (bif Nat.ble r 5 then (bif Nat.ble r 2 then (bif Nat.ble r 0 then (8) else (bif Nat.ble r 1 then (2) else (4))) else (bif Nat.ble r 3 then (3) else (bif Nat.ble r 4 then (4) else (18)))) else (bif Nat.ble r 8 then (bif Nat.ble r 6 then (48) else (bif Nat.ble r 7 then (3) else (343))) else (bif Nat.ble r 9 then (4) else (bif Nat.ble r 10 then (3) else (48))))) else (bif Nat.ble r 17 then (bif Nat.ble r 14 then (bif Nat.ble r 12 then (4) else (48)) else (48)) else (bif Nat.ble r 20 then (48) else (bif Nat.ble r 22 then (48) else (3))))) else (bif Nat.ble r 36 then (bif Nat.ble r 30 then (bif Nat.ble r 27 then (bif Nat.ble r 25 then (3) else (bif Nat.ble r 26 then (2) else (16))) else (bif Nat.ble r 28 then (48) else (bif Nat.ble r 29 then (1) else (201)))) else (bif Nat.ble r 33 then (bif Nat.ble r 31 then (4) else (bif Nat.ble r 32 then (8) else (165))) else (bif Nat.ble r 34 then (165) else (bif Nat.ble r 35 then (3) else (9))))) else (bif Nat.ble r 42 then (bif Nat.ble r 39 then (bif Nat.ble r 37 then (3) else (bif Nat.ble r 38 then (3) else (165))) else (bif Nat.ble r 40 then (165) else (bif Nat.ble r 41 then (3) else (6)))) else (bif Nat.ble r 45 then (bif Nat.ble r 43 then (6) else (bif Nat.ble r 44 then (6) else (7))) else (bif Nat.ble r 47 then (bif Nat.ble r 46 then (28) else (14)) else (bif Nat.ble r 48 then (gmo i) else (6))))))) else (bif Nat.ble r 74 then (bif Nat.ble r 61 then (bif Nat.ble r 55 then (bif Nat.ble r 52 then (bif Nat.ble r 50 then (gmo i) else (bif Nat.ble r 51 then (gwd (i / 64)) else (gmo i))) else (bif Nat.ble r 53 then (gwd i) else (bif Nat.ble r 54 then (gwd i) else (gwd (i / 64))))) else (bif Nat.ble r 58 then (bif Nat.ble r 56 then (gwd i) else (bif Nat.ble r 57 then (gwd (i / 64)) else (gwd i))) else (bif Nat.ble r 59 then (gwd i) else (bif Nat.ble r 60 then (gwd i) else (5))))) else (bif Nat.ble r 67 then (bif Nat.ble r 64 then (84) else (bif Nat.ble r 65 then (6) else (bif Nat.ble r 66 then (5) else (3)))) else (bif Nat.ble r 70 then (bif Nat.ble r 68 then (48) else (3)) else (bif Nat.ble r 72 then (bif Nat.ble r 71 then (42) else (4)) else (bif Nat.ble r 73 then (12) else (144)))))) else (bif Nat.ble r 86 then (bif Nat.ble r 80 then (bif Nat.ble r 77 then (bif Nat.ble r 75 then (48) else (bif Nat.ble r 76 then (48) else (12))) else (bif Nat.ble r 78 then (48) else (bif Nat.ble r 79 then (768) else (48)))) else (bif Nat.ble r 83 then (bif Nat.ble r 81 then (7290) else (bif Nat.ble r 82 then (201) else (40))) else (bif Nat.ble r 84 then (29160) else (bif Nat.ble r 85 then (16000) else (30))))) else (bif Nat.ble r 92 then (bif Nat.ble r 89 then (bif Nat.ble r 87 then (729) else (bif Nat.ble r 88 then (40) else (30))) else (bif Nat.ble r 90 then (900) else (bif Nat.ble r 91 then (30) else (21870)))) else (bif Nat.ble r 95 then (bif Nat.ble r 93 then (200) else (bif Nat.ble r 94 then (200) else (8000))) else (bif Nat.ble r 97 then (bif Nat.ble r 96 then (3) else (144)) else (bif Nat.ble r 98 then (3) else (i)))))))
def G0f (r i k : Nat) : Option (Nat × Nat) := bif Nat.ble r 49 then (bif Nat.ble r 24 then (bif Nat.ble r 11 then (bif Nat.ble r 5 then (bif Nat.ble r 2 then (bif Nat.ble r 0 then (bif Nat.ble k 3 then (bif Nat.ble k 1 then (bif Nat.ble k 0 then (some (1, 0)) else (some (5, 0))) else (bif Nat.ble k 2 then (some (26, 0)) else (some (29, 0)))) else (bif Nat.ble k 5 then (bif Nat.ble k 4 then (some (31, 0)) else (some (42, 0))) else (bif Nat.ble k 6 then (some (61, 0)) else (some (66, 0))))) else (bif Nat.ble r 1 then (bif Nat.ble k 0 then (some (2, 0)) else (some (4, 0))) else (none))) else (bif Nat.ble r 3 then (none) else (bif Nat.ble r 4 then (none) else (bif Nat.ble k 8 then (bif Nat.ble k 3 then (none) else (bif Nat.ble k 5 then (bif Nat.ble k 4 then (some (6, 0)) else (some (8, 0))) else (bif Nat.ble k 6 then (some (9, 0)) else (bif Nat.ble k 7 then (some (11, 0)) else (some (13, 0)))))) else (bif Nat.ble k 12 then (bif Nat.ble k 10 then (bif Nat.ble k 9 then (some (14, 0)) else (some (15, 0))) else (bif Nat.ble k 11 then (some (17, 0)) else (some (18, 0)))) else (bif Nat.ble k 14 then (bif Nat.ble k 13 then (some (19, 0)) else (some (20, 0))) else (bif Nat.ble k 15 then (some (21, 0)) else (bif Nat.ble k 16 then (some (22, 0)) else (some (23, 0)))))))))) else (none)) else (bif Nat.ble r 17 then (none) else (bif Nat.ble r 20 then (none) else (bif Nat.ble r 22 then (none) else (bif Nat.ble r 23 then (bif Nat.ble k 0 then (some (24, 0)) else (bif Nat.ble k 1 then (some (25, 0)) else (none))) else (none)))))) else (bif Nat.ble r 36 then (bif Nat.ble r 30 then (bif Nat.ble r 27 then (bif Nat.ble r 25 then (none) else (bif Nat.ble r 26 then (bif Nat.ble k 0 then (none) else (some (27, 0))) else (none))) else (bif Nat.ble r 28 then (none) else (bif Nat.ble r 29 then (some (30, 0)) else (none)))) else (bif Nat.ble r 33 then (bif Nat.ble r 31 then (bif Nat.ble k 1 then (bif Nat.ble k 0 then (some (32, 0)) else (some (34, 0))) else (bif Nat.ble k 2 then (some (35, 0)) else (some (37, 0)))) else (none)) else (none))) else (bif Nat.ble r 42 then (bif Nat.ble r 39 then (bif Nat.ble r 37 then (bif Nat.ble k 0 then (some (38, 0)) else (bif Nat.ble k 1 then (some (40, 0)) else (some (41, 0)))) else (none)) else (bif Nat.ble r 40 then (none) else (bif Nat.ble r 41 then (none) else (bif Nat.ble k 2 then (bif Nat.ble k 0 then (none) else (bif Nat.ble k 1 then (none) else (some (43, 0)))) else (bif Nat.ble k 3 then (some (44, 0)) else (bif Nat.ble k 4 then (some (45, 0)) else (some (46, 0)))))))) else (bif Nat.ble r 45 then (none) else (bif Nat.ble r 47 then (bif Nat.ble r 46 then (none) else (bif Nat.ble k 6 then (bif Nat.ble k 2 then (none) else (bif Nat.ble k 4 then (bif Nat.ble k 3 then (none) else (some (48, i))) else (bif Nat.ble k 5 then (some (50, i)) else (some (52, i))))) else (bif Nat.ble k 9 then (bif Nat.ble k 7 then (none) else (bif Nat.ble k 8 then (some (53, i)) else (some (54, i)))) else (bif Nat.ble k 11 then (bif Nat.ble k 10 then (some (56, i)) else (some (58, i))) else (bif Nat.ble k 12 then (some (59, i)) else (some (60, i))))))) else (none)))))) else (bif Nat.ble r 74 then (bif Nat.ble r 61 then (bif Nat.ble r 55 then (none) else (bif Nat.ble r 58 then (none) else (bif Nat.ble r 59 then (none) else (bif Nat.ble r 60 then (none) else (bif Nat.ble k 1 then (none) else (bif Nat.ble k 2 then (some (62, 0)) else (bif Nat.ble k 3 then (some (63, 0)) else (some (64, 0))))))))) else (bif Nat.ble r 67 then (bif Nat.ble r 64 then (none) else (bif Nat.ble r 65 then (none) else (bif Nat.ble r 66 then (bif Nat.ble k 1 then (none) else (bif Nat.ble k 2 then (some (67, 0)) else (bif Nat.ble k 3 then (some (68, 0)) else (some (70, 0))))) else (none)))) else (bif Nat.ble r 70 then (none) else (bif Nat.ble r 72 then (bif Nat.ble r 71 then (bif Nat.ble k 20 then (bif Nat.ble k 9 then (bif Nat.ble k 4 then (bif Nat.ble k 1 then (bif Nat.ble k 0 then (some (72, 0)) else (some (73, 0))) else (bif Nat.ble k 2 then (some (74, 0)) else (bif Nat.ble k 3 then (some (75, 0)) else (some (76, 0))))) else (bif Nat.ble k 6 then (bif Nat.ble k 5 then (some (77, 0)) else (none)) else (bif Nat.ble k 7 then (none) else (bif Nat.ble k 8 then (some (78, 0)) else (some (79, 0)))))) else (bif Nat.ble k 14 then (bif Nat.ble k 11 then (none) else (bif Nat.ble k 12 then (some (80, 0)) else (bif Nat.ble k 13 then (some (81, 0)) else (none)))) else (bif Nat.ble k 17 then (none) else (bif Nat.ble k 18 then (some (82, 0)) else (bif Nat.ble k 19 then (none) else (some (83, 0))))))) else (bif Nat.ble k 30 then (bif Nat.ble k 25 then (bif Nat.ble k 22 then (bif Nat.ble k 21 then (some (84, 0)) else (some (85, 0))) else (bif Nat.ble k 23 then (some (86, 0)) else (bif Nat.ble k 24 then (some (87, 0)) else (some (88, 0))))) else (bif Nat.ble k 27 then (none) else (bif Nat.ble k 28 then (some (89, 0)) else (bif Nat.ble k 29 then (some (90, 0)) else (some (91, 0)))))) else (bif Nat.ble k 35 then (bif Nat.ble k 32 then (bif Nat.ble k 31 then (some (92, 0)) else (none)) else (bif Nat.ble k 33 then (some (93, 0)) else (bif Nat.ble k 34 then (some (94, 0)) else (some (95, 0))))) else (bif Nat.ble k 38 then (bif Nat.ble k 36 then (none) else (bif Nat.ble k 37 then (some (96, 0)) else (some (97, 0)))) else (bif Nat.ble k 39 then (some (98, 0)) else (none)))))) else (none)) else (none))))) else (none))
def G0e (r i k : Nat) : Nat × Nat := bif Nat.ble r 49 then (bif Nat.ble r 24 then (bif Nat.ble r 11 then (bif Nat.ble r 5 then (bif Nat.ble r 2 then (bif Nat.ble r 0 then ((0, 0)) else (bif Nat.ble r 1 then ((0, 0)) else ((3, k)))) else ((0, 0))) else (bif Nat.ble r 8 then (bif Nat.ble r 6 then ((7, k)) else ((0, 0))) else (bif Nat.ble r 9 then ((10, k)) else (bif Nat.ble r 10 then ((0, 0)) else ((12, k)))))) else (bif Nat.ble r 17 then (bif Nat.ble r 14 then ((0, 0)) else (bif Nat.ble r 15 then ((16, k)) else ((0, 0)))) else ((0, 0)))) else (bif Nat.ble r 36 then (bif Nat.ble r 30 then (bif Nat.ble r 27 then (bif Nat.ble r 25 then ((0, 0)) else (bif Nat.ble r 26 then ((0, 0)) else ((28, k)))) else ((0, 0))) else (bif Nat.ble r 33 then (bif Nat.ble r 31 then ((0, 0)) else (bif Nat.ble r 32 then ((33, k)) else ((0, 0)))) else (bif Nat.ble r 34 then ((0, 0)) else (bif Nat.ble r 35 then ((36, k)) else ((0, 0)))))) else (bif Nat.ble r 42 then (bif Nat.ble r 39 then (bif Nat.ble r 37 then ((0, 0)) else (bif Nat.ble r 38 then ((39, k)) else ((0, 0)))) else ((0, 0))) else (bif Nat.ble r 45 then (bif Nat.ble r 43 then ((0, 0)) else (bif Nat.ble r 44 then ((0, 0)) else ((47, k)))) else (bif Nat.ble r 47 then ((0, 0)) else (bif Nat.ble r 48 then ((49, 64 * i + k)) else ((0, 0)))))))) else (bif Nat.ble r 74 then (bif Nat.ble r 61 then (bif Nat.ble r 55 then (bif Nat.ble r 52 then (bif Nat.ble r 50 then ((51, 64 * i + k)) else ((0, 0))) else (bif Nat.ble r 53 then ((0, 0)) else (bif Nat.ble r 54 then ((55, 64 * i + k)) else ((0, 0))))) else (bif Nat.ble r 58 then (bif Nat.ble r 56 then ((57, 64 * i + k)) else ((0, 0))) else ((0, 0)))) else (bif Nat.ble r 67 then (bif Nat.ble r 64 then (bif Nat.ble r 62 then ((0, 0)) else (bif Nat.ble r 63 then ((0, 0)) else ((65, k)))) else ((0, 0))) else (bif Nat.ble r 70 then (bif Nat.ble r 68 then ((69, k)) else ((0, 0))) else ((0, 0))))) else ((0, 0)))
def G0b (r k : Nat) : Bool := bif Nat.ble r 49 then (bif Nat.ble r 24 then (false) else (bif Nat.ble r 36 then (false) else (bif Nat.ble r 42 then (bif Nat.ble r 39 then (false) else (bif Nat.ble r 40 then (false) else (bif Nat.ble r 41 then (false) else (bif Nat.ble k 2 then (bif Nat.ble k 0 then (false) else (bif Nat.ble k 1 then (true) else (false))) else (false))))) else (false)))) else (bif Nat.ble r 74 then (bif Nat.ble r 61 then (false) else (bif Nat.ble r 67 then (bif Nat.ble r 64 then (false) else (bif Nat.ble r 65 then (false) else (bif Nat.ble r 66 then (bif Nat.ble k 1 then (bif Nat.ble k 0 then (false) else (true)) else (false)) else (false)))) else (bif Nat.ble r 70 then (false) else (bif Nat.ble r 72 then (bif Nat.ble r 71 then (bif Nat.ble k 20 then (false) else (bif Nat.ble k 30 then (false) else (bif Nat.ble k 35 then (false) else (bif Nat.ble k 38 then (false) else (bif Nat.ble k 39 then (false) else (bif Nat.ble k 40 then (false) else (true))))))) else (false)) else (false))))) else (false))
def G0 : mG := (G0k, G0c, G0n, G0f, G0e, G0b)
/-- classes, addresses, the arrays' classes, the cells, what may be written -/
abbrev mEv : Type := va_G × (Nat → Nat → Nat) × (Nat → ClassId) × List (Nat × Nat) × (Nat → Prop)
def mw0 (e : mEv) : mWd := (G0, e.1, e.2.1, e.2.2.1, e.2.2.2.1, e.2.2.2.2, vwCl, lw_nest)
