def SHc0 : List SH := [.inl 10, .inl 0, .inr (0, 5), .inr (0, 60), .inr (0, 24), .inr (0, 10), .inr (0, 64), .inr (0, 16), .inr (0, 40), .inr (0, 1600), .inr (0, 7), .inr (0, 6), .inr (0, 100), .inr (0, 100), .inl 0, .inr (0, 5), .inr (0, 60), .inr (0, 24), .inr (0, 10), .inr (0, 64), .inr (0, 16), .inr (0, 40), .inr (0, 1600), .inr (0, 7), .inr (0, 6), .inr (0, 100), .inr (0, 100), .inr (0, 1600), .inl 7, .inr (0, 1601), .inr (0, 1601), .inr (0, 1601), .inl 9, .inr (0, 102), .inr (0, 102), .inr (0, 2142), .inr (4, 4), .inl 8, .inr (0, 25), .inr (0, 25), .inr (0, 25), .inr (0, 25), .inl 8, .inr (0, 25), .inr (0, 25), .inr (0, 25), .inr (0, 25), .inl 8, .inr (0, 25), .inr (0, 25), .inr (0, 25), .inr (0, 25), .inl 8, .inr (0, 25), .inr (0, 25), .inr (0, 25), .inr (0, 25), .inl 3, .inr (0, 1201), .inr (0, 1201), .inr (0, 1201), .inr (0, 1201), .inl 1, .inr (1, 12672), .inr (0, 2112), .inr (0, 64), .inr (0, 5), .inl 4, .inr (0, 1000), .inl 5, .inr (4, 80), .inr (0, 4), .inr (0, 244), .inr (0, 244), .inr (0, 10), .inr (1, 366), .inr (1, 366), .inl 8, .inr (0, 10), .inr (0, 10), .inr (0, 10), .inr (0, 10), .inl 8, .inr (0, 10), .inr (0, 10), .inr (0, 10), .inr (0, 10), .inl 8, .inr (0, 10), .inr (0, 10), .inr (0, 10), .inr (0, 10), .inl 8, .inr (0, 10), .inr (0, 10), .inr (0, 10), .inr (0, 10), .inl 8, .inr (0, 10), .inr (0, 10)]
def SHc1 : List SH := [.inr (0, 10), .inr (0, 10), .inl 8, .inr (0, 10), .inr (0, 10), .inr (0, 10), .inr (0, 10), .inl 8, .inr (0, 10), .inr (0, 10), .inr (0, 10), .inr (0, 10), .inl 8, .inr (0, 10), .inr (0, 10), .inr (0, 10), .inr (0, 10), .inl 8, .inr (0, 10), .inr (0, 10), .inr (0, 10), .inr (0, 10), .inl 8, .inr (0, 10), .inr (0, 10), .inr (0, 10), .inr (0, 10), .inl 8, .inr (0, 10), .inr (0, 10), .inr (0, 10), .inr (0, 10), .inl 8, .inr (0, 10), .inr (0, 10), .inr (0, 10), .inr (0, 10), .inl 8, .inr (0, 10), .inr (0, 10), .inr (0, 10), .inr (0, 10), .inl 8, .inr (0, 10), .inr (0, 10), .inr (0, 10), .inr (0, 10), .inl 8, .inr (0, 10), .inr (0, 10), .inr (0, 10), .inr (0, 10), .inl 8, .inr (0, 10), .inr (0, 10), .inr (0, 10), .inr (0, 10), .inl 8, .inr (0, 10), .inr (0, 10), .inr (0, 10), .inr (0, 10), .inl 8, .inr (0, 10), .inr (0, 10), .inr (0, 10), .inr (0, 10), .inl 8, .inr (0, 10), .inr (0, 10), .inr (0, 10), .inr (0, 10), .inl 8, .inr (0, 10), .inr (0, 10), .inr (0, 10), .inr (0, 10), .inl 8, .inr (0, 10), .inr (0, 10), .inr (0, 10), .inr (0, 10), .inl 8, .inr (0, 10), .inr (0, 10), .inr (0, 10), .inr (0, 10), .inl 8, .inr (0, 10), .inr (0, 10), .inr (0, 10), .inr (0, 10), .inl 8, .inr (0, 10), .inr (0, 10), .inr (0, 10), .inr (0, 10), .inl 8, .inr (0, 10), .inr (0, 10)]
def SHc2 : List SH := [.inr (0, 10), .inr (0, 10), .inl 8, .inr (0, 10), .inr (0, 10), .inr (0, 10), .inr (0, 10), .inl 8, .inr (0, 10), .inr (0, 10), .inr (0, 10), .inr (0, 10), .inl 8, .inr (0, 10), .inr (0, 10), .inr (0, 10), .inr (0, 10), .inl 8, .inr (0, 10), .inr (0, 10), .inr (0, 10), .inr (0, 10), .inl 8, .inr (0, 10), .inr (0, 10), .inr (0, 10), .inr (0, 10), .inl 8, .inr (0, 10), .inr (0, 10), .inr (0, 10), .inr (0, 10), .inl 8, .inr (0, 10), .inr (0, 10), .inr (0, 10), .inr (0, 10), .inl 8, .inr (0, 10), .inr (0, 10), .inr (0, 10), .inr (0, 10), .inl 8, .inr (0, 10), .inr (0, 10), .inr (0, 10), .inr (0, 10), .inl 8, .inr (0, 10), .inr (0, 10), .inr (0, 10), .inr (0, 10), .inl 8, .inr (0, 10), .inr (0, 10), .inr (0, 10), .inr (0, 10), .inl 8, .inr (0, 10), .inr (0, 10), .inr (0, 10), .inr (0, 10), .inl 8, .inr (0, 10), .inr (0, 10), .inr (0, 10), .inr (0, 10), .inl 8, .inr (0, 10), .inr (0, 10), .inr (0, 10), .inr (0, 10), .inl 8, .inr (0, 10), .inr (0, 10), .inr (0, 10), .inr (0, 10), .inl 8, .inr (0, 10), .inr (0, 10), .inr (0, 10), .inr (0, 10), .inl 8, .inr (0, 10), .inr (0, 10), .inr (0, 10), .inr (0, 10), .inl 8, .inr (0, 10), .inr (0, 10), .inr (0, 10), .inr (0, 10), .inl 8, .inr (0, 10), .inr (0, 10), .inr (0, 10), .inr (0, 10), .inl 8, .inr (0, 10), .inr (0, 10)]
def SHc3 : List SH := [.inr (0, 10), .inr (0, 10), .inl 8, .inr (0, 10), .inr (0, 10), .inr (0, 10), .inr (0, 10), .inl 8, .inr (0, 10), .inr (0, 10), .inr (0, 10), .inr (0, 10), .inl 8, .inr (0, 10), .inr (0, 10), .inr (0, 10), .inr (0, 10), .inl 8, .inr (0, 10), .inr (0, 10), .inr (0, 10), .inr (0, 10), .inl 8, .inr (0, 10), .inr (0, 10), .inr (0, 10), .inr (0, 10), .inl 8, .inr (0, 10), .inr (0, 10), .inr (0, 10), .inr (0, 10), .inl 8, .inr (0, 10), .inr (0, 10), .inr (0, 10), .inr (0, 10), .inl 8, .inr (0, 10), .inr (0, 10), .inr (0, 10), .inr (0, 10), .inl 8, .inr (0, 10), .inr (0, 10), .inr (0, 10), .inr (0, 10), .inl 8, .inr (0, 10), .inr (0, 10), .inr (0, 10), .inr (0, 10), .inl 8, .inr (0, 10), .inr (0, 10), .inr (0, 10), .inr (0, 10), .inl 8, .inr (0, 10), .inr (0, 10), .inr (0, 10), .inr (0, 10), .inl 8, .inr (0, 10), .inr (0, 10), .inr (0, 10), .inr (0, 10), .inl 8, .inr (0, 10), .inr (0, 10), .inr (0, 10), .inr (0, 10), .inl 8, .inr (0, 10), .inr (0, 10), .inr (0, 10), .inr (0, 10), .inl 8, .inr (0, 10), .inr (0, 10), .inr (0, 10), .inr (0, 10), .inl 8, .inr (0, 10), .inr (0, 10), .inr (0, 10), .inr (0, 10), .inl 8, .inr (0, 10), .inr (0, 10), .inr (0, 10), .inr (0, 10), .inl 8, .inr (0, 10), .inr (0, 10), .inr (0, 10), .inr (0, 10), .inl 8, .inr (0, 10), .inr (0, 10)]
def SHc4 : List SH := [.inr (0, 10), .inr (0, 10), .inl 8, .inr (0, 10), .inr (0, 10), .inr (0, 10), .inr (0, 10), .inl 8, .inr (0, 10), .inr (0, 10), .inr (0, 10), .inr (0, 10), .inl 8, .inr (0, 10), .inr (0, 10), .inr (0, 10), .inr (0, 10), .inl 8, .inr (0, 10), .inr (0, 10), .inr (0, 10), .inr (0, 10), .inl 8, .inr (0, 10), .inr (0, 10), .inr (0, 10), .inr (0, 10), .inl 8, .inr (0, 10), .inr (0, 10), .inr (0, 10), .inr (0, 10), .inl 8, .inr (0, 10), .inr (0, 10), .inr (0, 10), .inr (0, 10), .inl 8, .inr (0, 10), .inr (0, 10), .inr (0, 10), .inr (0, 10), .inl 8, .inr (0, 10), .inr (0, 10), .inr (0, 10), .inr (0, 10), .inl 8, .inr (0, 10), .inr (0, 10), .inr (0, 10), .inr (0, 10), .inl 8, .inr (0, 10), .inr (0, 10), .inr (0, 10), .inr (0, 10), .inl 8, .inr (0, 10), .inr (0, 10), .inr (0, 10), .inr (0, 10), .inl 8, .inr (0, 10), .inr (0, 10), .inr (0, 10), .inr (0, 10), .inl 8, .inr (0, 10), .inr (0, 10), .inr (0, 10), .inr (0, 10), .inl 8, .inr (0, 10), .inr (0, 10), .inr (0, 10), .inr (0, 10), .inl 6, .inr (1, 20), .inr (0, 4), .inr (0, 4), .inr (0, 4), .inl 2, .inr (0, 183), .inr (0, 183), .inr (0, 183), .inr (2, 183), .inr (0, 3), .inr (0, 104), .inl 11, .inr (0, 1600), .inr (3, 6), .inr (3, 6), .inr (3, 4), .inr (3, 4), .inr (3, 5), .inr (3, 5), .inr (3, 2), .inr (3, 4), .inr (3, 4)]
def SHc5 : List SH := [.inr (3, 6), .inr (3, 7), .inr (3, 4), .inr (3, 2), .inr (3, 5), .inr (3, 3), .inr (3, 4), .inr (3, 2), .inr (3, 3), .inr (3, 3), .inr (3, 3), .inr (3, 6), .inr (3, 4), .inr (3, 3), .inr (3, 5), .inr (3, 6), .inr (3, 3), .inr (3, 3), .inr (0, 10), .inr (1, 40), .inr (0, 20), .inr (0, 128), .inr (0, 32), .inr (0, 80), .inr (0, 3200), .inr (0, 1700), .inr (0, 12), .inr (0, 12), .inr (0, 12), .inr (1, 1700), .inr (0, 5), .inr (0, 100), .inr (0, 244), .inr (0, 5856), .inr (0, 5856), .inr (0, 5856), .inr (0, 80), .inr (0, 1920), .inr (0, 1920), .inr (0, 1920), .inr (0, 20), .inr (0, 20), .inr (0, 4), .inr (0, 96), .inr (0, 96), .inr (0, 96), .inr (0, 4), .inr (0, 800), .inr (0, 10), .inr (0, 59536), .inr (0, 4), .inr (0, 4), .inr (0, 4), .inr (0, 4), .inr (0, 183), .inr (0, 183), .inr (0, 104)]
def SH0 : List SH := SHc0 ++ (SHc1 ++ (SHc2 ++ (SHc3 ++ (SHc4 ++ (SHc5)))))
def RRc0 : List (List (Option Nat)) := [[some 1, some 14, some 27, some 28, some 32, some 57, some 62, some 67, some 69, some 477, some 482, some 488], [some 2, some 3, some 4, some 5, some 6, some 7, some 8, some 9, some 10, some 11, some 12, some 13], [], [], [], [], [], [], [], [], [], [], [], [], [some 15, some 16, some 17, some 18, some 19, some 20, some 21, some 22, some 23, some 24, some 25, some 26], [], [], [], [], [], [], [], [], [], [], [], [], [], [some 14, some 27, some 29, some 30, some 31], [], [], [], [some 1, some 33, some 34, some 35, some 36], [], [], [], [some 37, some 42, some 47, some 52], [some 38, some 39, some 40, some 41], [], [], [], [], [some 43, some 44, some 45, some 46], [], [], [], [], [some 48, some 49, some 50, some 51], [], [], [], [], [some 53, some 54, some 55, some 56], [], [], [], [], [some 1, some 58, some 59, some 60, some 61], [], [], [], [], [some 1, some 63, some 64, some 65, some 66], [], [], [], [], [some 1, some 32, some 57, some 62, some 68], [], [some 1, some 32, some 57, some 62, some 70, some 71, some 72, some 73, some 74, some 75, some 76], [some 77, some 82, some 87, some 92, some 97, some 102, some 107, some 112, some 117, some 122, some 127, some 132, some 137, some 142, some 147, some 152, some 157, some 162, some 167, some 172, some 177, some 182, some 187, some 192, some 197, some 202, some 207, some 212, some 217, some 222, some 227, some 232, some 237, some 242, some 247, some 252, some 257, some 262, some 267, some 272, some 277, some 282, some 287, some 292, some 297, some 302, some 307, some 312, some 317, some 322, some 327, some 332, some 337, some 342, some 347, some 352, some 357, some 362, some 367, some 372, some 377, some 382, some 387, some 392, some 397, some 402, some 407, some 412, some 417, some 422, some 427, some 432, some 437, some 442, some 447, some 452, some 457, some 462, some 467, some 472], [], [], [], [], [], [], [some 78, some 79, some 80, some 81], [], [], [], [], [some 83, some 84, some 85, some 86], [], [], [], [], [some 88, some 89, some 90, some 91], [], [], [], [], [some 93, some 94, some 95, some 96], [], [], [], [], [some 98, some 99, some 100, some 101], [], []]
def RRc1 : List (List (Option Nat)) := [[], [], [some 103, some 104, some 105, some 106], [], [], [], [], [some 108, some 109, some 110, some 111], [], [], [], [], [some 113, some 114, some 115, some 116], [], [], [], [], [some 118, some 119, some 120, some 121], [], [], [], [], [some 123, some 124, some 125, some 126], [], [], [], [], [some 128, some 129, some 130, some 131], [], [], [], [], [some 133, some 134, some 135, some 136], [], [], [], [], [some 138, some 139, some 140, some 141], [], [], [], [], [some 143, some 144, some 145, some 146], [], [], [], [], [some 148, some 149, some 150, some 151], [], [], [], [], [some 153, some 154, some 155, some 156], [], [], [], [], [some 158, some 159, some 160, some 161], [], [], [], [], [some 163, some 164, some 165, some 166], [], [], [], [], [some 168, some 169, some 170, some 171], [], [], [], [], [some 173, some 174, some 175, some 176], [], [], [], [], [some 178, some 179, some 180, some 181], [], [], [], [], [some 183, some 184, some 185, some 186], [], [], [], [], [some 188, some 189, some 190, some 191], [], [], [], [], [some 193, some 194, some 195, some 196], [], [], [], [], [some 198, some 199, some 200, some 201], [], []]
def RRc2 : List (List (Option Nat)) := [[], [], [some 203, some 204, some 205, some 206], [], [], [], [], [some 208, some 209, some 210, some 211], [], [], [], [], [some 213, some 214, some 215, some 216], [], [], [], [], [some 218, some 219, some 220, some 221], [], [], [], [], [some 223, some 224, some 225, some 226], [], [], [], [], [some 228, some 229, some 230, some 231], [], [], [], [], [some 233, some 234, some 235, some 236], [], [], [], [], [some 238, some 239, some 240, some 241], [], [], [], [], [some 243, some 244, some 245, some 246], [], [], [], [], [some 248, some 249, some 250, some 251], [], [], [], [], [some 253, some 254, some 255, some 256], [], [], [], [], [some 258, some 259, some 260, some 261], [], [], [], [], [some 263, some 264, some 265, some 266], [], [], [], [], [some 268, some 269, some 270, some 271], [], [], [], [], [some 273, some 274, some 275, some 276], [], [], [], [], [some 278, some 279, some 280, some 281], [], [], [], [], [some 283, some 284, some 285, some 286], [], [], [], [], [some 288, some 289, some 290, some 291], [], [], [], [], [some 293, some 294, some 295, some 296], [], [], [], [], [some 298, some 299, some 300, some 301], [], []]
def RRc3 : List (List (Option Nat)) := [[], [], [some 303, some 304, some 305, some 306], [], [], [], [], [some 308, some 309, some 310, some 311], [], [], [], [], [some 313, some 314, some 315, some 316], [], [], [], [], [some 318, some 319, some 320, some 321], [], [], [], [], [some 323, some 324, some 325, some 326], [], [], [], [], [some 328, some 329, some 330, some 331], [], [], [], [], [some 333, some 334, some 335, some 336], [], [], [], [], [some 338, some 339, some 340, some 341], [], [], [], [], [some 343, some 344, some 345, some 346], [], [], [], [], [some 348, some 349, some 350, some 351], [], [], [], [], [some 353, some 354, some 355, some 356], [], [], [], [], [some 358, some 359, some 360, some 361], [], [], [], [], [some 363, some 364, some 365, some 366], [], [], [], [], [some 368, some 369, some 370, some 371], [], [], [], [], [some 373, some 374, some 375, some 376], [], [], [], [], [some 378, some 379, some 380, some 381], [], [], [], [], [some 383, some 384, some 385, some 386], [], [], [], [], [some 388, some 389, some 390, some 391], [], [], [], [], [some 393, some 394, some 395, some 396], [], [], [], [], [some 398, some 399, some 400, some 401], [], []]
def RRc4 : List (List (Option Nat)) := [[], [], [some 403, some 404, some 405, some 406], [], [], [], [], [some 408, some 409, some 410, some 411], [], [], [], [], [some 413, some 414, some 415, some 416], [], [], [], [], [some 418, some 419, some 420, some 421], [], [], [], [], [some 423, some 424, some 425, some 426], [], [], [], [], [some 428, some 429, some 430, some 431], [], [], [], [], [some 433, some 434, some 435, some 436], [], [], [], [], [some 438, some 439, some 440, some 441], [], [], [], [], [some 443, some 444, some 445, some 446], [], [], [], [], [some 448, some 449, some 450, some 451], [], [], [], [], [some 453, some 454, some 455, some 456], [], [], [], [], [some 458, some 459, some 460, some 461], [], [], [], [], [some 463, some 464, some 465, some 466], [], [], [], [], [some 468, some 469, some 470, some 471], [], [], [], [], [some 473, some 474, some 475, some 476], [], [], [], [], [some 1, some 32, some 69, some 478, some 479, some 480, some 481], [], [], [], [], [some 1, some 69, some 483, some 484, some 485, some 486, some 487], [], [], [], [], [], [], [some 490, none, none, none, none, none, none, none, none, some 491, some 492, some 493, some 494, some 495, some 496, some 497, some 498, some 499, some 500, some 501, some 502, some 503, some 504, some 505, some 506, some 507, some 508, some 509, some 510, some 511, some 512, some 513, some 514, some 515, some 516, some 517, none, some 518, some 519, some 520, some 521, some 522, some 523, none, none, none, some 524, none, some 525, none, none, some 526, some 527, some 528, none, some 529, none, some 530, some 531, some 532, some 533, some 534, some 535, none, none, some 536, some 537, some 538, some 539, some 540, some 541, none, none, some 542, some 543, some 544, some 545, some 546, some 547, some 548, some 549, some 550, some 551, none, none, some 552, some 553, some 554, some 555, some 556], [], [], [], [], [], [], [], [], [], []]
def RRc5 : List (List (Option Nat)) := [[], [], [], [], [], [], [], [], [], [], [], [], [], [], [], [], [], [], [], [], [], [], [], [], [], [], [], [], [], [], [], [], [], [], [], [], [], [], [], [], [], [], [], [], [], [], [], [], [], [], [], [], [], [], [], [], []]
def RRL : List (List (Option Nat)) := RRc0 ++ (RRc1 ++ (RRc2 ++ (RRc3 ++ (RRc4 ++ (RRc5)))))
def RR0 (k j : Nat) : Option Nat := (RRL.getD k []).getD j none
abbrev HI : Type := Nat → Nat → Int
abbrev mk (I : HI) : AH := (SH0, RR0, I)
theorem sh_0 : SH0[0]? = some (.inl 10) := by decide +kernel
theorem rr_0_0 : RR0 0 0 = some 1 := by decide +kernel
theorem rr_0_1 : RR0 0 1 = some 14 := by decide +kernel
theorem rr_0_2 : RR0 0 2 = some 27 := by decide +kernel
theorem rr_0_3 : RR0 0 3 = some 28 := by decide +kernel
theorem rr_0_4 : RR0 0 4 = some 32 := by decide +kernel
theorem rr_0_5 : RR0 0 5 = some 57 := by decide +kernel
theorem rr_0_6 : RR0 0 6 = some 62 := by decide +kernel
theorem rr_0_7 : RR0 0 7 = some 67 := by decide +kernel
theorem rr_0_8 : RR0 0 8 = some 69 := by decide +kernel
theorem rr_0_9 : RR0 0 9 = some 477 := by decide +kernel
theorem rr_0_10 : RR0 0 10 = some 482 := by decide +kernel
theorem rr_0_11 : RR0 0 11 = some 488 := by decide +kernel
theorem sh_1 : SH0[1]? = some (.inl 0) := by decide +kernel
theorem rr_1_0 : RR0 1 0 = some 2 := by decide +kernel
theorem rr_1_1 : RR0 1 1 = some 3 := by decide +kernel
theorem rr_1_2 : RR0 1 2 = some 4 := by decide +kernel
theorem rr_1_3 : RR0 1 3 = some 5 := by decide +kernel
theorem rr_1_4 : RR0 1 4 = some 6 := by decide +kernel
theorem rr_1_5 : RR0 1 5 = some 7 := by decide +kernel
theorem rr_1_6 : RR0 1 6 = some 8 := by decide +kernel
theorem rr_1_7 : RR0 1 7 = some 9 := by decide +kernel
theorem rr_1_8 : RR0 1 8 = some 10 := by decide +kernel
theorem rr_1_9 : RR0 1 9 = some 11 := by decide +kernel
theorem rr_1_10 : RR0 1 10 = some 12 := by decide +kernel
theorem rr_1_11 : RR0 1 11 = some 13 := by decide +kernel
theorem sh_2 : SH0[2]? = some (.inr (0, 5)) := by decide +kernel
theorem sh_3 : SH0[3]? = some (.inr (0, 60)) := by decide +kernel
theorem sh_4 : SH0[4]? = some (.inr (0, 24)) := by decide +kernel
theorem sh_5 : SH0[5]? = some (.inr (0, 10)) := by decide +kernel
theorem sh_6 : SH0[6]? = some (.inr (0, 64)) := by decide +kernel
theorem sh_7 : SH0[7]? = some (.inr (0, 16)) := by decide +kernel
theorem sh_8 : SH0[8]? = some (.inr (0, 40)) := by decide +kernel
theorem sh_9 : SH0[9]? = some (.inr (0, 1600)) := by decide +kernel
theorem sh_10 : SH0[10]? = some (.inr (0, 7)) := by decide +kernel
theorem sh_11 : SH0[11]? = some (.inr (0, 6)) := by decide +kernel
theorem sh_12 : SH0[12]? = some (.inr (0, 100)) := by decide +kernel
theorem sh_13 : SH0[13]? = some (.inr (0, 100)) := by decide +kernel
theorem sh_14 : SH0[14]? = some (.inl 0) := by decide +kernel
theorem rr_14_0 : RR0 14 0 = some 15 := by decide +kernel
theorem rr_14_1 : RR0 14 1 = some 16 := by decide +kernel
theorem rr_14_2 : RR0 14 2 = some 17 := by decide +kernel
theorem rr_14_3 : RR0 14 3 = some 18 := by decide +kernel
theorem rr_14_4 : RR0 14 4 = some 19 := by decide +kernel
theorem rr_14_5 : RR0 14 5 = some 20 := by decide +kernel
theorem rr_14_6 : RR0 14 6 = some 21 := by decide +kernel
theorem rr_14_7 : RR0 14 7 = some 22 := by decide +kernel
theorem rr_14_8 : RR0 14 8 = some 23 := by decide +kernel
theorem rr_14_9 : RR0 14 9 = some 24 := by decide +kernel
theorem rr_14_10 : RR0 14 10 = some 25 := by decide +kernel
theorem rr_14_11 : RR0 14 11 = some 26 := by decide +kernel
theorem sh_15 : SH0[15]? = some (.inr (0, 5)) := by decide +kernel
theorem sh_16 : SH0[16]? = some (.inr (0, 60)) := by decide +kernel
theorem sh_17 : SH0[17]? = some (.inr (0, 24)) := by decide +kernel
theorem sh_18 : SH0[18]? = some (.inr (0, 10)) := by decide +kernel
theorem sh_19 : SH0[19]? = some (.inr (0, 64)) := by decide +kernel
theorem sh_20 : SH0[20]? = some (.inr (0, 16)) := by decide +kernel
theorem sh_21 : SH0[21]? = some (.inr (0, 40)) := by decide +kernel
theorem sh_22 : SH0[22]? = some (.inr (0, 1600)) := by decide +kernel
theorem sh_23 : SH0[23]? = some (.inr (0, 7)) := by decide +kernel
theorem sh_24 : SH0[24]? = some (.inr (0, 6)) := by decide +kernel
theorem sh_25 : SH0[25]? = some (.inr (0, 100)) := by decide +kernel
theorem sh_26 : SH0[26]? = some (.inr (0, 100)) := by decide +kernel
theorem sh_27 : SH0[27]? = some (.inr (0, 1600)) := by decide +kernel
theorem sh_28 : SH0[28]? = some (.inl 7) := by decide +kernel
theorem rr_28_0 : RR0 28 0 = some 14 := by decide +kernel
theorem rr_28_1 : RR0 28 1 = some 27 := by decide +kernel
theorem rr_28_2 : RR0 28 2 = some 29 := by decide +kernel
theorem rr_28_3 : RR0 28 3 = some 30 := by decide +kernel
theorem rr_28_4 : RR0 28 4 = some 31 := by decide +kernel
theorem sh_29 : SH0[29]? = some (.inr (0, 1601)) := by decide +kernel
theorem sh_30 : SH0[30]? = some (.inr (0, 1601)) := by decide +kernel
theorem sh_31 : SH0[31]? = some (.inr (0, 1601)) := by decide +kernel
theorem sh_32 : SH0[32]? = some (.inl 9) := by decide +kernel
theorem rr_32_0 : RR0 32 0 = some 1 := by decide +kernel
theorem rr_32_1 : RR0 32 1 = some 33 := by decide +kernel
theorem rr_32_2 : RR0 32 2 = some 34 := by decide +kernel
theorem rr_32_3 : RR0 32 3 = some 35 := by decide +kernel
theorem rr_32_4 : RR0 32 4 = some 36 := by decide +kernel
theorem sh_33 : SH0[33]? = some (.inr (0, 102)) := by decide +kernel
theorem sh_34 : SH0[34]? = some (.inr (0, 102)) := by decide +kernel
theorem sh_35 : SH0[35]? = some (.inr (0, 2142)) := by decide +kernel
theorem sh_36 : SH0[36]? = some (.inr (4, 4)) := by decide +kernel
theorem sh_57 : SH0[57]? = some (.inl 3) := by decide +kernel
theorem rr_57_0 : RR0 57 0 = some 1 := by decide +kernel
theorem rr_57_1 : RR0 57 1 = some 58 := by decide +kernel
theorem rr_57_2 : RR0 57 2 = some 59 := by decide +kernel
theorem rr_57_3 : RR0 57 3 = some 60 := by decide +kernel
theorem rr_57_4 : RR0 57 4 = some 61 := by decide +kernel
theorem sh_58 : SH0[58]? = some (.inr (0, 1201)) := by decide +kernel
theorem sh_59 : SH0[59]? = some (.inr (0, 1201)) := by decide +kernel
theorem sh_60 : SH0[60]? = some (.inr (0, 1201)) := by decide +kernel
theorem sh_61 : SH0[61]? = some (.inr (0, 1201)) := by decide +kernel
theorem sh_62 : SH0[62]? = some (.inl 1) := by decide +kernel
theorem rr_62_0 : RR0 62 0 = some 1 := by decide +kernel
theorem rr_62_1 : RR0 62 1 = some 63 := by decide +kernel
theorem rr_62_2 : RR0 62 2 = some 64 := by decide +kernel
theorem rr_62_3 : RR0 62 3 = some 65 := by decide +kernel
theorem rr_62_4 : RR0 62 4 = some 66 := by decide +kernel
theorem sh_63 : SH0[63]? = some (.inr (1, 12672)) := by decide +kernel
theorem sh_64 : SH0[64]? = some (.inr (0, 2112)) := by decide +kernel
theorem sh_65 : SH0[65]? = some (.inr (0, 64)) := by decide +kernel
theorem sh_66 : SH0[66]? = some (.inr (0, 5)) := by decide +kernel
theorem sh_67 : SH0[67]? = some (.inl 4) := by decide +kernel
theorem rr_67_0 : RR0 67 0 = some 1 := by decide +kernel
theorem rr_67_1 : RR0 67 1 = some 32 := by decide +kernel
theorem rr_67_2 : RR0 67 2 = some 57 := by decide +kernel
theorem rr_67_3 : RR0 67 3 = some 62 := by decide +kernel
theorem rr_67_4 : RR0 67 4 = some 68 := by decide +kernel
theorem sh_68 : SH0[68]? = some (.inr (0, 1000)) := by decide +kernel
theorem sh_69 : SH0[69]? = some (.inl 5) := by decide +kernel
theorem rr_69_0 : RR0 69 0 = some 1 := by decide +kernel
theorem rr_69_1 : RR0 69 1 = some 32 := by decide +kernel
theorem rr_69_2 : RR0 69 2 = some 57 := by decide +kernel
theorem rr_69_3 : RR0 69 3 = some 62 := by decide +kernel
theorem rr_69_4 : RR0 69 4 = some 70 := by decide +kernel
theorem rr_69_5 : RR0 69 5 = some 71 := by decide +kernel
theorem rr_69_6 : RR0 69 6 = some 72 := by decide +kernel
theorem rr_69_7 : RR0 69 7 = some 73 := by decide +kernel
theorem rr_69_8 : RR0 69 8 = some 74 := by decide +kernel
theorem rr_69_9 : RR0 69 9 = some 75 := by decide +kernel
theorem rr_69_10 : RR0 69 10 = some 76 := by decide +kernel
theorem sh_70 : SH0[70]? = some (.inr (4, 80)) := by decide +kernel
theorem sh_71 : SH0[71]? = some (.inr (0, 4)) := by decide +kernel
theorem sh_72 : SH0[72]? = some (.inr (0, 244)) := by decide +kernel
theorem sh_73 : SH0[73]? = some (.inr (0, 244)) := by decide +kernel
theorem sh_74 : SH0[74]? = some (.inr (0, 10)) := by decide +kernel
theorem sh_75 : SH0[75]? = some (.inr (1, 366)) := by decide +kernel
theorem sh_76 : SH0[76]? = some (.inr (1, 366)) := by decide +kernel
theorem sh_477 : SH0[477]? = some (.inl 6) := by decide +kernel
theorem rr_477_0 : RR0 477 0 = some 1 := by decide +kernel
theorem rr_477_1 : RR0 477 1 = some 32 := by decide +kernel
theorem rr_477_2 : RR0 477 2 = some 69 := by decide +kernel
theorem rr_477_3 : RR0 477 3 = some 478 := by decide +kernel
theorem rr_477_4 : RR0 477 4 = some 479 := by decide +kernel
theorem rr_477_5 : RR0 477 5 = some 480 := by decide +kernel
theorem rr_477_6 : RR0 477 6 = some 481 := by decide +kernel
theorem sh_478 : SH0[478]? = some (.inr (1, 20)) := by decide +kernel
theorem sh_479 : SH0[479]? = some (.inr (0, 4)) := by decide +kernel
theorem sh_480 : SH0[480]? = some (.inr (0, 4)) := by decide +kernel
theorem sh_481 : SH0[481]? = some (.inr (0, 4)) := by decide +kernel
theorem sh_482 : SH0[482]? = some (.inl 2) := by decide +kernel
theorem rr_482_0 : RR0 482 0 = some 1 := by decide +kernel
theorem rr_482_1 : RR0 482 1 = some 69 := by decide +kernel
theorem rr_482_2 : RR0 482 2 = some 483 := by decide +kernel
theorem rr_482_3 : RR0 482 3 = some 484 := by decide +kernel
theorem rr_482_4 : RR0 482 4 = some 485 := by decide +kernel
theorem rr_482_5 : RR0 482 5 = some 486 := by decide +kernel
theorem rr_482_6 : RR0 482 6 = some 487 := by decide +kernel
theorem sh_483 : SH0[483]? = some (.inr (0, 183)) := by decide +kernel
theorem sh_484 : SH0[484]? = some (.inr (0, 183)) := by decide +kernel
theorem sh_485 : SH0[485]? = some (.inr (0, 183)) := by decide +kernel
theorem sh_486 : SH0[486]? = some (.inr (2, 183)) := by decide +kernel
theorem sh_487 : SH0[487]? = some (.inr (0, 3)) := by decide +kernel
theorem sh_488 : SH0[488]? = some (.inr (0, 104)) := by decide +kernel
theorem sh_489 : SH0[489]? = some (.inl 11) := by decide +kernel
theorem rr_489_0 : RR0 489 0 = some 490 := by decide +kernel
theorem rr_489_9 : RR0 489 9 = some 491 := by decide +kernel
theorem rr_489_10 : RR0 489 10 = some 492 := by decide +kernel
theorem rr_489_11 : RR0 489 11 = some 493 := by decide +kernel
theorem rr_489_12 : RR0 489 12 = some 494 := by decide +kernel
theorem rr_489_13 : RR0 489 13 = some 495 := by decide +kernel
theorem rr_489_14 : RR0 489 14 = some 496 := by decide +kernel
theorem rr_489_15 : RR0 489 15 = some 497 := by decide +kernel
theorem rr_489_16 : RR0 489 16 = some 498 := by decide +kernel
theorem rr_489_17 : RR0 489 17 = some 499 := by decide +kernel
theorem rr_489_18 : RR0 489 18 = some 500 := by decide +kernel
theorem rr_489_19 : RR0 489 19 = some 501 := by decide +kernel
theorem rr_489_20 : RR0 489 20 = some 502 := by decide +kernel
theorem rr_489_21 : RR0 489 21 = some 503 := by decide +kernel
theorem rr_489_22 : RR0 489 22 = some 504 := by decide +kernel
theorem rr_489_23 : RR0 489 23 = some 505 := by decide +kernel
theorem rr_489_24 : RR0 489 24 = some 506 := by decide +kernel
theorem rr_489_25 : RR0 489 25 = some 507 := by decide +kernel
theorem rr_489_26 : RR0 489 26 = some 508 := by decide +kernel
theorem rr_489_27 : RR0 489 27 = some 509 := by decide +kernel
theorem rr_489_28 : RR0 489 28 = some 510 := by decide +kernel
theorem rr_489_29 : RR0 489 29 = some 511 := by decide +kernel
theorem rr_489_30 : RR0 489 30 = some 512 := by decide +kernel
theorem rr_489_31 : RR0 489 31 = some 513 := by decide +kernel
theorem rr_489_32 : RR0 489 32 = some 514 := by decide +kernel
theorem rr_489_33 : RR0 489 33 = some 515 := by decide +kernel
theorem rr_489_34 : RR0 489 34 = some 516 := by decide +kernel
theorem rr_489_35 : RR0 489 35 = some 517 := by decide +kernel
theorem rr_489_37 : RR0 489 37 = some 518 := by decide +kernel
theorem rr_489_38 : RR0 489 38 = some 519 := by decide +kernel
theorem rr_489_39 : RR0 489 39 = some 520 := by decide +kernel
theorem rr_489_40 : RR0 489 40 = some 521 := by decide +kernel
theorem rr_489_41 : RR0 489 41 = some 522 := by decide +kernel
theorem rr_489_42 : RR0 489 42 = some 523 := by decide +kernel
theorem rr_489_46 : RR0 489 46 = some 524 := by decide +kernel
theorem rr_489_48 : RR0 489 48 = some 525 := by decide +kernel
theorem rr_489_51 : RR0 489 51 = some 526 := by decide +kernel
theorem rr_489_52 : RR0 489 52 = some 527 := by decide +kernel
theorem rr_489_53 : RR0 489 53 = some 528 := by decide +kernel
theorem rr_489_55 : RR0 489 55 = some 529 := by decide +kernel
theorem rr_489_57 : RR0 489 57 = some 530 := by decide +kernel
theorem rr_489_58 : RR0 489 58 = some 531 := by decide +kernel
theorem rr_489_59 : RR0 489 59 = some 532 := by decide +kernel
theorem rr_489_60 : RR0 489 60 = some 533 := by decide +kernel
theorem rr_489_61 : RR0 489 61 = some 534 := by decide +kernel
theorem rr_489_62 : RR0 489 62 = some 535 := by decide +kernel
theorem rr_489_65 : RR0 489 65 = some 536 := by decide +kernel
theorem rr_489_66 : RR0 489 66 = some 537 := by decide +kernel
theorem rr_489_67 : RR0 489 67 = some 538 := by decide +kernel
theorem rr_489_68 : RR0 489 68 = some 539 := by decide +kernel
theorem rr_489_69 : RR0 489 69 = some 540 := by decide +kernel
theorem rr_489_70 : RR0 489 70 = some 541 := by decide +kernel
theorem rr_489_73 : RR0 489 73 = some 542 := by decide +kernel
theorem rr_489_74 : RR0 489 74 = some 543 := by decide +kernel
theorem rr_489_75 : RR0 489 75 = some 544 := by decide +kernel
theorem rr_489_76 : RR0 489 76 = some 545 := by decide +kernel
theorem rr_489_77 : RR0 489 77 = some 546 := by decide +kernel
theorem rr_489_78 : RR0 489 78 = some 547 := by decide +kernel
theorem rr_489_79 : RR0 489 79 = some 548 := by decide +kernel
theorem rr_489_80 : RR0 489 80 = some 549 := by decide +kernel
theorem rr_489_81 : RR0 489 81 = some 550 := by decide +kernel
theorem rr_489_82 : RR0 489 82 = some 551 := by decide +kernel
theorem rr_489_85 : RR0 489 85 = some 552 := by decide +kernel
theorem rr_489_86 : RR0 489 86 = some 553 := by decide +kernel
theorem rr_489_87 : RR0 489 87 = some 554 := by decide +kernel
theorem rr_489_88 : RR0 489 88 = some 555 := by decide +kernel
theorem rr_489_89 : RR0 489 89 = some 556 := by decide +kernel
theorem sh_490 : SH0[490]? = some (.inr (0, 1600)) := by decide +kernel
theorem sh_491 : SH0[491]? = some (.inr (3, 6)) := by decide +kernel
theorem sh_492 : SH0[492]? = some (.inr (3, 6)) := by decide +kernel
theorem sh_493 : SH0[493]? = some (.inr (3, 4)) := by decide +kernel
theorem sh_494 : SH0[494]? = some (.inr (3, 4)) := by decide +kernel
theorem sh_495 : SH0[495]? = some (.inr (3, 5)) := by decide +kernel
theorem sh_496 : SH0[496]? = some (.inr (3, 5)) := by decide +kernel
theorem sh_497 : SH0[497]? = some (.inr (3, 2)) := by decide +kernel
theorem sh_498 : SH0[498]? = some (.inr (3, 4)) := by decide +kernel
theorem sh_499 : SH0[499]? = some (.inr (3, 4)) := by decide +kernel
theorem sh_500 : SH0[500]? = some (.inr (3, 6)) := by decide +kernel
theorem sh_501 : SH0[501]? = some (.inr (3, 7)) := by decide +kernel
theorem sh_502 : SH0[502]? = some (.inr (3, 4)) := by decide +kernel
theorem sh_503 : SH0[503]? = some (.inr (3, 2)) := by decide +kernel
theorem sh_504 : SH0[504]? = some (.inr (3, 5)) := by decide +kernel
theorem sh_505 : SH0[505]? = some (.inr (3, 3)) := by decide +kernel
theorem sh_506 : SH0[506]? = some (.inr (3, 4)) := by decide +kernel
theorem sh_507 : SH0[507]? = some (.inr (3, 2)) := by decide +kernel
theorem sh_508 : SH0[508]? = some (.inr (3, 3)) := by decide +kernel
theorem sh_509 : SH0[509]? = some (.inr (3, 3)) := by decide +kernel
theorem sh_510 : SH0[510]? = some (.inr (3, 3)) := by decide +kernel
theorem sh_511 : SH0[511]? = some (.inr (3, 6)) := by decide +kernel
theorem sh_512 : SH0[512]? = some (.inr (3, 4)) := by decide +kernel
theorem sh_513 : SH0[513]? = some (.inr (3, 3)) := by decide +kernel
theorem sh_514 : SH0[514]? = some (.inr (3, 5)) := by decide +kernel
theorem sh_515 : SH0[515]? = some (.inr (3, 6)) := by decide +kernel
theorem sh_516 : SH0[516]? = some (.inr (3, 3)) := by decide +kernel
theorem sh_517 : SH0[517]? = some (.inr (3, 3)) := by decide +kernel
theorem sh_518 : SH0[518]? = some (.inr (0, 10)) := by decide +kernel
theorem sh_519 : SH0[519]? = some (.inr (1, 40)) := by decide +kernel
theorem sh_520 : SH0[520]? = some (.inr (0, 20)) := by decide +kernel
theorem sh_521 : SH0[521]? = some (.inr (0, 128)) := by decide +kernel
theorem sh_522 : SH0[522]? = some (.inr (0, 32)) := by decide +kernel
theorem sh_523 : SH0[523]? = some (.inr (0, 80)) := by decide +kernel
theorem sh_524 : SH0[524]? = some (.inr (0, 3200)) := by decide +kernel
theorem sh_525 : SH0[525]? = some (.inr (0, 1700)) := by decide +kernel
theorem sh_526 : SH0[526]? = some (.inr (0, 12)) := by decide +kernel
theorem sh_527 : SH0[527]? = some (.inr (0, 12)) := by decide +kernel
theorem sh_528 : SH0[528]? = some (.inr (0, 12)) := by decide +kernel
theorem sh_529 : SH0[529]? = some (.inr (1, 1700)) := by decide +kernel
theorem sh_530 : SH0[530]? = some (.inr (0, 5)) := by decide +kernel
theorem sh_531 : SH0[531]? = some (.inr (0, 100)) := by decide +kernel
theorem sh_532 : SH0[532]? = some (.inr (0, 244)) := by decide +kernel
theorem sh_533 : SH0[533]? = some (.inr (0, 5856)) := by decide +kernel
theorem sh_534 : SH0[534]? = some (.inr (0, 5856)) := by decide +kernel
theorem sh_535 : SH0[535]? = some (.inr (0, 5856)) := by decide +kernel
theorem sh_536 : SH0[536]? = some (.inr (0, 80)) := by decide +kernel
theorem sh_537 : SH0[537]? = some (.inr (0, 1920)) := by decide +kernel
theorem sh_538 : SH0[538]? = some (.inr (0, 1920)) := by decide +kernel
theorem sh_539 : SH0[539]? = some (.inr (0, 1920)) := by decide +kernel
theorem sh_540 : SH0[540]? = some (.inr (0, 20)) := by decide +kernel
theorem sh_541 : SH0[541]? = some (.inr (0, 20)) := by decide +kernel
theorem sh_542 : SH0[542]? = some (.inr (0, 4)) := by decide +kernel
theorem sh_543 : SH0[543]? = some (.inr (0, 96)) := by decide +kernel
theorem sh_544 : SH0[544]? = some (.inr (0, 96)) := by decide +kernel
theorem sh_545 : SH0[545]? = some (.inr (0, 96)) := by decide +kernel
theorem sh_546 : SH0[546]? = some (.inr (0, 4)) := by decide +kernel
theorem sh_547 : SH0[547]? = some (.inr (0, 800)) := by decide +kernel
theorem sh_548 : SH0[548]? = some (.inr (0, 10)) := by decide +kernel
theorem sh_549 : SH0[549]? = some (.inr (0, 59536)) := by decide +kernel
theorem sh_550 : SH0[550]? = some (.inr (0, 4)) := by decide +kernel
theorem sh_551 : SH0[551]? = some (.inr (0, 4)) := by decide +kernel
theorem sh_552 : SH0[552]? = some (.inr (0, 4)) := by decide +kernel
theorem sh_553 : SH0[553]? = some (.inr (0, 4)) := by decide +kernel
theorem sh_554 : SH0[554]? = some (.inr (0, 183)) := by decide +kernel
theorem sh_555 : SH0[555]? = some (.inr (0, 183)) := by decide +kernel
theorem sh_556 : SH0[556]? = some (.inr (0, 104)) := by decide +kernel
def TR (t n : Nat) : Prop := SH0[t]? = some (.inl 8) ∧ RR0 t 0 = some (t + 1) ∧ RR0 t 1 = some (t + 2) ∧ RR0 t 2 = some (t + 3) ∧ RR0 t 3 = some (t + 4) ∧ SH0[t + 1]? = some (.inr (0, n)) ∧ SH0[t + 2]? = some (.inr (0, n)) ∧ SH0[t + 3]? = some (.inr (0, n)) ∧ SH0[t + 4]? = some (.inr (0, n))
def trB (t n : Nat) : Bool := decide (SH0[t]? = some (.inl 8)) && (decide (RR0 t 0 = some (t + 1)) && (decide (RR0 t 1 = some (t + 2)) && (decide (RR0 t 2 = some (t + 3)) && (decide (RR0 t 3 = some (t + 4)) && (decide (SH0[t + 1]? = some (.inr (0, n))) && (decide (SH0[t + 2]? = some (.inr (0, n))) && (decide (SH0[t + 3]? = some (.inr (0, n))) && decide (SH0[t + 4]? = some (.inr (0, n))))))))))
theorem trB_ok {t n : Nat} (h : trB t n = true) : TR t n := by
  unfold trB at h
  simp only [Bool.and_eq_true, decide_eq_true_eq] at h
  exact h
theorem TRw_b : (List.range 4).all (fun i => trB (37 + 5 * i) 25 && decide (RR0 36 i = some (37 + 5 * i))) = true := by decide +kernel
theorem TRo_b : (List.range 80).all (fun i => trB (77 + 5 * i) 10 && decide (RR0 70 i = some (77 + 5 * i))) = true := by decide +kernel
theorem TRw_all (i : Nat) (h : i < 4) : TR (37 + 5 * i) 25 ∧ RR0 36 i = some (37 + 5 * i) := by
  have q := List.all_eq_true.mp TRw_b i (List.mem_range.mpr h)
  simp only [Bool.and_eq_true, decide_eq_true_eq] at q
  exact ⟨trB_ok q.1, q.2⟩
theorem TRo_all (i : Nat) (h : i < 80) : TR (77 + 5 * i) 10 ∧ RR0 70 i = some (77 + 5 * i) := by
  have q := List.all_eq_true.mp TRo_b i (List.mem_range.mpr h)
  simp only [Bool.and_eq_true, decide_eq_true_eq] at q
  exact ⟨trB_ok q.1, q.2⟩
theorem TRw {i : Int} (h0 : 0 ≤ i) (h1 : i < 4) : TR (37 + 5 * i.toNat) 25 := (TRw_all i.toNat (by omega)).1
theorem TRo {i : Int} (h0 : 0 ≤ i) (h1 : i < 80) : TR (77 + 5 * i.toNat) 10 := (TRo_all i.toNat (by omega)).1
theorem RRw {i : Int} (h0 : 0 ≤ i) (h1 : i < 4) : RR0 36 i.toNat = some (37 + 5 * i.toNat) := (TRw_all i.toNat (by omega)).2
theorem RRo {i : Int} (h0 : 0 ≤ i) (h1 : i < 80) : RR0 70 i.toNat = some (77 + 5 * i.toNat) := (TRo_all i.toNat (by omega)).2
theorem ii_c {n : Int} (h : (decide (-2147483648 ≤ n) && decide (n ≤ 2147483647)) = true) : ii n := by
  simp only [Bool.and_eq_true, decide_eq_true_eq] at h
  exact h
theorem ll_c {n : Int} (h : (decide (-9223372036854775808 ≤ n) && decide (n ≤ 9223372036854775807)) = true) : ll n := by
  simp only [Bool.and_eq_true, decide_eq_true_eq] at h
  exact h
theorem lC_ge {x y : Int} : 0 ≤ lC x y ↔ y ≤ x := by 
  unfold lC
  split
  · omega
  · split <;> omega
theorem lC_lt {x y : Int} : lC x y < 0 ↔ x < y := by 
  unfold lC
  split
  · omega
  · split <;> omega
theorem lC_gt {x y : Int} : 0 < lC x y ↔ y < x := by 
  unfold lC
  split
  · omega
  · split <;> omega
theorem lC_le {x y : Int} : lC x y ≤ 0 ↔ x ≤ y := by 
  unfold lC
  split
  · omega
  · split <;> omega
theorem lC_eq {x y : Int} : lC x y = 0 ↔ x = y := by 
  unfold lC
  split
  · omega
  · split <;> omega
def PI (K : Int → HI → Prop) (r : Option AV) (σ : AH) : Prop := ∃ (x : Int) (I : HI), r = some (vI x) ∧ σ = mk I ∧ K x I
def PL (K : Int → HI → Prop) (r : Option AV) (σ : AH) : Prop := ∃ (x : Int) (I : HI), r = some (vL x) ∧ σ = mk I ∧ K x I
def PR (K : Nat → Nat → HI → Prop) (r : Option AV) (σ : AH) : Prop := ∃ (x n : Nat) (I : HI), r = some (vR x) ∧ σ = mk I ∧ TR x n ∧ K x n I
def PV (K : HI → Prop) (r : Option AV) (σ : AH) : Prop := ∃ (I : HI), r = none ∧ σ = mk I ∧ K I
def CI (M : MD) (d : Nat) (as : List AV) (I : HI) (K : Int → HI → Prop) : Prop := J none M d 0 0 0 (ent 0 as) [] (mk I) (PI K)
def CL (M : MD) (d : Nat) (as : List AV) (I : HI) (K : Int → HI → Prop) : Prop := J none M d 0 0 0 (ent 0 as) [] (mk I) (PL K)
def CR (M : MD) (d : Nat) (as : List AV) (I : HI) (K : Nat → Nat → HI → Prop) : Prop := J none M d 0 0 0 (ent 0 as) [] (mk I) (PR K)
def CV (M : MD) (d : Nat) (as : List AV) (I : HI) (K : HI → Prop) : Prop := J none M d 0 0 0 (ent 0 as) [] (mk I) (PV K)
section JM
variable {X : Option (Nat × (Nat → Int32))} {M M' : MD} {d mc ms pc : Nat} {ls : List (Nat × AV)} {st : List AV} {σ : AH} {Q Q1 : Option AV → AH → Prop}
theorem J_iaddN {x y : Int} (hd : decode M.2.1 pc = .ok (.iadd, 1)) (h : -2147483648 ≤ x + y ∧ x + y ≤ 2147483647) (k : J X M d mc ms (pc + 1) ls (vI (x + y) :: st) σ Q) : J X M d mc ms pc ls (vI y :: vI x :: st) σ Q :=
  J_iadd hd (by rw [wr_id h.1 h.2]; exact k)
theorem J_isubN {x y : Int} (hd : decode M.2.1 pc = .ok (.isub, 1)) (h : -2147483648 ≤ x - y ∧ x - y ≤ 2147483647) (k : J X M d mc ms (pc + 1) ls (vI (x - y) :: st) σ Q) : J X M d mc ms pc ls (vI y :: vI x :: st) σ Q :=
  J_isub hd (by rw [wr_id h.1 h.2]; exact k)
theorem J_imulN {x y : Int} (hd : decode M.2.1 pc = .ok (.imul, 1)) (h : -2147483648 ≤ x * y ∧ x * y ≤ 2147483647) (k : J X M d mc ms (pc + 1) ls (vI (x * y) :: st) σ Q) : J X M d mc ms pc ls (vI y :: vI x :: st) σ Q :=
  J_imul hd (by rw [wr_id h.1 h.2]; exact k)
theorem J_laddN {x y : Int} (hd : decode M.2.1 pc = .ok (.ladd, 1)) (h : -9223372036854775808 ≤ x + y ∧ x + y ≤ 9223372036854775807) (k : J X M d mc ms (pc + 1) ls (vL (x + y) :: st) σ Q) : J X M d mc ms pc ls (vL y :: vL x :: st) σ Q :=
  J_ladd hd (by rw [wl_id h.1 h.2]; exact k)
theorem J_lsubN {x y : Int} (hd : decode M.2.1 pc = .ok (.lsub, 1)) (h : -9223372036854775808 ≤ x - y ∧ x - y ≤ 9223372036854775807) (k : J X M d mc ms (pc + 1) ls (vL (x - y) :: st) σ Q) : J X M d mc ms pc ls (vL y :: vL x :: st) σ Q :=
  J_lsub hd (by rw [wl_id h.1 h.2]; exact k)
theorem J_lmulN {x y : Int} (hd : decode M.2.1 pc = .ok (.lmul, 1)) (h : -9223372036854775808 ≤ x * y ∧ x * y ≤ 9223372036854775807) (k : J X M d mc ms (pc + 1) ls (vL (x * y) :: st) σ Q) : J X M d mc ms pc ls (vL y :: vL x :: st) σ Q :=
  J_lmul hd (by rw [wl_id h.1 h.2]; exact k)
theorem J_iincN {x n : Int} {i : Nat} (hd : decode M.2.1 pc = .ok (.iinc i n, 3)) (hg : lget ls i = some (vI x)) (hn : i < M.2.2.1) (h : -2147483648 ≤ x + n ∧ x + n ≤ 2147483647) (k : J X M d mc ms (pc + 3) (lset ls i (vI (x + n))) st σ Q) : J X M d mc ms pc ls st σ Q :=
  J_iinc hd hg hn (by rw [wr_id h.1 h.2]; exact k)
theorem J_reti {x : Int} (hd : decode M.2.1 pc = .ok (.ireturn, 1)) (hr : M.2.2.2 = some .int) (hq : Q (some (vI x)) σ) : J X M d mc ms pc ls [vI x] σ Q := by
  intro p l e R s m args below meth c D B b dA E C0 S0 Z cx hR he H locs cells slots lsC hH hS h1 h2 hl hol hos
  exact J_ret (r := some (vI x)) hd (by rw [hr]; exact ok_h hos) rfl hq p l e R s m args below meth c D B b dA E C0 S0 Z cx hR he H locs cells slots lsC hH hS h1 h2 hl hol hos
theorem J_retz {x : Int} (hd : decode M.2.1 pc = .ok (.ireturn, 1)) (hr : M.2.2.2 = some .boolean) (hx : x = 0 ∨ x = 1) (hq : Q (some (vI x)) σ) : J X M d mc ms pc ls [vI x] σ Q :=
  J_ret (r := some (vI x)) hd (by rw [hr]; exact hx) rfl hq
theorem J_retl {x : Int} (hd : decode M.2.1 pc = .ok (.lreturn, 1)) (hr : M.2.2.2 = some .long) (hq : Q (some (vL x)) σ) : J X M d mc ms pc ls [vL x] σ Q := by
  intro p l e R s m args below meth c D B b dA E C0 S0 Z cx hR he H locs cells slots lsC hH hS h1 h2 hl hol hos
  exact J_ret (r := some (vL x)) hd (by rw [hr]; exact ok_h hos) rfl hq p l e R s m args below meth c D B b dA E C0 S0 Z cx hR he H locs cells slots lsC hH hS h1 h2 hl hol hos
theorem J_reta {k : Nat} {C : String} (hd : decode M.2.1 pc = .ok (.areturn, 1)) (hr : M.2.2.2 = some (.object C)) (hq : Q (some (vR k)) σ) : J X M d mc ms pc ls [vR k] σ Q :=
  J_ret (r := some (vR k)) hd (by rw [hr]; trivial) rfl hq
theorem J_retv (hd : decode M.2.1 pc = .ok (.return_, 1)) (hr : M.2.2.2 = none) (hq : Q none σ) : J X M d mc ms pc ls [] σ Q :=
  J_ret (r := none) hd (by rw [hr]; trivial) rfl hq
theorem J_min {x y : Int} {idx : Nat} (hd : decode M.2.1 pc = .ok (.invokestatic idx, 3)) (hw : Cond.methodLink M.1.cls idx Lib.Math.min.name ∈ GT) (hrest : (st.map ct).sum ≤ 8) (k : J X M (d + 1) mc ms (pc + 3) ls (vI (min x y) :: st) σ Q) : J X M (d + 1) mc ms pc ls (vI y :: vI x :: st) σ Q := by
  intro p l e R s m args below meth c D B b dA E C0 S0 Z cx hR he H locs cells slots lsC hH hS h1 h2 hl hol hos
  have hts := cx.2.2.2.2.1
  have hy : ii y := ok_h hos
  have hx : ii x := ok_h (ok_t hos)
  refine va_mmin cx.1 cx.2.1 (by rw [cx.2.2.1]; exact hl.1.symm) cx.2.2.2.1 (hts _ hw) (hts _ aw_smin) (hts _ iw_java_lang_Math) (hts _ aw_cmin) (by have := hR.1; omega) (by rw [cat_sum]; have := hR.2.1; omega) (by have := hR.2.2.1; omega) (by have := hR.2.2.2; omega) hd ?_
  have ee : (if Int32.ofInt y < Int32.ofInt x then Int32.ofInt y else Int32.ofInt x) = Int32.ofInt (min x y) := by
    by_cases g : y < x
    · rw [if_pos ((io_lt hy hx).mpr g), Int.min_eq_right (Int.le_of_lt g)]
    · rw [if_neg (fun w => g ((io_lt hy hx).mp w)), Int.min_eq_left (by omega)]
  rw [ee]
  have hm : ii (min x y) := by unfold ii at *; omega
  exact k p l e R s m args below meth c D B b dA E C0 S0 Z cx hR he H locs cells slots lsC hH hS h1 h2 hl hol (ok_ci hm (ok_t (ok_t hos)))
theorem J_max {x y : Int} {idx : Nat} (hd : decode M.2.1 pc = .ok (.invokestatic idx, 3)) (hw : Cond.methodLink M.1.cls idx Lib.Math.max.name ∈ GT) (hrest : (st.map ct).sum ≤ 8) (k : J X M (d + 1) mc ms (pc + 3) ls (vI (max x y) :: st) σ Q) : J X M (d + 1) mc ms pc ls (vI y :: vI x :: st) σ Q := by
  intro p l e R s m args below meth c D B b dA E C0 S0 Z cx hR he H locs cells slots lsC hH hS h1 h2 hl hol hos
  have hts := cx.2.2.2.2.1
  have hy : ii y := ok_h hos
  have hx : ii x := ok_h (ok_t hos)
  refine va_mmax cx.1 cx.2.1 (by rw [cx.2.2.1]; exact hl.1.symm) cx.2.2.2.1 (hts _ hw) (hts _ aw_smax) (hts _ iw_java_lang_Math) (hts _ aw_cmax) (by have := hR.1; omega) (by rw [cat_sum]; have := hR.2.1; omega) (by have := hR.2.2.1; omega) (by have := hR.2.2.2; omega) hd ?_
  have ee : (if Int32.ofInt x < Int32.ofInt y then Int32.ofInt y else Int32.ofInt x) = Int32.ofInt (max x y) := by
    by_cases g : x < y
    · rw [if_pos ((io_lt hx hy).mpr g), Int.max_eq_right (Int.le_of_lt g)]
    · rw [if_neg (fun w => g ((io_lt hx hy).mp w)), Int.max_eq_left (by omega)]
  rw [ee]
  have hm : ii (max x y) := by unfold ii at *; omega
  exact k p l e R s m args below meth c D B b dA E C0 S0 Z cx hR he H locs cells slots lsC hH hS h1 h2 hl hol (ok_ci hm (ok_t (ok_t hos)))
theorem ls_sub {ls ls' : List (Nat × AV)} (ps : List Nat) (h : ps.filterMap (fun k => ls[k]?) = ls') : ∀ q ∈ ls', q ∈ ls := by
  intro q hq
  rw [← h] at hq
  obtain ⟨k, -, hk⟩ := List.mem_filterMap.mp hq
  exact List.mem_of_getElem? hk
end JM
