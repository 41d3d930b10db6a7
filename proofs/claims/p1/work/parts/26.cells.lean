/-! The cells that the law makes ahead of its loop (printed by wip/whole/gen_cells.py): kind, size, final references -/
def vx_g0 : List (Nat × Nat × List (Option Nat)) := [(0, 0, []), (1, 13, [some 2, some 7, some 21]), (2, 6, [some 3, some 4, some 5, some 6]), (22, 600, []), (20, 601, []), (20, 601, []), (21, 601, []), (3, 13, [some 2, some 8, some 17, some 18, some 19, some 20]), (7, 16, [none, some 9, none, none, none, none, none, none, some 10, some 11, some 12, some 13, some 14, some 15, some 16]), (21, 4, []), (20, 6, []), (20, 6, []), (20, 6, []), (21, 24, []), (20, 6, []), (20, 6, []), (23, 6, []), (21, 4, []), (21, 5, []), (21, 8, []), (20, 8, []), (4, 13, [some 22, some 31, some 32, some 33, some 34, some 38]), (8, 5, [some 23, some 27, some 28, some 29, some 30]), (6, 5, [none, some 26, some 24, some 25]), (20, 512, []), (20, 201, []), (21, 1005, []), (20, 201, []), (20, 201, []), (20, 16, []), (20, 16, []), (21, 8, [])]
def vx_g1 : List (Nat × Nat × List (Option Nat)) := [(21, 8, []), (21, 5, []), (6, 5, [none, some 37, some 35, some 36]), (20, 512, []), (20, 201, []), (21, 1005, []), (21, 201, []), (5, 9, [some 40, some 41, some 42, some 43, some 44, some 45]), (21, 16, []), (20, 16, []), (20, 16, []), (20, 16, []), (24, 31, [some 49, some 58, some 67, some 76, some 85, some 94, some 103, some 112, some 121, some 130, some 139, some 148, some 157, some 166, some 175, some 184, some 193, some 202, some 211, some 220, some 229, some 238, some 247, some 256, some 265, some 274, some 283, some 292, some 301, some 310, some 319]), (6, 5, [none, some 48, some 46, some 47]), (20, 512, []), (20, 201, []), (21, 1005, []), (7, 16, [none, some 50, none, none, none, none, none, none, some 51, some 52, some 53, some 54, some 55, some 56, some 57]), (21, 4, []), (20, 6, []), (20, 6, []), (20, 6, []), (21, 24, []), (20, 6, []), (20, 6, []), (23, 6, []), (7, 16, [none, some 59, none, none, none, none, none, none, some 60, some 61, some 62, some 63, some 64, some 65, some 66]), (21, 4, []), (20, 6, []), (20, 6, []), (20, 6, []), (21, 24, [])]
def vx_g2 : List (Nat × Nat × List (Option Nat)) := [(20, 6, []), (20, 6, []), (23, 6, []), (7, 16, [none, some 68, none, none, none, none, none, none, some 69, some 70, some 71, some 72, some 73, some 74, some 75]), (21, 4, []), (20, 6, []), (20, 6, []), (20, 6, []), (21, 24, []), (20, 6, []), (20, 6, []), (23, 6, []), (7, 16, [none, some 77, none, none, none, none, none, none, some 78, some 79, some 80, some 81, some 82, some 83, some 84]), (21, 4, []), (20, 6, []), (20, 6, []), (20, 6, []), (21, 24, []), (20, 6, []), (20, 6, []), (23, 6, []), (7, 16, [none, some 86, none, none, none, none, none, none, some 87, some 88, some 89, some 90, some 91, some 92, some 93]), (21, 4, []), (20, 6, []), (20, 6, []), (20, 6, []), (21, 24, []), (20, 6, []), (20, 6, []), (23, 6, []), (7, 16, [none, some 95, none, none, none, none, none, none, some 96, some 97, some 98, some 99, some 100, some 101, some 102]), (21, 4, [])]
def vx_g3 : List (Nat × Nat × List (Option Nat)) := [(20, 6, []), (20, 6, []), (20, 6, []), (21, 24, []), (20, 6, []), (20, 6, []), (23, 6, []), (7, 16, [none, some 104, none, none, none, none, none, none, some 105, some 106, some 107, some 108, some 109, some 110, some 111]), (21, 4, []), (20, 6, []), (20, 6, []), (20, 6, []), (21, 24, []), (20, 6, []), (20, 6, []), (23, 6, []), (7, 16, [none, some 113, none, none, none, none, none, none, some 114, some 115, some 116, some 117, some 118, some 119, some 120]), (21, 4, []), (20, 6, []), (20, 6, []), (20, 6, []), (21, 24, []), (20, 6, []), (20, 6, []), (23, 6, []), (7, 16, [none, some 122, none, none, none, none, none, none, some 123, some 124, some 125, some 126, some 127, some 128, some 129]), (21, 4, []), (20, 6, []), (20, 6, []), (20, 6, []), (21, 24, []), (20, 6, [])]
def vx_g4 : List (Nat × Nat × List (Option Nat)) := [(20, 6, []), (23, 6, []), (7, 16, [none, some 131, none, none, none, none, none, none, some 132, some 133, some 134, some 135, some 136, some 137, some 138]), (21, 4, []), (20, 6, []), (20, 6, []), (20, 6, []), (21, 24, []), (20, 6, []), (20, 6, []), (23, 6, []), (7, 16, [none, some 140, none, none, none, none, none, none, some 141, some 142, some 143, some 144, some 145, some 146, some 147]), (21, 4, []), (20, 6, []), (20, 6, []), (20, 6, []), (21, 24, []), (20, 6, []), (20, 6, []), (23, 6, []), (7, 16, [none, some 149, none, none, none, none, none, none, some 150, some 151, some 152, some 153, some 154, some 155, some 156]), (21, 4, []), (20, 6, []), (20, 6, []), (20, 6, []), (21, 24, []), (20, 6, []), (20, 6, []), (23, 6, []), (7, 16, [none, some 158, none, none, none, none, none, none, some 159, some 160, some 161, some 162, some 163, some 164, some 165]), (21, 4, []), (20, 6, [])]
def vx_g5 : List (Nat × Nat × List (Option Nat)) := [(20, 6, []), (20, 6, []), (21, 24, []), (20, 6, []), (20, 6, []), (23, 6, []), (7, 16, [none, some 167, none, none, none, none, none, none, some 168, some 169, some 170, some 171, some 172, some 173, some 174]), (21, 4, []), (20, 6, []), (20, 6, []), (20, 6, []), (21, 24, []), (20, 6, []), (20, 6, []), (23, 6, []), (7, 16, [none, some 176, none, none, none, none, none, none, some 177, some 178, some 179, some 180, some 181, some 182, some 183]), (21, 4, []), (20, 6, []), (20, 6, []), (20, 6, []), (21, 24, []), (20, 6, []), (20, 6, []), (23, 6, []), (7, 16, [none, some 185, none, none, none, none, none, none, some 186, some 187, some 188, some 189, some 190, some 191, some 192]), (21, 4, []), (20, 6, []), (20, 6, []), (20, 6, []), (21, 24, []), (20, 6, []), (20, 6, [])]
def vx_g6 : List (Nat × Nat × List (Option Nat)) := [(23, 6, []), (7, 16, [none, some 194, none, none, none, none, none, none, some 195, some 196, some 197, some 198, some 199, some 200, some 201]), (21, 4, []), (20, 6, []), (20, 6, []), (20, 6, []), (21, 24, []), (20, 6, []), (20, 6, []), (23, 6, []), (7, 16, [none, some 203, none, none, none, none, none, none, some 204, some 205, some 206, some 207, some 208, some 209, some 210]), (21, 4, []), (20, 6, []), (20, 6, []), (20, 6, []), (21, 24, []), (20, 6, []), (20, 6, []), (23, 6, []), (7, 16, [none, some 212, none, none, none, none, none, none, some 213, some 214, some 215, some 216, some 217, some 218, some 219]), (21, 4, []), (20, 6, []), (20, 6, []), (20, 6, []), (21, 24, []), (20, 6, []), (20, 6, []), (23, 6, []), (7, 16, [none, some 221, none, none, none, none, none, none, some 222, some 223, some 224, some 225, some 226, some 227, some 228]), (21, 4, []), (20, 6, []), (20, 6, [])]
def vx_g7 : List (Nat × Nat × List (Option Nat)) := [(20, 6, []), (21, 24, []), (20, 6, []), (20, 6, []), (23, 6, []), (7, 16, [none, some 230, none, none, none, none, none, none, some 231, some 232, some 233, some 234, some 235, some 236, some 237]), (21, 4, []), (20, 6, []), (20, 6, []), (20, 6, []), (21, 24, []), (20, 6, []), (20, 6, []), (23, 6, []), (7, 16, [none, some 239, none, none, none, none, none, none, some 240, some 241, some 242, some 243, some 244, some 245, some 246]), (21, 4, []), (20, 6, []), (20, 6, []), (20, 6, []), (21, 24, []), (20, 6, []), (20, 6, []), (23, 6, []), (7, 16, [none, some 248, none, none, none, none, none, none, some 249, some 250, some 251, some 252, some 253, some 254, some 255]), (21, 4, []), (20, 6, []), (20, 6, []), (20, 6, []), (21, 24, []), (20, 6, []), (20, 6, []), (23, 6, [])]
def vx_g8 : List (Nat × Nat × List (Option Nat)) := [(7, 16, [none, some 257, none, none, none, none, none, none, some 258, some 259, some 260, some 261, some 262, some 263, some 264]), (21, 4, []), (20, 6, []), (20, 6, []), (20, 6, []), (21, 24, []), (20, 6, []), (20, 6, []), (23, 6, []), (7, 16, [none, some 266, none, none, none, none, none, none, some 267, some 268, some 269, some 270, some 271, some 272, some 273]), (21, 4, []), (20, 6, []), (20, 6, []), (20, 6, []), (21, 24, []), (20, 6, []), (20, 6, []), (23, 6, []), (7, 16, [none, some 275, none, none, none, none, none, none, some 276, some 277, some 278, some 279, some 280, some 281, some 282]), (21, 4, []), (20, 6, []), (20, 6, []), (20, 6, []), (21, 24, []), (20, 6, []), (20, 6, []), (23, 6, []), (7, 16, [none, some 284, none, none, none, none, none, none, some 285, some 286, some 287, some 288, some 289, some 290, some 291]), (21, 4, []), (20, 6, []), (20, 6, []), (20, 6, [])]
def vx_g9 : List (Nat × Nat × List (Option Nat)) := [(21, 24, []), (20, 6, []), (20, 6, []), (23, 6, []), (7, 16, [none, some 293, none, none, none, none, none, none, some 294, some 295, some 296, some 297, some 298, some 299, some 300]), (21, 4, []), (20, 6, []), (20, 6, []), (20, 6, []), (21, 24, []), (20, 6, []), (20, 6, []), (23, 6, []), (7, 16, [none, some 302, none, none, none, none, none, none, some 303, some 304, some 305, some 306, some 307, some 308, some 309]), (21, 4, []), (20, 6, []), (20, 6, []), (20, 6, []), (21, 24, []), (20, 6, []), (20, 6, []), (23, 6, []), (7, 16, [none, some 311, none, none, none, none, none, none, some 312, some 313, some 314, some 315, some 316, some 317, some 318]), (21, 4, []), (20, 6, []), (20, 6, []), (20, 6, []), (21, 24, []), (20, 6, []), (20, 6, []), (23, 6, []), (7, 16, [none, some 320, none, none, none, none, none, none, some 321, some 322, some 323, some 324, some 325, some 326, some 327])]
def vx_g10 : List (Nat × Nat × List (Option Nat)) := [(21, 4, []), (20, 6, []), (20, 6, []), (20, 6, []), (21, 24, []), (20, 6, []), (20, 6, []), (23, 6, []), (5, 9, [some 329, some 330, some 331, some 332, some 333, some 334]), (21, 16, []), (20, 16, []), (20, 16, []), (20, 16, []), (24, 31, [some 338, some 347, some 356, some 365, some 374, some 383, some 392, some 401, some 410, some 419, some 428, some 437, some 446, some 455, some 464, some 473, some 482, some 491, some 500, some 509, some 518, some 527, some 536, some 545, some 554, some 563, some 572, some 581, some 590, some 599, some 608]), (6, 5, [none, some 337, some 335, some 336]), (20, 512, []), (20, 201, []), (21, 1005, []), (7, 16, [none, some 339, none, none, none, none, none, none, some 340, some 341, some 342, some 343, some 344, some 345, some 346]), (21, 4, []), (20, 6, []), (20, 6, []), (20, 6, []), (21, 24, []), (20, 6, []), (20, 6, []), (23, 6, []), (7, 16, [none, some 348, none, none, none, none, none, none, some 349, some 350, some 351, some 352, some 353, some 354, some 355]), (21, 4, []), (20, 6, []), (20, 6, []), (20, 6, [])]
def vx_g11 : List (Nat × Nat × List (Option Nat)) := [(21, 24, []), (20, 6, []), (20, 6, []), (23, 6, []), (7, 16, [none, some 357, none, none, none, none, none, none, some 358, some 359, some 360, some 361, some 362, some 363, some 364]), (21, 4, []), (20, 6, []), (20, 6, []), (20, 6, []), (21, 24, []), (20, 6, []), (20, 6, []), (23, 6, []), (7, 16, [none, some 366, none, none, none, none, none, none, some 367, some 368, some 369, some 370, some 371, some 372, some 373]), (21, 4, []), (20, 6, []), (20, 6, []), (20, 6, []), (21, 24, []), (20, 6, []), (20, 6, []), (23, 6, []), (7, 16, [none, some 375, none, none, none, none, none, none, some 376, some 377, some 378, some 379, some 380, some 381, some 382]), (21, 4, []), (20, 6, []), (20, 6, []), (20, 6, []), (21, 24, []), (20, 6, []), (20, 6, []), (23, 6, []), (7, 16, [none, some 384, none, none, none, none, none, none, some 385, some 386, some 387, some 388, some 389, some 390, some 391])]
def vx_g12 : List (Nat × Nat × List (Option Nat)) := [(21, 4, []), (20, 6, []), (20, 6, []), (20, 6, []), (21, 24, []), (20, 6, []), (20, 6, []), (23, 6, []), (7, 16, [none, some 393, none, none, none, none, none, none, some 394, some 395, some 396, some 397, some 398, some 399, some 400]), (21, 4, []), (20, 6, []), (20, 6, []), (20, 6, []), (21, 24, []), (20, 6, []), (20, 6, []), (23, 6, []), (7, 16, [none, some 402, none, none, none, none, none, none, some 403, some 404, some 405, some 406, some 407, some 408, some 409]), (21, 4, []), (20, 6, []), (20, 6, []), (20, 6, []), (21, 24, []), (20, 6, []), (20, 6, []), (23, 6, []), (7, 16, [none, some 411, none, none, none, none, none, none, some 412, some 413, some 414, some 415, some 416, some 417, some 418]), (21, 4, []), (20, 6, []), (20, 6, []), (20, 6, []), (21, 24, [])]
def vx_g13 : List (Nat × Nat × List (Option Nat)) := [(20, 6, []), (20, 6, []), (23, 6, []), (7, 16, [none, some 420, none, none, none, none, none, none, some 421, some 422, some 423, some 424, some 425, some 426, some 427]), (21, 4, []), (20, 6, []), (20, 6, []), (20, 6, []), (21, 24, []), (20, 6, []), (20, 6, []), (23, 6, []), (7, 16, [none, some 429, none, none, none, none, none, none, some 430, some 431, some 432, some 433, some 434, some 435, some 436]), (21, 4, []), (20, 6, []), (20, 6, []), (20, 6, []), (21, 24, []), (20, 6, []), (20, 6, []), (23, 6, []), (7, 16, [none, some 438, none, none, none, none, none, none, some 439, some 440, some 441, some 442, some 443, some 444, some 445]), (21, 4, []), (20, 6, []), (20, 6, []), (20, 6, []), (21, 24, []), (20, 6, []), (20, 6, []), (23, 6, []), (7, 16, [none, some 447, none, none, none, none, none, none, some 448, some 449, some 450, some 451, some 452, some 453, some 454]), (21, 4, [])]
def vx_g14 : List (Nat × Nat × List (Option Nat)) := [(20, 6, []), (20, 6, []), (20, 6, []), (21, 24, []), (20, 6, []), (20, 6, []), (23, 6, []), (7, 16, [none, some 456, none, none, none, none, none, none, some 457, some 458, some 459, some 460, some 461, some 462, some 463]), (21, 4, []), (20, 6, []), (20, 6, []), (20, 6, []), (21, 24, []), (20, 6, []), (20, 6, []), (23, 6, []), (7, 16, [none, some 465, none, none, none, none, none, none, some 466, some 467, some 468, some 469, some 470, some 471, some 472]), (21, 4, []), (20, 6, []), (20, 6, []), (20, 6, []), (21, 24, []), (20, 6, []), (20, 6, []), (23, 6, []), (7, 16, [none, some 474, none, none, none, none, none, none, some 475, some 476, some 477, some 478, some 479, some 480, some 481]), (21, 4, []), (20, 6, []), (20, 6, []), (20, 6, []), (21, 24, []), (20, 6, [])]
def vx_g15 : List (Nat × Nat × List (Option Nat)) := [(20, 6, []), (23, 6, []), (7, 16, [none, some 483, none, none, none, none, none, none, some 484, some 485, some 486, some 487, some 488, some 489, some 490]), (21, 4, []), (20, 6, []), (20, 6, []), (20, 6, []), (21, 24, []), (20, 6, []), (20, 6, []), (23, 6, []), (7, 16, [none, some 492, none, none, none, none, none, none, some 493, some 494, some 495, some 496, some 497, some 498, some 499]), (21, 4, []), (20, 6, []), (20, 6, []), (20, 6, []), (21, 24, []), (20, 6, []), (20, 6, []), (23, 6, []), (7, 16, [none, some 501, none, none, none, none, none, none, some 502, some 503, some 504, some 505, some 506, some 507, some 508]), (21, 4, []), (20, 6, []), (20, 6, []), (20, 6, []), (21, 24, []), (20, 6, []), (20, 6, []), (23, 6, []), (7, 16, [none, some 510, none, none, none, none, none, none, some 511, some 512, some 513, some 514, some 515, some 516, some 517]), (21, 4, []), (20, 6, [])]
def vx_g16 : List (Nat × Nat × List (Option Nat)) := [(20, 6, []), (20, 6, []), (21, 24, []), (20, 6, []), (20, 6, []), (23, 6, []), (7, 16, [none, some 519, none, none, none, none, none, none, some 520, some 521, some 522, some 523, some 524, some 525, some 526]), (21, 4, []), (20, 6, []), (20, 6, []), (20, 6, []), (21, 24, []), (20, 6, []), (20, 6, []), (23, 6, []), (7, 16, [none, some 528, none, none, none, none, none, none, some 529, some 530, some 531, some 532, some 533, some 534, some 535]), (21, 4, []), (20, 6, []), (20, 6, []), (20, 6, []), (21, 24, []), (20, 6, []), (20, 6, []), (23, 6, []), (7, 16, [none, some 537, none, none, none, none, none, none, some 538, some 539, some 540, some 541, some 542, some 543, some 544]), (21, 4, []), (20, 6, []), (20, 6, []), (20, 6, []), (21, 24, []), (20, 6, []), (20, 6, [])]
def vx_g17 : List (Nat × Nat × List (Option Nat)) := [(23, 6, []), (7, 16, [none, some 546, none, none, none, none, none, none, some 547, some 548, some 549, some 550, some 551, some 552, some 553]), (21, 4, []), (20, 6, []), (20, 6, []), (20, 6, []), (21, 24, []), (20, 6, []), (20, 6, []), (23, 6, []), (7, 16, [none, some 555, none, none, none, none, none, none, some 556, some 557, some 558, some 559, some 560, some 561, some 562]), (21, 4, []), (20, 6, []), (20, 6, []), (20, 6, []), (21, 24, []), (20, 6, []), (20, 6, []), (23, 6, []), (7, 16, [none, some 564, none, none, none, none, none, none, some 565, some 566, some 567, some 568, some 569, some 570, some 571]), (21, 4, []), (20, 6, []), (20, 6, []), (20, 6, []), (21, 24, []), (20, 6, []), (20, 6, []), (23, 6, []), (7, 16, [none, some 573, none, none, none, none, none, none, some 574, some 575, some 576, some 577, some 578, some 579, some 580]), (21, 4, []), (20, 6, []), (20, 6, [])]
def vx_g18 : List (Nat × Nat × List (Option Nat)) := [(20, 6, []), (21, 24, []), (20, 6, []), (20, 6, []), (23, 6, []), (7, 16, [none, some 582, none, none, none, none, none, none, some 583, some 584, some 585, some 586, some 587, some 588, some 589]), (21, 4, []), (20, 6, []), (20, 6, []), (20, 6, []), (21, 24, []), (20, 6, []), (20, 6, []), (23, 6, []), (7, 16, [none, some 591, none, none, none, none, none, none, some 592, some 593, some 594, some 595, some 596, some 597, some 598]), (21, 4, []), (20, 6, []), (20, 6, []), (20, 6, []), (21, 24, []), (20, 6, []), (20, 6, []), (23, 6, []), (7, 16, [none, some 600, none, none, none, none, none, none, some 601, some 602, some 603, some 604, some 605, some 606, some 607]), (21, 4, []), (20, 6, []), (20, 6, []), (20, 6, []), (21, 24, []), (20, 6, []), (20, 6, []), (23, 6, [])]
def vx_g19 : List (Nat × Nat × List (Option Nat)) := [(7, 16, [none, some 609, none, none, none, none, none, none, some 610, some 611, some 612, some 613, some 614, some 615, some 616]), (21, 4, []), (20, 6, []), (20, 6, []), (20, 6, []), (21, 24, []), (20, 6, []), (20, 6, []), (23, 6, []), (6, 5, [none, some 620, some 618, some 619]), (20, 512, []), (20, 201, []), (21, 1608, []), (6, 5, [none, some 624, some 622, some 623]), (20, 512, []), (20, 201, []), (21, 1608, []), (9, 79, [none, some 626, none, none, none, none, some 627, some 628, some 629, some 630, none, none, some 631, some 632, some 633, some 634, some 635, some 636, some 637, some 638, some 639, some 640, some 641, some 642, some 643, some 644, some 645, some 646, some 647, some 648, some 649, none, none, some 650, some 651, some 652, none, none, none, none, some 653, some 654, none, some 655, some 656, some 657, none, none, none, none, none, some 658, some 659, none, none, none, none, none, none, some 660, some 661, some 662, some 663, some 664, some 665, none, none, none, none, none, none, some 666, some 667, some 668, some 669, none, some 670, some 671]), (20, 600, []), (20, 602, []), (20, 602, []), (20, 602, []), (21, 602, []), (20, 2, []), (21, 32, []), (20, 32, []), (20, 32, []), (20, 2, []), (20, 61, []), (20, 244, []), (21, 244, []), (20, 61, [])]
def vx_g20 : List (Nat × Nat × List (Option Nat)) := [(20, 61, []), (20, 61, []), (20, 61, []), (20, 366, []), (20, 366, []), (20, 1464, []), (21, 1464, []), (20, 2, []), (20, 800, []), (21, 3200, []), (20, 260, []), (20, 260, []), (21, 1040, []), (21, 1700, []), (21, 1700, []), (21, 9, []), (20, 9, []), (23, 9, []), (20, 4, []), (21, 4, []), (20, 366, []), (20, 366, []), (20, 61, []), (23, 256, []), (23, 9, []), (21, 9, []), (20, 3, []), (23, 36, []), (21, 36, []), (21, 4, []), (21, 810, []), (21, 202, [])]
def vx_g21 : List (Nat × Nat × List (Option Nat)) := [(21, 1, [])]
def vx_gs : List (List (Nat × Nat × List (Option Nat))) := [vx_g0, vx_g1, vx_g2, vx_g3, vx_g4, vx_g5, vx_g6, vx_g7, vx_g8, vx_g9, vx_g10, vx_g11, vx_g12, vx_g13, vx_g14, vx_g15, vx_g16, vx_g17, vx_g18, vx_g19, vx_g20, vx_g21]
def vx_en (a : Nat) : Nat × Nat × List (Option Nat) := (vx_gs.getD (a / 32) []).getD (a % 32) (0, 0, [])
def vx_ka (a : Nat) : Nat := (vx_en a).1
def vx_za (a : Nat) : Nat := (vx_en a).2.1
def vx_ra (a k : Nat) : Option Nat := (vx_en a).2.2.getD k none
def vx_r (a k : Nat) : Nat := (vx_ra a k).getD 0
def vx_T (lo hi : Nat) (h : ve_H) : Prop := hi ≤ ve_n h ∧ ∀ a, lo ≤ a → a < hi → ve_k h a = vx_ka a ∧ ve_z h a = vx_za a ∧ ∀ k, vx_fz (vx_ka a) k = true → ve_R h a k = vx_ra a k
abbrev vx_o (lo hi kd a : Nat) : Prop := (lo ≤ a ∧ a < hi) ∧ vx_ka a = kd
section
variable {lo hi kd a : Nat} {h h1 : ve_H}
theorem vx_Tk (hT : vx_T lo hi h) (ho : vx_o lo hi kd a) : ve_k h a = kd := ((hT.2 a ho.1.1 ho.1.2).1).trans ho.2
theorem vx_Tz (hT : vx_T lo hi h) {z : Nat} (ho : (lo ≤ a ∧ a < hi) ∧ vx_za a = z) : ve_z h a = z := ((hT.2 a ho.1.1 ho.1.2).2.1).trans ho.2
theorem vx_Tr (hT : vx_T lo hi h) {k b : Nat} (ho : vx_o lo hi kd a) (hf : vx_fz kd k = true) (hb : vx_ra a k = some b) : ve_R h a k = some b := ((hT.2 a ho.1.1 ho.1.2).2.2 k (by rw [ho.2]; exact hf)).trans hb
theorem vx_Tsh (hT : vx_T lo hi h) (hs : vx_sh h h1) : vx_T lo hi h1 := by
  refine ⟨Nat.le_trans hT.1 hs.1, fun a h2 h3 => ?_⟩
  have hn : a < ve_n h := Nat.lt_of_lt_of_le h3 hT.1
  obtain ⟨e1, e2, e3⟩ := hT.2 a h2 h3
  obtain ⟨f1, f2⟩ := hs.2.1 a hn
  refine ⟨f1.trans e1, f2.trans e2, fun k hk => ?_⟩
  exact (hs.2.2.1 a k hn (by rw [e1]; exact hk)).trans (e3 k hk)
theorem vx_TJ (hT : vx_T lo hi h) {s : Nat} {x : Int} (e : h1 = vx_sJ h a s x) : vx_T lo hi h1 := by subst e; exact hT
theorem vx_TK (hT : vx_T lo hi h) {s : Nat} {x : Int} (e : h1 = vx_sK h a s x) : vx_T lo hi h1 := by subst e; exact hT
theorem vx_TR (hT : vx_T lo hi h) {s : Nat} {x : Option Nat} (e : h1 = ve_sR h a s x) (hk : ve_k h a = kd ∧ vx_fz kd s = false) : vx_T lo hi h1 := by
  subst e
  exact vx_Tsh hT (vx_sh_sR (by rw [hk.1]; exact hk.2) x)
theorem vx_Tcp (hT : vx_T lo hi h) {src sp dst dp n : Nat} (e : h1 = ve_cp h src sp dst dp h n) : vx_T lo hi h1 := by
  subst e
  exact vx_Tsh hT (vx_sh_cp _ _ _ _ _ _ _)
theorem vx_Tnew (hT : vx_T lo hi h) {k z : Nat} (e : h1 = ve_new h k z) : vx_T lo hi h1 := by
  subst e
  exact vx_Tsh hT (vx_sh_new _ _ _)
end
theorem vx_cf5_0 : (List.range 625).all (fun a => Nat.blt a 1 || (!(vx_ka a).beq 5 || ((vx_ra a 0 == some (vx_r a 0)) && (Nat.ble 1 (vx_r a 0) && (Nat.blt (vx_r a 0) 625 && ((vx_ka (vx_r a 0)).beq 21 && (vx_za (vx_r a 0)).beq 16)))))) = true := by decide +kernel
theorem vx_f5_0 {a : Nat} (ho : vx_o 1 625 5 a) : vx_ra a 0 = some (vx_r a 0) ∧ vx_o 1 625 21 (vx_r a 0) ∧ vx_za (vx_r a 0) = 16 := by
  have h1 := List.all_eq_true.mp vx_cf5_0 a (List.mem_range.mpr ho.1.2)
  simp only [Bool.or_eq_true, Bool.and_eq_true, Bool.not_eq_true', beq_iff_eq] at h1
  rcases h1 with h1 | h1 | h1
  · have := Nat.lt_of_succ_le (Nat.le_of_ble_eq_true h1); have := ho.1.1; omega
  · rw [ho.2] at h1; exact absurd h1 (by decide)
  · obtain ⟨e1, e2, e3, e4, e5⟩ := h1
    exact ⟨e1, ⟨⟨Nat.le_of_ble_eq_true e2, Nat.lt_of_succ_le (Nat.le_of_ble_eq_true e3)⟩, Nat.eq_of_beq_eq_true e4⟩, Nat.eq_of_beq_eq_true e5⟩
theorem vx_cf5_1 : (List.range 625).all (fun a => Nat.blt a 1 || (!(vx_ka a).beq 5 || ((vx_ra a 1 == some (vx_r a 1)) && (Nat.ble 1 (vx_r a 1) && (Nat.blt (vx_r a 1) 625 && ((vx_ka (vx_r a 1)).beq 20 && (vx_za (vx_r a 1)).beq 16)))))) = true := by decide +kernel
theorem vx_f5_1 {a : Nat} (ho : vx_o 1 625 5 a) : vx_ra a 1 = some (vx_r a 1) ∧ vx_o 1 625 20 (vx_r a 1) ∧ vx_za (vx_r a 1) = 16 := by
  have h1 := List.all_eq_true.mp vx_cf5_1 a (List.mem_range.mpr ho.1.2)
  simp only [Bool.or_eq_true, Bool.and_eq_true, Bool.not_eq_true', beq_iff_eq] at h1
  rcases h1 with h1 | h1 | h1
  · have := Nat.lt_of_succ_le (Nat.le_of_ble_eq_true h1); have := ho.1.1; omega
  · rw [ho.2] at h1; exact absurd h1 (by decide)
  · obtain ⟨e1, e2, e3, e4, e5⟩ := h1
    exact ⟨e1, ⟨⟨Nat.le_of_ble_eq_true e2, Nat.lt_of_succ_le (Nat.le_of_ble_eq_true e3)⟩, Nat.eq_of_beq_eq_true e4⟩, Nat.eq_of_beq_eq_true e5⟩
theorem vx_cf5_2 : (List.range 625).all (fun a => Nat.blt a 1 || (!(vx_ka a).beq 5 || ((vx_ra a 2 == some (vx_r a 2)) && (Nat.ble 1 (vx_r a 2) && (Nat.blt (vx_r a 2) 625 && ((vx_ka (vx_r a 2)).beq 20 && (vx_za (vx_r a 2)).beq 16)))))) = true := by decide +kernel
theorem vx_f5_2 {a : Nat} (ho : vx_o 1 625 5 a) : vx_ra a 2 = some (vx_r a 2) ∧ vx_o 1 625 20 (vx_r a 2) ∧ vx_za (vx_r a 2) = 16 := by
  have h1 := List.all_eq_true.mp vx_cf5_2 a (List.mem_range.mpr ho.1.2)
  simp only [Bool.or_eq_true, Bool.and_eq_true, Bool.not_eq_true', beq_iff_eq] at h1
  rcases h1 with h1 | h1 | h1
  · have := Nat.lt_of_succ_le (Nat.le_of_ble_eq_true h1); have := ho.1.1; omega
  · rw [ho.2] at h1; exact absurd h1 (by decide)
  · obtain ⟨e1, e2, e3, e4, e5⟩ := h1
    exact ⟨e1, ⟨⟨Nat.le_of_ble_eq_true e2, Nat.lt_of_succ_le (Nat.le_of_ble_eq_true e3)⟩, Nat.eq_of_beq_eq_true e4⟩, Nat.eq_of_beq_eq_true e5⟩
theorem vx_cf5_3 : (List.range 625).all (fun a => Nat.blt a 1 || (!(vx_ka a).beq 5 || ((vx_ra a 3 == some (vx_r a 3)) && (Nat.ble 1 (vx_r a 3) && (Nat.blt (vx_r a 3) 625 && ((vx_ka (vx_r a 3)).beq 20 && (vx_za (vx_r a 3)).beq 16)))))) = true := by decide +kernel
theorem vx_f5_3 {a : Nat} (ho : vx_o 1 625 5 a) : vx_ra a 3 = some (vx_r a 3) ∧ vx_o 1 625 20 (vx_r a 3) ∧ vx_za (vx_r a 3) = 16 := by
  have h1 := List.all_eq_true.mp vx_cf5_3 a (List.mem_range.mpr ho.1.2)
  simp only [Bool.or_eq_true, Bool.and_eq_true, Bool.not_eq_true', beq_iff_eq] at h1
  rcases h1 with h1 | h1 | h1
  · have := Nat.lt_of_succ_le (Nat.le_of_ble_eq_true h1); have := ho.1.1; omega
  · rw [ho.2] at h1; exact absurd h1 (by decide)
  · obtain ⟨e1, e2, e3, e4, e5⟩ := h1
    exact ⟨e1, ⟨⟨Nat.le_of_ble_eq_true e2, Nat.lt_of_succ_le (Nat.le_of_ble_eq_true e3)⟩, Nat.eq_of_beq_eq_true e4⟩, Nat.eq_of_beq_eq_true e5⟩
theorem vx_cf5_4 : (List.range 625).all (fun a => Nat.blt a 1 || (!(vx_ka a).beq 5 || ((vx_ra a 4 == some (vx_r a 4)) && (Nat.ble 1 (vx_r a 4) && (Nat.blt (vx_r a 4) 625 && ((vx_ka (vx_r a 4)).beq 24 && (vx_za (vx_r a 4)).beq 31)))))) = true := by decide +kernel
theorem vx_f5_4 {a : Nat} (ho : vx_o 1 625 5 a) : vx_ra a 4 = some (vx_r a 4) ∧ vx_o 1 625 24 (vx_r a 4) ∧ vx_za (vx_r a 4) = 31 := by
  have h1 := List.all_eq_true.mp vx_cf5_4 a (List.mem_range.mpr ho.1.2)
  simp only [Bool.or_eq_true, Bool.and_eq_true, Bool.not_eq_true', beq_iff_eq] at h1
  rcases h1 with h1 | h1 | h1
  · have := Nat.lt_of_succ_le (Nat.le_of_ble_eq_true h1); have := ho.1.1; omega
  · rw [ho.2] at h1; exact absurd h1 (by decide)
  · obtain ⟨e1, e2, e3, e4, e5⟩ := h1
    exact ⟨e1, ⟨⟨Nat.le_of_ble_eq_true e2, Nat.lt_of_succ_le (Nat.le_of_ble_eq_true e3)⟩, Nat.eq_of_beq_eq_true e4⟩, Nat.eq_of_beq_eq_true e5⟩
theorem vx_cf5_5 : (List.range 625).all (fun a => Nat.blt a 1 || (!(vx_ka a).beq 5 || ((vx_ra a 5 == some (vx_r a 5)) && (Nat.ble 1 (vx_r a 5) && (Nat.blt (vx_r a 5) 625 && ((vx_ka (vx_r a 5)).beq 6 && true)))))) = true := by decide +kernel
theorem vx_f5_5 {a : Nat} (ho : vx_o 1 625 5 a) : vx_ra a 5 = some (vx_r a 5) ∧ vx_o 1 625 6 (vx_r a 5) := by
  have h1 := List.all_eq_true.mp vx_cf5_5 a (List.mem_range.mpr ho.1.2)
  simp only [Bool.or_eq_true, Bool.and_eq_true, Bool.not_eq_true', beq_iff_eq] at h1
  rcases h1 with h1 | h1 | h1
  · have := Nat.lt_of_succ_le (Nat.le_of_ble_eq_true h1); have := ho.1.1; omega
  · rw [ho.2] at h1; exact absurd h1 (by decide)
  · obtain ⟨e1, e2, e3, e4, _⟩ := h1
    exact ⟨e1, ⟨⟨Nat.le_of_ble_eq_true e2, Nat.lt_of_succ_le (Nat.le_of_ble_eq_true e3)⟩, Nat.eq_of_beq_eq_true e4⟩⟩
theorem vx_cf6_1 : (List.range 625).all (fun a => Nat.blt a 1 || (!(vx_ka a).beq 6 || ((vx_ra a 1 == some (vx_r a 1)) && (Nat.ble 1 (vx_r a 1) && (Nat.blt (vx_r a 1) 625 && ((vx_ka (vx_r a 1)).beq 21 && true)))))) = true := by decide +kernel
theorem vx_f6_1 {a : Nat} (ho : vx_o 1 625 6 a) : vx_ra a 1 = some (vx_r a 1) ∧ vx_o 1 625 21 (vx_r a 1) := by
  have h1 := List.all_eq_true.mp vx_cf6_1 a (List.mem_range.mpr ho.1.2)
  simp only [Bool.or_eq_true, Bool.and_eq_true, Bool.not_eq_true', beq_iff_eq] at h1
  rcases h1 with h1 | h1 | h1
  · have := Nat.lt_of_succ_le (Nat.le_of_ble_eq_true h1); have := ho.1.1; omega
  · rw [ho.2] at h1; exact absurd h1 (by decide)
  · obtain ⟨e1, e2, e3, e4, _⟩ := h1
    exact ⟨e1, ⟨⟨Nat.le_of_ble_eq_true e2, Nat.lt_of_succ_le (Nat.le_of_ble_eq_true e3)⟩, Nat.eq_of_beq_eq_true e4⟩⟩
theorem vx_cf6_2 : (List.range 625).all (fun a => Nat.blt a 1 || (!(vx_ka a).beq 6 || ((vx_ra a 2 == some (vx_r a 2)) && (Nat.ble 1 (vx_r a 2) && (Nat.blt (vx_r a 2) 625 && ((vx_ka (vx_r a 2)).beq 20 && (vx_za (vx_r a 2)).beq 512)))))) = true := by decide +kernel
theorem vx_f6_2 {a : Nat} (ho : vx_o 1 625 6 a) : vx_ra a 2 = some (vx_r a 2) ∧ vx_o 1 625 20 (vx_r a 2) ∧ vx_za (vx_r a 2) = 512 := by
  have h1 := List.all_eq_true.mp vx_cf6_2 a (List.mem_range.mpr ho.1.2)
  simp only [Bool.or_eq_true, Bool.and_eq_true, Bool.not_eq_true', beq_iff_eq] at h1
  rcases h1 with h1 | h1 | h1
  · have := Nat.lt_of_succ_le (Nat.le_of_ble_eq_true h1); have := ho.1.1; omega
  · rw [ho.2] at h1; exact absurd h1 (by decide)
  · obtain ⟨e1, e2, e3, e4, e5⟩ := h1
    exact ⟨e1, ⟨⟨Nat.le_of_ble_eq_true e2, Nat.lt_of_succ_le (Nat.le_of_ble_eq_true e3)⟩, Nat.eq_of_beq_eq_true e4⟩, Nat.eq_of_beq_eq_true e5⟩
theorem vx_cf6_3 : (List.range 625).all (fun a => Nat.blt a 1 || (!(vx_ka a).beq 6 || ((vx_ra a 3 == some (vx_r a 3)) && (Nat.ble 1 (vx_r a 3) && (Nat.blt (vx_r a 3) 625 && ((vx_ka (vx_r a 3)).beq 20 && (vx_za (vx_r a 3)).beq 201)))))) = true := by decide +kernel
theorem vx_f6_3 {a : Nat} (ho : vx_o 1 625 6 a) : vx_ra a 3 = some (vx_r a 3) ∧ vx_o 1 625 20 (vx_r a 3) ∧ vx_za (vx_r a 3) = 201 := by
  have h1 := List.all_eq_true.mp vx_cf6_3 a (List.mem_range.mpr ho.1.2)
  simp only [Bool.or_eq_true, Bool.and_eq_true, Bool.not_eq_true', beq_iff_eq] at h1
  rcases h1 with h1 | h1 | h1
  · have := Nat.lt_of_succ_le (Nat.le_of_ble_eq_true h1); have := ho.1.1; omega
  · rw [ho.2] at h1; exact absurd h1 (by decide)
  · obtain ⟨e1, e2, e3, e4, e5⟩ := h1
    exact ⟨e1, ⟨⟨Nat.le_of_ble_eq_true e2, Nat.lt_of_succ_le (Nat.le_of_ble_eq_true e3)⟩, Nat.eq_of_beq_eq_true e4⟩, Nat.eq_of_beq_eq_true e5⟩
theorem vx_cf7_1 : (List.range 625).all (fun a => Nat.blt a 1 || (!(vx_ka a).beq 7 || ((vx_ra a 1 == some (vx_r a 1)) && (Nat.ble 1 (vx_r a 1) && (Nat.blt (vx_r a 1) 625 && ((vx_ka (vx_r a 1)).beq 21 && (vx_za (vx_r a 1)).beq 4)))))) = true := by decide +kernel
theorem vx_f7_1 {a : Nat} (ho : vx_o 1 625 7 a) : vx_ra a 1 = some (vx_r a 1) ∧ vx_o 1 625 21 (vx_r a 1) ∧ vx_za (vx_r a 1) = 4 := by
  have h1 := List.all_eq_true.mp vx_cf7_1 a (List.mem_range.mpr ho.1.2)
  simp only [Bool.or_eq_true, Bool.and_eq_true, Bool.not_eq_true', beq_iff_eq] at h1
  rcases h1 with h1 | h1 | h1
  · have := Nat.lt_of_succ_le (Nat.le_of_ble_eq_true h1); have := ho.1.1; omega
  · rw [ho.2] at h1; exact absurd h1 (by decide)
  · obtain ⟨e1, e2, e3, e4, e5⟩ := h1
    exact ⟨e1, ⟨⟨Nat.le_of_ble_eq_true e2, Nat.lt_of_succ_le (Nat.le_of_ble_eq_true e3)⟩, Nat.eq_of_beq_eq_true e4⟩, Nat.eq_of_beq_eq_true e5⟩
theorem vx_cf7_8 : (List.range 625).all (fun a => Nat.blt a 1 || (!(vx_ka a).beq 7 || ((vx_ra a 8 == some (vx_r a 8)) && (Nat.ble 1 (vx_r a 8) && (Nat.blt (vx_r a 8) 625 && ((vx_ka (vx_r a 8)).beq 20 && (vx_za (vx_r a 8)).beq 6)))))) = true := by decide +kernel
theorem vx_f7_8 {a : Nat} (ho : vx_o 1 625 7 a) : vx_ra a 8 = some (vx_r a 8) ∧ vx_o 1 625 20 (vx_r a 8) ∧ vx_za (vx_r a 8) = 6 := by
  have h1 := List.all_eq_true.mp vx_cf7_8 a (List.mem_range.mpr ho.1.2)
  simp only [Bool.or_eq_true, Bool.and_eq_true, Bool.not_eq_true', beq_iff_eq] at h1
  rcases h1 with h1 | h1 | h1
  · have := Nat.lt_of_succ_le (Nat.le_of_ble_eq_true h1); have := ho.1.1; omega
  · rw [ho.2] at h1; exact absurd h1 (by decide)
  · obtain ⟨e1, e2, e3, e4, e5⟩ := h1
    exact ⟨e1, ⟨⟨Nat.le_of_ble_eq_true e2, Nat.lt_of_succ_le (Nat.le_of_ble_eq_true e3)⟩, Nat.eq_of_beq_eq_true e4⟩, Nat.eq_of_beq_eq_true e5⟩
theorem vx_cf7_9 : (List.range 625).all (fun a => Nat.blt a 1 || (!(vx_ka a).beq 7 || ((vx_ra a 9 == some (vx_r a 9)) && (Nat.ble 1 (vx_r a 9) && (Nat.blt (vx_r a 9) 625 && ((vx_ka (vx_r a 9)).beq 20 && (vx_za (vx_r a 9)).beq 6)))))) = true := by decide +kernel
theorem vx_f7_9 {a : Nat} (ho : vx_o 1 625 7 a) : vx_ra a 9 = some (vx_r a 9) ∧ vx_o 1 625 20 (vx_r a 9) ∧ vx_za (vx_r a 9) = 6 := by
  have h1 := List.all_eq_true.mp vx_cf7_9 a (List.mem_range.mpr ho.1.2)
  simp only [Bool.or_eq_true, Bool.and_eq_true, Bool.not_eq_true', beq_iff_eq] at h1
  rcases h1 with h1 | h1 | h1
  · have := Nat.lt_of_succ_le (Nat.le_of_ble_eq_true h1); have := ho.1.1; omega
  · rw [ho.2] at h1; exact absurd h1 (by decide)
  · obtain ⟨e1, e2, e3, e4, e5⟩ := h1
    exact ⟨e1, ⟨⟨Nat.le_of_ble_eq_true e2, Nat.lt_of_succ_le (Nat.le_of_ble_eq_true e3)⟩, Nat.eq_of_beq_eq_true e4⟩, Nat.eq_of_beq_eq_true e5⟩
theorem vx_cf7_10 : (List.range 625).all (fun a => Nat.blt a 1 || (!(vx_ka a).beq 7 || ((vx_ra a 10 == some (vx_r a 10)) && (Nat.ble 1 (vx_r a 10) && (Nat.blt (vx_r a 10) 625 && ((vx_ka (vx_r a 10)).beq 20 && (vx_za (vx_r a 10)).beq 6)))))) = true := by decide +kernel
theorem vx_f7_10 {a : Nat} (ho : vx_o 1 625 7 a) : vx_ra a 10 = some (vx_r a 10) ∧ vx_o 1 625 20 (vx_r a 10) ∧ vx_za (vx_r a 10) = 6 := by
  have h1 := List.all_eq_true.mp vx_cf7_10 a (List.mem_range.mpr ho.1.2)
  simp only [Bool.or_eq_true, Bool.and_eq_true, Bool.not_eq_true', beq_iff_eq] at h1
  rcases h1 with h1 | h1 | h1
  · have := Nat.lt_of_succ_le (Nat.le_of_ble_eq_true h1); have := ho.1.1; omega
  · rw [ho.2] at h1; exact absurd h1 (by decide)
  · obtain ⟨e1, e2, e3, e4, e5⟩ := h1
    exact ⟨e1, ⟨⟨Nat.le_of_ble_eq_true e2, Nat.lt_of_succ_le (Nat.le_of_ble_eq_true e3)⟩, Nat.eq_of_beq_eq_true e4⟩, Nat.eq_of_beq_eq_true e5⟩
theorem vx_cf7_11 : (List.range 625).all (fun a => Nat.blt a 1 || (!(vx_ka a).beq 7 || ((vx_ra a 11 == some (vx_r a 11)) && (Nat.ble 1 (vx_r a 11) && (Nat.blt (vx_r a 11) 625 && ((vx_ka (vx_r a 11)).beq 21 && (vx_za (vx_r a 11)).beq 24)))))) = true := by decide +kernel
theorem vx_f7_11 {a : Nat} (ho : vx_o 1 625 7 a) : vx_ra a 11 = some (vx_r a 11) ∧ vx_o 1 625 21 (vx_r a 11) ∧ vx_za (vx_r a 11) = 24 := by
  have h1 := List.all_eq_true.mp vx_cf7_11 a (List.mem_range.mpr ho.1.2)
  simp only [Bool.or_eq_true, Bool.and_eq_true, Bool.not_eq_true', beq_iff_eq] at h1
  rcases h1 with h1 | h1 | h1
  · have := Nat.lt_of_succ_le (Nat.le_of_ble_eq_true h1); have := ho.1.1; omega
  · rw [ho.2] at h1; exact absurd h1 (by decide)
  · obtain ⟨e1, e2, e3, e4, e5⟩ := h1
    exact ⟨e1, ⟨⟨Nat.le_of_ble_eq_true e2, Nat.lt_of_succ_le (Nat.le_of_ble_eq_true e3)⟩, Nat.eq_of_beq_eq_true e4⟩, Nat.eq_of_beq_eq_true e5⟩
theorem vx_cf7_12 : (List.range 625).all (fun a => Nat.blt a 1 || (!(vx_ka a).beq 7 || ((vx_ra a 12 == some (vx_r a 12)) && (Nat.ble 1 (vx_r a 12) && (Nat.blt (vx_r a 12) 625 && ((vx_ka (vx_r a 12)).beq 20 && (vx_za (vx_r a 12)).beq 6)))))) = true := by decide +kernel
theorem vx_f7_12 {a : Nat} (ho : vx_o 1 625 7 a) : vx_ra a 12 = some (vx_r a 12) ∧ vx_o 1 625 20 (vx_r a 12) ∧ vx_za (vx_r a 12) = 6 := by
  have h1 := List.all_eq_true.mp vx_cf7_12 a (List.mem_range.mpr ho.1.2)
  simp only [Bool.or_eq_true, Bool.and_eq_true, Bool.not_eq_true', beq_iff_eq] at h1
  rcases h1 with h1 | h1 | h1
  · have := Nat.lt_of_succ_le (Nat.le_of_ble_eq_true h1); have := ho.1.1; omega
  · rw [ho.2] at h1; exact absurd h1 (by decide)
  · obtain ⟨e1, e2, e3, e4, e5⟩ := h1
    exact ⟨e1, ⟨⟨Nat.le_of_ble_eq_true e2, Nat.lt_of_succ_le (Nat.le_of_ble_eq_true e3)⟩, Nat.eq_of_beq_eq_true e4⟩, Nat.eq_of_beq_eq_true e5⟩
theorem vx_cf7_13 : (List.range 625).all (fun a => Nat.blt a 1 || (!(vx_ka a).beq 7 || ((vx_ra a 13 == some (vx_r a 13)) && (Nat.ble 1 (vx_r a 13) && (Nat.blt (vx_r a 13) 625 && ((vx_ka (vx_r a 13)).beq 20 && (vx_za (vx_r a 13)).beq 6)))))) = true := by decide +kernel
theorem vx_f7_13 {a : Nat} (ho : vx_o 1 625 7 a) : vx_ra a 13 = some (vx_r a 13) ∧ vx_o 1 625 20 (vx_r a 13) ∧ vx_za (vx_r a 13) = 6 := by
  have h1 := List.all_eq_true.mp vx_cf7_13 a (List.mem_range.mpr ho.1.2)
  simp only [Bool.or_eq_true, Bool.and_eq_true, Bool.not_eq_true', beq_iff_eq] at h1
  rcases h1 with h1 | h1 | h1
  · have := Nat.lt_of_succ_le (Nat.le_of_ble_eq_true h1); have := ho.1.1; omega
  · rw [ho.2] at h1; exact absurd h1 (by decide)
  · obtain ⟨e1, e2, e3, e4, e5⟩ := h1
    exact ⟨e1, ⟨⟨Nat.le_of_ble_eq_true e2, Nat.lt_of_succ_le (Nat.le_of_ble_eq_true e3)⟩, Nat.eq_of_beq_eq_true e4⟩, Nat.eq_of_beq_eq_true e5⟩
theorem vx_cf7_14 : (List.range 625).all (fun a => Nat.blt a 1 || (!(vx_ka a).beq 7 || ((vx_ra a 14 == some (vx_r a 14)) && (Nat.ble 1 (vx_r a 14) && (Nat.blt (vx_r a 14) 625 && ((vx_ka (vx_r a 14)).beq 23 && (vx_za (vx_r a 14)).beq 6)))))) = true := by decide +kernel
theorem vx_f7_14 {a : Nat} (ho : vx_o 1 625 7 a) : vx_ra a 14 = some (vx_r a 14) ∧ vx_o 1 625 23 (vx_r a 14) ∧ vx_za (vx_r a 14) = 6 := by
  have h1 := List.all_eq_true.mp vx_cf7_14 a (List.mem_range.mpr ho.1.2)
  simp only [Bool.or_eq_true, Bool.and_eq_true, Bool.not_eq_true', beq_iff_eq] at h1
  rcases h1 with h1 | h1 | h1
  · have := Nat.lt_of_succ_le (Nat.le_of_ble_eq_true h1); have := ho.1.1; omega
  · rw [ho.2] at h1; exact absurd h1 (by decide)
  · obtain ⟨e1, e2, e3, e4, e5⟩ := h1
    exact ⟨e1, ⟨⟨Nat.le_of_ble_eq_true e2, Nat.lt_of_succ_le (Nat.le_of_ble_eq_true e3)⟩, Nat.eq_of_beq_eq_true e4⟩, Nat.eq_of_beq_eq_true e5⟩
theorem vx_cr24 : (List.range 625).all (fun a => Nat.blt a 1 || (!(vx_ka a).beq 24 || (List.range 31).all (fun i => (vx_ra a i == some (vx_r a i)) && (Nat.ble 1 (vx_r a i) && (Nat.blt (vx_r a i) 625 && (vx_ka (vx_r a i)).beq 7))))) = true := by decide +kernel
theorem vx_f24 {a i : Nat} (ho : vx_o 1 625 24 a) (hi : i < 31) : vx_ra a i = some (vx_r a i) ∧ vx_o 1 625 7 (vx_r a i) := by
  have h1 := List.all_eq_true.mp vx_cr24 a (List.mem_range.mpr ho.1.2)
  simp only [Bool.or_eq_true] at h1
  rcases h1 with h1 | h1 | h1
  · have := Nat.lt_of_succ_le (Nat.le_of_ble_eq_true h1); have := ho.1.1; omega
  · rw [ho.2] at h1; exact absurd h1 (by decide)
  · have h2 := List.all_eq_true.mp h1 i (List.mem_range.mpr hi)
    simp only [Bool.and_eq_true, beq_iff_eq] at h2
    obtain ⟨e1, e2, e3, e4⟩ := h2
    exact ⟨e1, ⟨⟨Nat.le_of_ble_eq_true e2, Nat.lt_of_succ_le (Nat.le_of_ble_eq_true e3)⟩, Nat.eq_of_beq_eq_true e4⟩⟩
