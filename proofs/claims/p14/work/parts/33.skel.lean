/-! the shape of the memory, by program (wip/whole/gen_skel.py): the class's cells 0 .. 724, the reference's from 725 on -/
def rSk0 : List rSk := [.inr (.inr (8, [some (some 6), some (some 230), some (some 454), some (some 1), some (some 678), some (some 682), some (some 686), some (some 687), some (some 689), some (some 691), some (some 692), some (some 693), some (some 724), none])),
  .inr (.inr (7, [some (some 2), some (some 3), some (some 4), some (some 5), none, none, none])),
  .inl 1024,
  .inl 1024,
  .inl 128,
  .inl 128,
  .inr (.inr (4, [some (some 7), some (some 1), some (some 11), some (some 132), some (some 223), some (some 224), some (some 227), none, none, none, none, none, none])),
  .inr (.inr (3, [some (some 8), some (some 9), some (some 10), none, none, none, none, none, none])),
  .inl 326,
  .inl 978,
  .inl 1280,
  .inr (.inl (1, 40, fun i => if i < 40 then some (12 + 3 * i) else none)),
  .inr (.inr (5, [some (some 13), some (some 14), none, none, none])),
  .inl 64,
  .inl 32,
  .inr (.inr (5, [some (some 16), some (some 17), none, none, none])),
  .inl 64,
  .inl 32,
  .inr (.inr (5, [some (some 19), some (some 20), none, none, none])),
  .inl 64,
  .inl 32,
  .inr (.inr (5, [some (some 22), some (some 23), none, none, none])),
  .inl 64,
  .inl 32,
  .inr (.inr (5, [some (some 25), some (some 26), none, none, none])),
  .inl 64,
  .inl 32,
  .inr (.inr (5, [some (some 28), some (some 29), none, none, none])),
  .inl 64,
  .inl 32,
  .inr (.inr (5, [some (some 31), some (some 32), none, none, none])),
  .inl 64,
  .inl 32,
  .inr (.inr (5, [some (some 34), some (some 35), none, none, none])),
  .inl 64,
  .inl 32,
  .inr (.inr (5, [some (some 37), some (some 38), none, none, none])),
  .inl 64,
  .inl 32,
  .inr (.inr (5, [some (some 40), some (some 41), none, none, none])),
  .inl 64,
  .inl 32,
  .inr (.inr (5, [some (some 43), some (some 44), none, none, none])),
  .inl 64,
  .inl 32,
  .inr (.inr (5, [some (some 46), some (some 47), none, none, none])),
  .inl 64,
  .inl 32,
  .inr (.inr (5, [some (some 49), some (some 50), none, none, none])),
  .inl 64,
  .inl 32,
  .inr (.inr (5, [some (some 52), some (some 53), none, none, none])),
  .inl 64,
  .inl 32,
  .inr (.inr (5, [some (some 55), some (some 56), none, none, none])),
  .inl 64,
  .inl 32,
  .inr (.inr (5, [some (some 58), some (some 59), none, none, none])),
  .inl 64,
  .inl 32]
def rSk1 : List rSk := [.inr (.inr (5, [some (some 61), some (some 62), none, none, none])),
  .inl 64,
  .inl 32,
  .inr (.inr (5, [some (some 64), some (some 65), none, none, none])),
  .inl 64,
  .inl 32,
  .inr (.inr (5, [some (some 67), some (some 68), none, none, none])),
  .inl 64,
  .inl 32,
  .inr (.inr (5, [some (some 70), some (some 71), none, none, none])),
  .inl 64,
  .inl 32,
  .inr (.inr (5, [some (some 73), some (some 74), none, none, none])),
  .inl 64,
  .inl 32,
  .inr (.inr (5, [some (some 76), some (some 77), none, none, none])),
  .inl 64,
  .inl 32,
  .inr (.inr (5, [some (some 79), some (some 80), none, none, none])),
  .inl 64,
  .inl 32,
  .inr (.inr (5, [some (some 82), some (some 83), none, none, none])),
  .inl 64,
  .inl 32,
  .inr (.inr (5, [some (some 85), some (some 86), none, none, none])),
  .inl 64,
  .inl 32,
  .inr (.inr (5, [some (some 88), some (some 89), none, none, none])),
  .inl 64,
  .inl 32,
  .inr (.inr (5, [some (some 91), some (some 92), none, none, none])),
  .inl 64,
  .inl 32,
  .inr (.inr (5, [some (some 94), some (some 95), none, none, none])),
  .inl 64,
  .inl 32,
  .inr (.inr (5, [some (some 97), some (some 98), none, none, none])),
  .inl 64,
  .inl 32,
  .inr (.inr (5, [some (some 100), some (some 101), none, none, none])),
  .inl 64,
  .inl 32,
  .inr (.inr (5, [some (some 103), some (some 104), none, none, none])),
  .inl 64,
  .inl 32,
  .inr (.inr (5, [some (some 106), some (some 107), none, none, none])),
  .inl 64,
  .inl 32,
  .inr (.inr (5, [some (some 109), some (some 110), none, none, none])),
  .inl 64,
  .inl 32,
  .inr (.inr (5, [some (some 112), some (some 113), none, none, none])),
  .inl 64,
  .inl 32,
  .inr (.inr (5, [some (some 115), some (some 116), none, none, none])),
  .inl 64,
  .inl 32,
  .inr (.inr (5, [some (some 118), some (some 119), none, none, none])),
  .inl 64,
  .inl 32]
def rSk2 : List rSk := [.inr (.inr (5, [some (some 121), some (some 122), none, none, none])),
  .inl 64,
  .inl 32,
  .inr (.inr (5, [some (some 124), some (some 125), none, none, none])),
  .inl 64,
  .inl 32,
  .inr (.inr (5, [some (some 127), some (some 128), none, none, none])),
  .inl 64,
  .inl 32,
  .inr (.inr (5, [some (some 130), some (some 131), none, none, none])),
  .inl 64,
  .inl 32,
  .inr (.inl (1, 30, fun i => if i < 30 then some (133 + 3 * i) else none)),
  .inr (.inr (5, [some (some 134), some (some 135), none, none, none])),
  .inl 64,
  .inl 32,
  .inr (.inr (5, [some (some 137), some (some 138), none, none, none])),
  .inl 64,
  .inl 32,
  .inr (.inr (5, [some (some 140), some (some 141), none, none, none])),
  .inl 64,
  .inl 32,
  .inr (.inr (5, [some (some 143), some (some 144), none, none, none])),
  .inl 64,
  .inl 32,
  .inr (.inr (5, [some (some 146), some (some 147), none, none, none])),
  .inl 64,
  .inl 32,
  .inr (.inr (5, [some (some 149), some (some 150), none, none, none])),
  .inl 64,
  .inl 32,
  .inr (.inr (5, [some (some 152), some (some 153), none, none, none])),
  .inl 64,
  .inl 32,
  .inr (.inr (5, [some (some 155), some (some 156), none, none, none])),
  .inl 64,
  .inl 32,
  .inr (.inr (5, [some (some 158), some (some 159), none, none, none])),
  .inl 64,
  .inl 32,
  .inr (.inr (5, [some (some 161), some (some 162), none, none, none])),
  .inl 64,
  .inl 32,
  .inr (.inr (5, [some (some 164), some (some 165), none, none, none])),
  .inl 64,
  .inl 32,
  .inr (.inr (5, [some (some 167), some (some 168), none, none, none])),
  .inl 64,
  .inl 32,
  .inr (.inr (5, [some (some 170), some (some 171), none, none, none])),
  .inl 64,
  .inl 32,
  .inr (.inr (5, [some (some 173), some (some 174), none, none, none])),
  .inl 64,
  .inl 32,
  .inr (.inr (5, [some (some 176), some (some 177), none, none, none])),
  .inl 64,
  .inl 32,
  .inr (.inr (5, [some (some 179), some (some 180), none, none, none])),
  .inl 64]
def rSk3 : List rSk := [.inl 32,
  .inr (.inr (5, [some (some 182), some (some 183), none, none, none])),
  .inl 64,
  .inl 32,
  .inr (.inr (5, [some (some 185), some (some 186), none, none, none])),
  .inl 64,
  .inl 32,
  .inr (.inr (5, [some (some 188), some (some 189), none, none, none])),
  .inl 64,
  .inl 32,
  .inr (.inr (5, [some (some 191), some (some 192), none, none, none])),
  .inl 64,
  .inl 32,
  .inr (.inr (5, [some (some 194), some (some 195), none, none, none])),
  .inl 64,
  .inl 32,
  .inr (.inr (5, [some (some 197), some (some 198), none, none, none])),
  .inl 64,
  .inl 32,
  .inr (.inr (5, [some (some 200), some (some 201), none, none, none])),
  .inl 64,
  .inl 32,
  .inr (.inr (5, [some (some 203), some (some 204), none, none, none])),
  .inl 64,
  .inl 32,
  .inr (.inr (5, [some (some 206), some (some 207), none, none, none])),
  .inl 64,
  .inl 32,
  .inr (.inr (5, [some (some 209), some (some 210), none, none, none])),
  .inl 64,
  .inl 32,
  .inr (.inr (5, [some (some 212), some (some 213), none, none, none])),
  .inl 64,
  .inl 32,
  .inr (.inr (5, [some (some 215), some (some 216), none, none, none])),
  .inl 64,
  .inl 32,
  .inr (.inr (5, [some (some 218), some (some 219), none, none, none])),
  .inl 64,
  .inl 32,
  .inr (.inr (5, [some (some 221), some (some 222), none, none, none])),
  .inl 64,
  .inl 32,
  .inl 30,
  .inr (.inr (5, [some (some 225), some (some 226), none, none, none])),
  .inl 64,
  .inl 32,
  .inr (.inr (5, [some (some 228), some (some 229), none, none, none])),
  .inl 64,
  .inl 32,
  .inr (.inr (4, [some (some 231), some (some 1), some (some 235), some (some 356), some (some 447), some (some 448), some (some 451), none, none, none, none, none, none])),
  .inr (.inr (3, [some (some 232), some (some 233), some (some 234), none, none, none, none, none, none])),
  .inl 326,
  .inl 978,
  .inl 1280,
  .inr (.inl (1, 40, fun i => if i < 40 then some (236 + 3 * i) else none)),
  .inr (.inr (5, [some (some 237), some (some 238), none, none, none])),
  .inl 64,
  .inl 32,
  .inr (.inr (5, [some (some 240), some (some 241), none, none, none]))]
def rSk4 : List rSk := [.inl 64,
  .inl 32,
  .inr (.inr (5, [some (some 243), some (some 244), none, none, none])),
  .inl 64,
  .inl 32,
  .inr (.inr (5, [some (some 246), some (some 247), none, none, none])),
  .inl 64,
  .inl 32,
  .inr (.inr (5, [some (some 249), some (some 250), none, none, none])),
  .inl 64,
  .inl 32,
  .inr (.inr (5, [some (some 252), some (some 253), none, none, none])),
  .inl 64,
  .inl 32,
  .inr (.inr (5, [some (some 255), some (some 256), none, none, none])),
  .inl 64,
  .inl 32,
  .inr (.inr (5, [some (some 258), some (some 259), none, none, none])),
  .inl 64,
  .inl 32,
  .inr (.inr (5, [some (some 261), some (some 262), none, none, none])),
  .inl 64,
  .inl 32,
  .inr (.inr (5, [some (some 264), some (some 265), none, none, none])),
  .inl 64,
  .inl 32,
  .inr (.inr (5, [some (some 267), some (some 268), none, none, none])),
  .inl 64,
  .inl 32,
  .inr (.inr (5, [some (some 270), some (some 271), none, none, none])),
  .inl 64,
  .inl 32,
  .inr (.inr (5, [some (some 273), some (some 274), none, none, none])),
  .inl 64,
  .inl 32,
  .inr (.inr (5, [some (some 276), some (some 277), none, none, none])),
  .inl 64,
  .inl 32,
  .inr (.inr (5, [some (some 279), some (some 280), none, none, none])),
  .inl 64,
  .inl 32,
  .inr (.inr (5, [some (some 282), some (some 283), none, none, none])),
  .inl 64,
  .inl 32,
  .inr (.inr (5, [some (some 285), some (some 286), none, none, none])),
  .inl 64,
  .inl 32,
  .inr (.inr (5, [some (some 288), some (some 289), none, none, none])),
  .inl 64,
  .inl 32,
  .inr (.inr (5, [some (some 291), some (some 292), none, none, none])),
  .inl 64,
  .inl 32,
  .inr (.inr (5, [some (some 294), some (some 295), none, none, none])),
  .inl 64,
  .inl 32,
  .inr (.inr (5, [some (some 297), some (some 298), none, none, none])),
  .inl 64,
  .inl 32,
  .inr (.inr (5, [some (some 300), some (some 301), none, none, none]))]
def rSk5 : List rSk := [.inl 64,
  .inl 32,
  .inr (.inr (5, [some (some 303), some (some 304), none, none, none])),
  .inl 64,
  .inl 32,
  .inr (.inr (5, [some (some 306), some (some 307), none, none, none])),
  .inl 64,
  .inl 32,
  .inr (.inr (5, [some (some 309), some (some 310), none, none, none])),
  .inl 64,
  .inl 32,
  .inr (.inr (5, [some (some 312), some (some 313), none, none, none])),
  .inl 64,
  .inl 32,
  .inr (.inr (5, [some (some 315), some (some 316), none, none, none])),
  .inl 64,
  .inl 32,
  .inr (.inr (5, [some (some 318), some (some 319), none, none, none])),
  .inl 64,
  .inl 32,
  .inr (.inr (5, [some (some 321), some (some 322), none, none, none])),
  .inl 64,
  .inl 32,
  .inr (.inr (5, [some (some 324), some (some 325), none, none, none])),
  .inl 64,
  .inl 32,
  .inr (.inr (5, [some (some 327), some (some 328), none, none, none])),
  .inl 64,
  .inl 32,
  .inr (.inr (5, [some (some 330), some (some 331), none, none, none])),
  .inl 64,
  .inl 32,
  .inr (.inr (5, [some (some 333), some (some 334), none, none, none])),
  .inl 64,
  .inl 32,
  .inr (.inr (5, [some (some 336), some (some 337), none, none, none])),
  .inl 64,
  .inl 32,
  .inr (.inr (5, [some (some 339), some (some 340), none, none, none])),
  .inl 64,
  .inl 32,
  .inr (.inr (5, [some (some 342), some (some 343), none, none, none])),
  .inl 64,
  .inl 32,
  .inr (.inr (5, [some (some 345), some (some 346), none, none, none])),
  .inl 64,
  .inl 32,
  .inr (.inr (5, [some (some 348), some (some 349), none, none, none])),
  .inl 64,
  .inl 32,
  .inr (.inr (5, [some (some 351), some (some 352), none, none, none])),
  .inl 64,
  .inl 32,
  .inr (.inr (5, [some (some 354), some (some 355), none, none, none])),
  .inl 64,
  .inl 32,
  .inr (.inl (1, 30, fun i => if i < 30 then some (357 + 3 * i) else none)),
  .inr (.inr (5, [some (some 358), some (some 359), none, none, none])),
  .inl 64,
  .inl 32]
def rSk6 : List rSk := [.inr (.inr (5, [some (some 361), some (some 362), none, none, none])),
  .inl 64,
  .inl 32,
  .inr (.inr (5, [some (some 364), some (some 365), none, none, none])),
  .inl 64,
  .inl 32,
  .inr (.inr (5, [some (some 367), some (some 368), none, none, none])),
  .inl 64,
  .inl 32,
  .inr (.inr (5, [some (some 370), some (some 371), none, none, none])),
  .inl 64,
  .inl 32,
  .inr (.inr (5, [some (some 373), some (some 374), none, none, none])),
  .inl 64,
  .inl 32,
  .inr (.inr (5, [some (some 376), some (some 377), none, none, none])),
  .inl 64,
  .inl 32,
  .inr (.inr (5, [some (some 379), some (some 380), none, none, none])),
  .inl 64,
  .inl 32,
  .inr (.inr (5, [some (some 382), some (some 383), none, none, none])),
  .inl 64,
  .inl 32,
  .inr (.inr (5, [some (some 385), some (some 386), none, none, none])),
  .inl 64,
  .inl 32,
  .inr (.inr (5, [some (some 388), some (some 389), none, none, none])),
  .inl 64,
  .inl 32,
  .inr (.inr (5, [some (some 391), some (some 392), none, none, none])),
  .inl 64,
  .inl 32,
  .inr (.inr (5, [some (some 394), some (some 395), none, none, none])),
  .inl 64,
  .inl 32,
  .inr (.inr (5, [some (some 397), some (some 398), none, none, none])),
  .inl 64,
  .inl 32,
  .inr (.inr (5, [some (some 400), some (some 401), none, none, none])),
  .inl 64,
  .inl 32,
  .inr (.inr (5, [some (some 403), some (some 404), none, none, none])),
  .inl 64,
  .inl 32,
  .inr (.inr (5, [some (some 406), some (some 407), none, none, none])),
  .inl 64,
  .inl 32,
  .inr (.inr (5, [some (some 409), some (some 410), none, none, none])),
  .inl 64,
  .inl 32,
  .inr (.inr (5, [some (some 412), some (some 413), none, none, none])),
  .inl 64,
  .inl 32,
  .inr (.inr (5, [some (some 415), some (some 416), none, none, none])),
  .inl 64,
  .inl 32,
  .inr (.inr (5, [some (some 418), some (some 419), none, none, none])),
  .inl 64,
  .inl 32]
def rSk7 : List rSk := [.inr (.inr (5, [some (some 421), some (some 422), none, none, none])),
  .inl 64,
  .inl 32,
  .inr (.inr (5, [some (some 424), some (some 425), none, none, none])),
  .inl 64,
  .inl 32,
  .inr (.inr (5, [some (some 427), some (some 428), none, none, none])),
  .inl 64,
  .inl 32,
  .inr (.inr (5, [some (some 430), some (some 431), none, none, none])),
  .inl 64,
  .inl 32,
  .inr (.inr (5, [some (some 433), some (some 434), none, none, none])),
  .inl 64,
  .inl 32,
  .inr (.inr (5, [some (some 436), some (some 437), none, none, none])),
  .inl 64,
  .inl 32,
  .inr (.inr (5, [some (some 439), some (some 440), none, none, none])),
  .inl 64,
  .inl 32,
  .inr (.inr (5, [some (some 442), some (some 443), none, none, none])),
  .inl 64,
  .inl 32,
  .inr (.inr (5, [some (some 445), some (some 446), none, none, none])),
  .inl 64,
  .inl 32,
  .inl 30,
  .inr (.inr (5, [some (some 449), some (some 450), none, none, none])),
  .inl 64,
  .inl 32,
  .inr (.inr (5, [some (some 452), some (some 453), none, none, none])),
  .inl 64,
  .inl 32,
  .inr (.inr (4, [some (some 455), some (some 1), some (some 459), some (some 580), some (some 671), some (some 672), some (some 675), none, none, none, none, none, none])),
  .inr (.inr (3, [some (some 456), some (some 457), some (some 458), none, none, none, none, none, none])),
  .inl 326,
  .inl 978,
  .inl 1280,
  .inr (.inl (1, 40, fun i => if i < 40 then some (460 + 3 * i) else none)),
  .inr (.inr (5, [some (some 461), some (some 462), none, none, none])),
  .inl 64,
  .inl 32,
  .inr (.inr (5, [some (some 464), some (some 465), none, none, none])),
  .inl 64,
  .inl 32,
  .inr (.inr (5, [some (some 467), some (some 468), none, none, none])),
  .inl 64,
  .inl 32,
  .inr (.inr (5, [some (some 470), some (some 471), none, none, none])),
  .inl 64,
  .inl 32,
  .inr (.inr (5, [some (some 473), some (some 474), none, none, none])),
  .inl 64,
  .inl 32,
  .inr (.inr (5, [some (some 476), some (some 477), none, none, none])),
  .inl 64,
  .inl 32,
  .inr (.inr (5, [some (some 479), some (some 480), none, none, none])),
  .inl 64]
def rSk8 : List rSk := [.inl 32,
  .inr (.inr (5, [some (some 482), some (some 483), none, none, none])),
  .inl 64,
  .inl 32,
  .inr (.inr (5, [some (some 485), some (some 486), none, none, none])),
  .inl 64,
  .inl 32,
  .inr (.inr (5, [some (some 488), some (some 489), none, none, none])),
  .inl 64,
  .inl 32,
  .inr (.inr (5, [some (some 491), some (some 492), none, none, none])),
  .inl 64,
  .inl 32,
  .inr (.inr (5, [some (some 494), some (some 495), none, none, none])),
  .inl 64,
  .inl 32,
  .inr (.inr (5, [some (some 497), some (some 498), none, none, none])),
  .inl 64,
  .inl 32,
  .inr (.inr (5, [some (some 500), some (some 501), none, none, none])),
  .inl 64,
  .inl 32,
  .inr (.inr (5, [some (some 503), some (some 504), none, none, none])),
  .inl 64,
  .inl 32,
  .inr (.inr (5, [some (some 506), some (some 507), none, none, none])),
  .inl 64,
  .inl 32,
  .inr (.inr (5, [some (some 509), some (some 510), none, none, none])),
  .inl 64,
  .inl 32,
  .inr (.inr (5, [some (some 512), some (some 513), none, none, none])),
  .inl 64,
  .inl 32,
  .inr (.inr (5, [some (some 515), some (some 516), none, none, none])),
  .inl 64,
  .inl 32,
  .inr (.inr (5, [some (some 518), some (some 519), none, none, none])),
  .inl 64,
  .inl 32,
  .inr (.inr (5, [some (some 521), some (some 522), none, none, none])),
  .inl 64,
  .inl 32,
  .inr (.inr (5, [some (some 524), some (some 525), none, none, none])),
  .inl 64,
  .inl 32,
  .inr (.inr (5, [some (some 527), some (some 528), none, none, none])),
  .inl 64,
  .inl 32,
  .inr (.inr (5, [some (some 530), some (some 531), none, none, none])),
  .inl 64,
  .inl 32,
  .inr (.inr (5, [some (some 533), some (some 534), none, none, none])),
  .inl 64,
  .inl 32,
  .inr (.inr (5, [some (some 536), some (some 537), none, none, none])),
  .inl 64,
  .inl 32,
  .inr (.inr (5, [some (some 539), some (some 540), none, none, none])),
  .inl 64]
def rSk9 : List rSk := [.inl 32,
  .inr (.inr (5, [some (some 542), some (some 543), none, none, none])),
  .inl 64,
  .inl 32,
  .inr (.inr (5, [some (some 545), some (some 546), none, none, none])),
  .inl 64,
  .inl 32,
  .inr (.inr (5, [some (some 548), some (some 549), none, none, none])),
  .inl 64,
  .inl 32,
  .inr (.inr (5, [some (some 551), some (some 552), none, none, none])),
  .inl 64,
  .inl 32,
  .inr (.inr (5, [some (some 554), some (some 555), none, none, none])),
  .inl 64,
  .inl 32,
  .inr (.inr (5, [some (some 557), some (some 558), none, none, none])),
  .inl 64,
  .inl 32,
  .inr (.inr (5, [some (some 560), some (some 561), none, none, none])),
  .inl 64,
  .inl 32,
  .inr (.inr (5, [some (some 563), some (some 564), none, none, none])),
  .inl 64,
  .inl 32,
  .inr (.inr (5, [some (some 566), some (some 567), none, none, none])),
  .inl 64,
  .inl 32,
  .inr (.inr (5, [some (some 569), some (some 570), none, none, none])),
  .inl 64,
  .inl 32,
  .inr (.inr (5, [some (some 572), some (some 573), none, none, none])),
  .inl 64,
  .inl 32,
  .inr (.inr (5, [some (some 575), some (some 576), none, none, none])),
  .inl 64,
  .inl 32,
  .inr (.inr (5, [some (some 578), some (some 579), none, none, none])),
  .inl 64,
  .inl 32,
  .inr (.inl (1, 30, fun i => if i < 30 then some (581 + 3 * i) else none)),
  .inr (.inr (5, [some (some 582), some (some 583), none, none, none])),
  .inl 64,
  .inl 32,
  .inr (.inr (5, [some (some 585), some (some 586), none, none, none])),
  .inl 64,
  .inl 32,
  .inr (.inr (5, [some (some 588), some (some 589), none, none, none])),
  .inl 64,
  .inl 32,
  .inr (.inr (5, [some (some 591), some (some 592), none, none, none])),
  .inl 64,
  .inl 32,
  .inr (.inr (5, [some (some 594), some (some 595), none, none, none])),
  .inl 64,
  .inl 32,
  .inr (.inr (5, [some (some 597), some (some 598), none, none, none])),
  .inl 64,
  .inl 32,
  .inr (.inr (5, [some (some 600), some (some 601), none, none, none]))]
def rSk10 : List rSk := [.inl 64,
  .inl 32,
  .inr (.inr (5, [some (some 603), some (some 604), none, none, none])),
  .inl 64,
  .inl 32,
  .inr (.inr (5, [some (some 606), some (some 607), none, none, none])),
  .inl 64,
  .inl 32,
  .inr (.inr (5, [some (some 609), some (some 610), none, none, none])),
  .inl 64,
  .inl 32,
  .inr (.inr (5, [some (some 612), some (some 613), none, none, none])),
  .inl 64,
  .inl 32,
  .inr (.inr (5, [some (some 615), some (some 616), none, none, none])),
  .inl 64,
  .inl 32,
  .inr (.inr (5, [some (some 618), some (some 619), none, none, none])),
  .inl 64,
  .inl 32,
  .inr (.inr (5, [some (some 621), some (some 622), none, none, none])),
  .inl 64,
  .inl 32,
  .inr (.inr (5, [some (some 624), some (some 625), none, none, none])),
  .inl 64,
  .inl 32,
  .inr (.inr (5, [some (some 627), some (some 628), none, none, none])),
  .inl 64,
  .inl 32,
  .inr (.inr (5, [some (some 630), some (some 631), none, none, none])),
  .inl 64,
  .inl 32,
  .inr (.inr (5, [some (some 633), some (some 634), none, none, none])),
  .inl 64,
  .inl 32,
  .inr (.inr (5, [some (some 636), some (some 637), none, none, none])),
  .inl 64,
  .inl 32,
  .inr (.inr (5, [some (some 639), some (some 640), none, none, none])),
  .inl 64,
  .inl 32,
  .inr (.inr (5, [some (some 642), some (some 643), none, none, none])),
  .inl 64,
  .inl 32,
  .inr (.inr (5, [some (some 645), some (some 646), none, none, none])),
  .inl 64,
  .inl 32,
  .inr (.inr (5, [some (some 648), some (some 649), none, none, none])),
  .inl 64,
  .inl 32,
  .inr (.inr (5, [some (some 651), some (some 652), none, none, none])),
  .inl 64,
  .inl 32,
  .inr (.inr (5, [some (some 654), some (some 655), none, none, none])),
  .inl 64,
  .inl 32,
  .inr (.inr (5, [some (some 657), some (some 658), none, none, none])),
  .inl 64,
  .inl 32,
  .inr (.inr (5, [some (some 660), some (some 661), none, none, none]))]
def rSk11 : List rSk := [.inl 64,
  .inl 32,
  .inr (.inr (5, [some (some 663), some (some 664), none, none, none])),
  .inl 64,
  .inl 32,
  .inr (.inr (5, [some (some 666), some (some 667), none, none, none])),
  .inl 64,
  .inl 32,
  .inr (.inr (5, [some (some 669), some (some 670), none, none, none])),
  .inl 64,
  .inl 32,
  .inl 30,
  .inr (.inr (5, [some (some 673), some (some 674), none, none, none])),
  .inl 64,
  .inl 32,
  .inr (.inr (5, [some (some 676), some (some 677), none, none, none])),
  .inl 64,
  .inl 32,
  .inr (.inr (1, [some (some 231), some (some 679), some (some 680), some (some 681), none, none, none, none])),
  .inl 196,
  .inl 196,
  .inl 196,
  .inr (.inr (6, [some (some 683), some (some 684), some (some 685), none, none, none])),
  .inl 200,
  .inl 604,
  .inl 64,
  .inr (.inr (0, [none])),
  .inr (.inr (2, [some (some 688), none])),
  .inl 96,
  .inr (.inr (2, [some (some 690), none])),
  .inl 32,
  .inl 7,
  .inl 128,
  .inr (.inl (2, 30, fun i => if i < 30 then some (694 + i) else none)),
  .inl 200,
  .inl 200,
  .inl 200,
  .inl 200,
  .inl 200,
  .inl 200,
  .inl 200,
  .inl 200,
  .inl 200,
  .inl 200,
  .inl 200,
  .inl 200,
  .inl 200,
  .inl 200,
  .inl 200,
  .inl 200,
  .inl 200,
  .inl 200,
  .inl 200,
  .inl 200,
  .inl 200,
  .inl 200,
  .inl 200,
  .inl 200,
  .inl 200,
  .inl 200]
def rSk12 : List rSk := [.inl 200,
  .inl 200,
  .inl 200,
  .inl 200,
  .inl 30,
  .inr (.inr (9, [some (some 726), some (some 727), some (some 728), some (some 729), some (some 730), some (some 731), some (some 732), some (some 733), some (some 734), some (some 735), none, none, none, some (some 736), some (some 737), some (some 738), none, none, none, none, none, none, some (some 739), some (some 740), some (some 741), some (some 742), some (some 743), some (some 744), some (some 745), some (some 746), some (some 747), some (some 748), some (some 749), some (some 750), some (some 751), some (some 752), some (some 753), some (some 754), some (some 755), none, none, none, none, none, none, none, none, none, none, some (some 756), some (some 757), none, none, some (some 758), none, none, none, some (some 759), none, none])),
  .inl 7,
  .inl 6000,
  .inl 6000,
  .inl 3000,
  .inl 3000,
  .inl 3000,
  .inl 3000,
  .inl 20000,
  .inl 20000,
  .inl 20000,
  .inl 128,
  .inl 4000,
  .inl 8000,
  .inl 5376,
  .inl 84,
  .inl 84,
  .inl 84,
  .inl 3840,
  .inl 60,
  .inl 60,
  .inl 2,
  .inl 2,
  .inl 2,
  .inl 2,
  .inl 2,
  .inl 2,
  .inl 96,
  .inl 96,
  .inl 96,
  .inl 400,
  .inl 200,
  .inl 128,
  .inl 200,
  .inl 32]
def rSkel : List rSk := rSk0 ++ (rSk1 ++ (rSk2 ++ (rSk3 ++ (rSk4 ++ (rSk5 ++ (rSk6 ++ (rSk7 ++ (rSk8 ++ (rSk9 ++ (rSk10 ++ (rSk11 ++ (rSk12))))))))))))
set_option maxRecDepth 100000 in
theorem sk_0 : rSkel[0]? = some (.inr (.inr (8, [some (some 6), some (some 230), some (some 454), some (some 1), some (some 678), some (some 682), some (some 686), some (some 687), some (some 689), some (some 691), some (some 692), some (some 693), some (some 724), none]))) := rfl
set_option maxRecDepth 100000 in
theorem sk_1 : rSkel[1]? = some (.inr (.inr (7, [some (some 2), some (some 3), some (some 4), some (some 5), none, none, none]))) := rfl
set_option maxRecDepth 100000 in
theorem sk_2 : rSkel[2]? = some (.inl 1024) := rfl
set_option maxRecDepth 100000 in
theorem sk_3 : rSkel[3]? = some (.inl 1024) := rfl
set_option maxRecDepth 100000 in
theorem sk_4 : rSkel[4]? = some (.inl 128) := rfl
set_option maxRecDepth 100000 in
theorem sk_5 : rSkel[5]? = some (.inl 128) := rfl
set_option maxRecDepth 100000 in
theorem sk_6 : rSkel[6]? = some (.inr (.inr (4, [some (some 7), some (some 1), some (some 11), some (some 132), some (some 223), some (some 224), some (some 227), none, none, none, none, none, none]))) := rfl
set_option maxRecDepth 100000 in
theorem sk_7 : rSkel[7]? = some (.inr (.inr (3, [some (some 8), some (some 9), some (some 10), none, none, none, none, none, none]))) := rfl
set_option maxRecDepth 100000 in
theorem sk_8 : rSkel[8]? = some (.inl 326) := rfl
set_option maxRecDepth 100000 in
theorem sk_9 : rSkel[9]? = some (.inl 978) := rfl
set_option maxRecDepth 100000 in
theorem sk_10 : rSkel[10]? = some (.inl 1280) := rfl
set_option maxRecDepth 100000 in
theorem sk_11 : rSkel[11]? = some (.inr (.inl (1, 40, fun i => if i < 40 then some (12 + 3 * i) else none))) := rfl
set_option maxRecDepth 100000 in
theorem sk_132 : rSkel[132]? = some (.inr (.inl (1, 30, fun i => if i < 30 then some (133 + 3 * i) else none))) := rfl
set_option maxRecDepth 100000 in
theorem sk_223 : rSkel[223]? = some (.inl 30) := rfl
set_option maxRecDepth 100000 in
theorem sk_224 : rSkel[224]? = some (.inr (.inr (5, [some (some 225), some (some 226), none, none, none]))) := rfl
set_option maxRecDepth 100000 in
theorem sk_225 : rSkel[225]? = some (.inl 64) := rfl
set_option maxRecDepth 100000 in
theorem sk_226 : rSkel[226]? = some (.inl 32) := rfl
set_option maxRecDepth 100000 in
theorem sk_227 : rSkel[227]? = some (.inr (.inr (5, [some (some 228), some (some 229), none, none, none]))) := rfl
set_option maxRecDepth 100000 in
theorem sk_228 : rSkel[228]? = some (.inl 64) := rfl
set_option maxRecDepth 100000 in
theorem sk_229 : rSkel[229]? = some (.inl 32) := rfl
set_option maxRecDepth 100000 in
theorem sk_230 : rSkel[230]? = some (.inr (.inr (4, [some (some 231), some (some 1), some (some 235), some (some 356), some (some 447), some (some 448), some (some 451), none, none, none, none, none, none]))) := rfl
set_option maxRecDepth 100000 in
theorem sk_231 : rSkel[231]? = some (.inr (.inr (3, [some (some 232), some (some 233), some (some 234), none, none, none, none, none, none]))) := rfl
set_option maxRecDepth 100000 in
theorem sk_232 : rSkel[232]? = some (.inl 326) := rfl
set_option maxRecDepth 100000 in
theorem sk_233 : rSkel[233]? = some (.inl 978) := rfl
set_option maxRecDepth 100000 in
theorem sk_234 : rSkel[234]? = some (.inl 1280) := rfl
set_option maxRecDepth 100000 in
theorem sk_235 : rSkel[235]? = some (.inr (.inl (1, 40, fun i => if i < 40 then some (236 + 3 * i) else none))) := rfl
set_option maxRecDepth 100000 in
theorem sk_356 : rSkel[356]? = some (.inr (.inl (1, 30, fun i => if i < 30 then some (357 + 3 * i) else none))) := rfl
set_option maxRecDepth 100000 in
theorem sk_447 : rSkel[447]? = some (.inl 30) := rfl
set_option maxRecDepth 100000 in
theorem sk_448 : rSkel[448]? = some (.inr (.inr (5, [some (some 449), some (some 450), none, none, none]))) := rfl
set_option maxRecDepth 100000 in
theorem sk_449 : rSkel[449]? = some (.inl 64) := rfl
set_option maxRecDepth 100000 in
theorem sk_450 : rSkel[450]? = some (.inl 32) := rfl
set_option maxRecDepth 100000 in
theorem sk_451 : rSkel[451]? = some (.inr (.inr (5, [some (some 452), some (some 453), none, none, none]))) := rfl
set_option maxRecDepth 100000 in
theorem sk_452 : rSkel[452]? = some (.inl 64) := rfl
set_option maxRecDepth 100000 in
theorem sk_453 : rSkel[453]? = some (.inl 32) := rfl
set_option maxRecDepth 100000 in
theorem sk_454 : rSkel[454]? = some (.inr (.inr (4, [some (some 455), some (some 1), some (some 459), some (some 580), some (some 671), some (some 672), some (some 675), none, none, none, none, none, none]))) := rfl
set_option maxRecDepth 100000 in
theorem sk_455 : rSkel[455]? = some (.inr (.inr (3, [some (some 456), some (some 457), some (some 458), none, none, none, none, none, none]))) := rfl
set_option maxRecDepth 100000 in
theorem sk_456 : rSkel[456]? = some (.inl 326) := rfl
set_option maxRecDepth 100000 in
theorem sk_457 : rSkel[457]? = some (.inl 978) := rfl
set_option maxRecDepth 100000 in
theorem sk_458 : rSkel[458]? = some (.inl 1280) := rfl
set_option maxRecDepth 100000 in
theorem sk_459 : rSkel[459]? = some (.inr (.inl (1, 40, fun i => if i < 40 then some (460 + 3 * i) else none))) := rfl
set_option maxRecDepth 100000 in
theorem sk_580 : rSkel[580]? = some (.inr (.inl (1, 30, fun i => if i < 30 then some (581 + 3 * i) else none))) := rfl
set_option maxRecDepth 100000 in
theorem sk_671 : rSkel[671]? = some (.inl 30) := rfl
set_option maxRecDepth 100000 in
theorem sk_672 : rSkel[672]? = some (.inr (.inr (5, [some (some 673), some (some 674), none, none, none]))) := rfl
set_option maxRecDepth 100000 in
theorem sk_673 : rSkel[673]? = some (.inl 64) := rfl
set_option maxRecDepth 100000 in
theorem sk_674 : rSkel[674]? = some (.inl 32) := rfl
set_option maxRecDepth 100000 in
theorem sk_675 : rSkel[675]? = some (.inr (.inr (5, [some (some 676), some (some 677), none, none, none]))) := rfl
set_option maxRecDepth 100000 in
theorem sk_676 : rSkel[676]? = some (.inl 64) := rfl
set_option maxRecDepth 100000 in
theorem sk_677 : rSkel[677]? = some (.inl 32) := rfl
set_option maxRecDepth 100000 in
theorem sk_678 : rSkel[678]? = some (.inr (.inr (1, [some (some 231), some (some 679), some (some 680), some (some 681), none, none, none, none]))) := rfl
set_option maxRecDepth 100000 in
theorem sk_679 : rSkel[679]? = some (.inl 196) := rfl
set_option maxRecDepth 100000 in
theorem sk_680 : rSkel[680]? = some (.inl 196) := rfl
set_option maxRecDepth 100000 in
theorem sk_681 : rSkel[681]? = some (.inl 196) := rfl
set_option maxRecDepth 100000 in
theorem sk_682 : rSkel[682]? = some (.inr (.inr (6, [some (some 683), some (some 684), some (some 685), none, none, none]))) := rfl
set_option maxRecDepth 100000 in
theorem sk_683 : rSkel[683]? = some (.inl 200) := rfl
set_option maxRecDepth 100000 in
theorem sk_684 : rSkel[684]? = some (.inl 604) := rfl
set_option maxRecDepth 100000 in
theorem sk_685 : rSkel[685]? = some (.inl 64) := rfl
set_option maxRecDepth 100000 in
theorem sk_686 : rSkel[686]? = some (.inr (.inr (0, [none]))) := rfl
set_option maxRecDepth 100000 in
theorem sk_687 : rSkel[687]? = some (.inr (.inr (2, [some (some 688), none]))) := rfl
set_option maxRecDepth 100000 in
theorem sk_688 : rSkel[688]? = some (.inl 96) := rfl
set_option maxRecDepth 100000 in
theorem sk_689 : rSkel[689]? = some (.inr (.inr (2, [some (some 690), none]))) := rfl
set_option maxRecDepth 100000 in
theorem sk_690 : rSkel[690]? = some (.inl 32) := rfl
set_option maxRecDepth 100000 in
theorem sk_691 : rSkel[691]? = some (.inl 7) := rfl
set_option maxRecDepth 100000 in
theorem sk_692 : rSkel[692]? = some (.inl 128) := rfl
set_option maxRecDepth 100000 in
theorem sk_724 : rSkel[724]? = some (.inl 30) := rfl
set_option maxRecDepth 100000 in
theorem sk_725 : rSkel[725]? = some (.inr (.inr (9, [some (some 726), some (some 727), some (some 728), some (some 729), some (some 730), some (some 731), some (some 732), some (some 733), some (some 734), some (some 735), none, none, none, some (some 736), some (some 737), some (some 738), none, none, none, none, none, none, some (some 739), some (some 740), some (some 741), some (some 742), some (some 743), some (some 744), some (some 745), some (some 746), some (some 747), some (some 748), some (some 749), some (some 750), some (some 751), some (some 752), some (some 753), some (some 754), some (some 755), none, none, none, none, none, none, none, none, none, none, some (some 756), some (some 757), none, none, some (some 758), none, none, none, some (some 759), none, none]))) := rfl
set_option maxRecDepth 100000 in
theorem sk_726 : rSkel[726]? = some (.inl 7) := rfl
set_option maxRecDepth 100000 in
theorem sk_727 : rSkel[727]? = some (.inl 6000) := rfl
set_option maxRecDepth 100000 in
theorem sk_728 : rSkel[728]? = some (.inl 6000) := rfl
set_option maxRecDepth 100000 in
theorem sk_729 : rSkel[729]? = some (.inl 3000) := rfl
set_option maxRecDepth 100000 in
theorem sk_730 : rSkel[730]? = some (.inl 3000) := rfl
set_option maxRecDepth 100000 in
theorem sk_731 : rSkel[731]? = some (.inl 3000) := rfl
set_option maxRecDepth 100000 in
theorem sk_732 : rSkel[732]? = some (.inl 3000) := rfl
set_option maxRecDepth 100000 in
theorem sk_733 : rSkel[733]? = some (.inl 20000) := rfl
set_option maxRecDepth 100000 in
theorem sk_734 : rSkel[734]? = some (.inl 20000) := rfl
set_option maxRecDepth 100000 in
theorem sk_735 : rSkel[735]? = some (.inl 20000) := rfl
set_option maxRecDepth 100000 in
theorem sk_736 : rSkel[736]? = some (.inl 128) := rfl
set_option maxRecDepth 100000 in
theorem sk_737 : rSkel[737]? = some (.inl 4000) := rfl
set_option maxRecDepth 100000 in
theorem sk_738 : rSkel[738]? = some (.inl 8000) := rfl
set_option maxRecDepth 100000 in
theorem sk_739 : rSkel[739]? = some (.inl 5376) := rfl
set_option maxRecDepth 100000 in
theorem sk_740 : rSkel[740]? = some (.inl 84) := rfl
set_option maxRecDepth 100000 in
theorem sk_741 : rSkel[741]? = some (.inl 84) := rfl
set_option maxRecDepth 100000 in
theorem sk_742 : rSkel[742]? = some (.inl 84) := rfl
set_option maxRecDepth 100000 in
theorem sk_743 : rSkel[743]? = some (.inl 3840) := rfl
set_option maxRecDepth 100000 in
theorem sk_744 : rSkel[744]? = some (.inl 60) := rfl
set_option maxRecDepth 100000 in
theorem sk_745 : rSkel[745]? = some (.inl 60) := rfl
set_option maxRecDepth 100000 in
theorem sk_746 : rSkel[746]? = some (.inl 2) := rfl
set_option maxRecDepth 100000 in
theorem sk_747 : rSkel[747]? = some (.inl 2) := rfl
set_option maxRecDepth 100000 in
theorem sk_748 : rSkel[748]? = some (.inl 2) := rfl
set_option maxRecDepth 100000 in
theorem sk_749 : rSkel[749]? = some (.inl 2) := rfl
set_option maxRecDepth 100000 in
theorem sk_750 : rSkel[750]? = some (.inl 2) := rfl
set_option maxRecDepth 100000 in
theorem sk_751 : rSkel[751]? = some (.inl 2) := rfl
set_option maxRecDepth 100000 in
theorem sk_752 : rSkel[752]? = some (.inl 96) := rfl
set_option maxRecDepth 100000 in
theorem sk_753 : rSkel[753]? = some (.inl 96) := rfl
set_option maxRecDepth 100000 in
theorem sk_754 : rSkel[754]? = some (.inl 96) := rfl
set_option maxRecDepth 100000 in
theorem sk_755 : rSkel[755]? = some (.inl 400) := rfl
set_option maxRecDepth 100000 in
theorem sk_756 : rSkel[756]? = some (.inl 200) := rfl
set_option maxRecDepth 100000 in
theorem sk_757 : rSkel[757]? = some (.inl 128) := rfl
set_option maxRecDepth 100000 in
theorem sk_758 : rSkel[758]? = some (.inl 200) := rfl
set_option maxRecDepth 100000 in
theorem sk_759 : rSkel[759]? = some (.inl 32) := rfl
