/-! the cells that the law has made when it begins -/
def hpF0 : List He := [
  .inl (9, [some (.inr (.inr (0, 1))), some (.inr (.inr (0, 4))), some (.inr (.inr (0, 7))), some (.inr (.inr (0, 10))), some (.inr (.inr (0, 12))), some (.inr (.inr (0, 15))), some (.inl 0)]),
  .inl (4, [some (.inr (.inr (0, 2))), some (.inr (.inr (0, 3)))]),
  .inr (0, 12, []),
  .inr (0, 12, []),
  .inl (4, [some (.inr (.inr (0, 5))), some (.inr (.inr (0, 6)))]),
  .inr (0, 12, []),
  .inr (0, 12, []),
  .inl (4, [some (.inr (.inr (0, 8))), some (.inr (.inr (0, 9)))]),
  .inr (0, 12, []),
  .inr (0, 12, []),
  .inl (1, [some (.inr (.inr (0, 11))), some (.inl 0), some (.inl 0), some (.inl 0)]),
  .inr (0, 108, []),
  .inl (6, [some (.inr (.inr (0, 13))), some (.inr (.inr (0, 14))), some (.inl 0), some (.inl 0), some (.inl (-1)), some (.inl 0)]),
  .inr (0, 60, []),
  .inr (0, 150, []),
  .inl (5, [some (.inr (.inr (0, 16))), some (.inr (.inr (0, 25))), some (.inr (.inr (0, 35))), some (.inr (.inr (0, 56))), some (.inr (.inr (0, 57))), some (.inr (.inr (0, 60))), some (.inr (.inr (0, 61))), some (.inr (.inr (0, 62))), some (.inr (.inr (0, 63))), some (.inr (.inr (0, 64))), some (.inl 0), some (.inl 0)]),
  .inl (0, [some (.inr (.inr (0, 17))), some (.inr (.inr (0, 18))), some (.inr (.inr (0, 19))), some (.inr (.inr (0, 20))), some (.inr (.inr (0, 21))), some (.inr (.inr (0, 22))), some (.inr (.inr (0, 23))), some (.inr (.inr (0, 24))), some (.inl 0), some (.inl 0)]),
  .inr (0, 340, []),
  .inr (0, 340, []),
  .inr (0, 340, []),
  .inr (0, 340, []),
  .inr (0, 340, []),
  .inr (0, 53, []),
  .inr (0, 52, []),
  .inr (0, 52, []),
  .inl (7, [some (.inr (.inr (0, 26))), some (.inr (.inr (0, 27))), some (.inr (.inr (0, 28))), some (.inr (.inr (0, 29))), some (.inr (.inr (0, 30))), some (.inr (.inr (0, 31))), some (.inr (.inr (0, 32))), some (.inr (.inr (0, 33))), some (.inr (.inr (0, 34))), some (.inl 0), some (.inl 0)]),
  .inr (0, 864, []),
  .inr (0, 864, []),
  .inr (0, 864, []),
  .inr (0, 864, []),
  .inr (0, 864, []),
  .inr (0, 864, []),
  .inr (0, 864, []),
  .inr (0, 864, []),
  .inr (0, 864, []),
  .inl (3, [some (.inr (.inr (0, 36))), some (.inr (.inr (0, 48))), some (.inr (.inr (0, 49))), some (.inr (.inr (0, 50))), some (.inr (.inr (0, 51))), some (.inr (.inr (0, 52))), some (.inr (.inr (0, 53))), some (.inr (.inr (0, 54))), some (.inr (.inr (0, 55))), some (.inl 0), some (.inl 0)]),
  .inl (2, [some (.inr (.inr (0, 37))), some (.inr (.inr (0, 38))), some (.inr (.inr (0, 39))), some (.inr (.inr (0, 40))), some (.inr (.inr (0, 41))), some (.inr (.inr (0, 42))), some (.inr (.inr (0, 43))), some (.inr (.inr (0, 44))), some (.inr (.inr (0, 45))), some (.inr (.inr (0, 46))), some (.inr (.inr (0, 47))), some (.inl 0), some (.inl 0), some (.inl 0), some (.inl 0), some (.inl 0)]),
  .inr (0, 96, []),
  .inr (0, 96, []),
  .inr (0, 96, [])]
def hpF1 : List He := [
  .inr (0, 96, []),
  .inr (0, 96, []),
  .inr (0, 340, []),
  .inr (0, 340, []),
  .inr (0, 340, []),
  .inr (0, 340, []),
  .inr (1, 49, []),
  .inr (1, 49, []),
  .inr (1, 48, []),
  .inr (0, 49, []),
  .inr (1, 288, []),
  .inr (0, 288, []),
  .inr (0, 288, []),
  .inr (0, 288, []),
  .inr (0, 72, []),
  .inr (0, 72, []),
  .inr (3, 12, [some 65, some 86, some 107, some 128, some 149, some 170, some 191, some 212, some 233, some 254, some 275, some 296]),
  .inl (8, [some (.inr (.inr (0, 58))), some (.inr (.inr (0, 59)))]),
  .inr (0, 2304, []),
  .inr (0, 2304, []),
  .inr (1, 48, []),
  .inr (1, 48, []),
  .inr (0, 26, []),
  .inr (0, 144, []),
  .inr (0, 144, []),
  .inl (3, [some (.inr (.inr (0, 66))), some (.inr (.inr (0, 78))), some (.inr (.inr (0, 79))), some (.inr (.inr (0, 80))), some (.inr (.inr (0, 81))), some (.inr (.inr (0, 82))), some (.inr (.inr (0, 83))), some (.inr (.inr (0, 84))), some (.inr (.inr (0, 85))), some (.inl 0), some (.inl 0)]),
  .inl (2, [some (.inr (.inr (0, 67))), some (.inr (.inr (0, 68))), some (.inr (.inr (0, 69))), some (.inr (.inr (0, 70))), some (.inr (.inr (0, 71))), some (.inr (.inr (0, 72))), some (.inr (.inr (0, 73))), some (.inr (.inr (0, 74))), some (.inr (.inr (0, 75))), some (.inr (.inr (0, 76))), some (.inr (.inr (0, 77))), some (.inl 0), some (.inl 0), some (.inl 0), some (.inl 0), some (.inl 0)]),
  .inr (0, 96, []),
  .inr (0, 96, []),
  .inr (0, 96, []),
  .inr (0, 96, []),
  .inr (0, 96, []),
  .inr (0, 340, []),
  .inr (0, 340, []),
  .inr (0, 340, []),
  .inr (0, 340, []),
  .inr (1, 49, []),
  .inr (1, 49, []),
  .inr (1, 48, []),
  .inr (0, 49, [])]
def hpF2 : List He := [
  .inr (1, 288, []),
  .inr (0, 288, []),
  .inr (0, 288, []),
  .inr (0, 288, []),
  .inr (0, 72, []),
  .inr (0, 72, []),
  .inl (3, [some (.inr (.inr (0, 87))), some (.inr (.inr (0, 99))), some (.inr (.inr (0, 100))), some (.inr (.inr (0, 101))), some (.inr (.inr (0, 102))), some (.inr (.inr (0, 103))), some (.inr (.inr (0, 104))), some (.inr (.inr (0, 105))), some (.inr (.inr (0, 106))), some (.inl 0), some (.inl 0)]),
  .inl (2, [some (.inr (.inr (0, 88))), some (.inr (.inr (0, 89))), some (.inr (.inr (0, 90))), some (.inr (.inr (0, 91))), some (.inr (.inr (0, 92))), some (.inr (.inr (0, 93))), some (.inr (.inr (0, 94))), some (.inr (.inr (0, 95))), some (.inr (.inr (0, 96))), some (.inr (.inr (0, 97))), some (.inr (.inr (0, 98))), some (.inl 0), some (.inl 0), some (.inl 0), some (.inl 0), some (.inl 0)]),
  .inr (0, 96, []),
  .inr (0, 96, []),
  .inr (0, 96, []),
  .inr (0, 96, []),
  .inr (0, 96, []),
  .inr (0, 340, []),
  .inr (0, 340, []),
  .inr (0, 340, []),
  .inr (0, 340, []),
  .inr (1, 49, []),
  .inr (1, 49, []),
  .inr (1, 48, []),
  .inr (0, 49, []),
  .inr (1, 288, []),
  .inr (0, 288, []),
  .inr (0, 288, []),
  .inr (0, 288, []),
  .inr (0, 72, []),
  .inr (0, 72, []),
  .inl (3, [some (.inr (.inr (0, 108))), some (.inr (.inr (0, 120))), some (.inr (.inr (0, 121))), some (.inr (.inr (0, 122))), some (.inr (.inr (0, 123))), some (.inr (.inr (0, 124))), some (.inr (.inr (0, 125))), some (.inr (.inr (0, 126))), some (.inr (.inr (0, 127))), some (.inl 0), some (.inl 0)]),
  .inl (2, [some (.inr (.inr (0, 109))), some (.inr (.inr (0, 110))), some (.inr (.inr (0, 111))), some (.inr (.inr (0, 112))), some (.inr (.inr (0, 113))), some (.inr (.inr (0, 114))), some (.inr (.inr (0, 115))), some (.inr (.inr (0, 116))), some (.inr (.inr (0, 117))), some (.inr (.inr (0, 118))), some (.inr (.inr (0, 119))), some (.inl 0), some (.inl 0), some (.inl 0), some (.inl 0), some (.inl 0)]),
  .inr (0, 96, []),
  .inr (0, 96, []),
  .inr (0, 96, []),
  .inr (0, 96, []),
  .inr (0, 96, []),
  .inr (0, 340, []),
  .inr (0, 340, []),
  .inr (0, 340, []),
  .inr (0, 340, []),
  .inr (1, 49, []),
  .inr (1, 49, [])]
def hpF3 : List He := [
  .inr (1, 48, []),
  .inr (0, 49, []),
  .inr (1, 288, []),
  .inr (0, 288, []),
  .inr (0, 288, []),
  .inr (0, 288, []),
  .inr (0, 72, []),
  .inr (0, 72, []),
  .inl (3, [some (.inr (.inr (0, 129))), some (.inr (.inr (0, 141))), some (.inr (.inr (0, 142))), some (.inr (.inr (0, 143))), some (.inr (.inr (0, 144))), some (.inr (.inr (0, 145))), some (.inr (.inr (0, 146))), some (.inr (.inr (0, 147))), some (.inr (.inr (0, 148))), some (.inl 0), some (.inl 0)]),
  .inl (2, [some (.inr (.inr (0, 130))), some (.inr (.inr (0, 131))), some (.inr (.inr (0, 132))), some (.inr (.inr (0, 133))), some (.inr (.inr (0, 134))), some (.inr (.inr (0, 135))), some (.inr (.inr (0, 136))), some (.inr (.inr (0, 137))), some (.inr (.inr (0, 138))), some (.inr (.inr (0, 139))), some (.inr (.inr (0, 140))), some (.inl 0), some (.inl 0), some (.inl 0), some (.inl 0), some (.inl 0)]),
  .inr (0, 96, []),
  .inr (0, 96, []),
  .inr (0, 96, []),
  .inr (0, 96, []),
  .inr (0, 96, []),
  .inr (0, 340, []),
  .inr (0, 340, []),
  .inr (0, 340, []),
  .inr (0, 340, []),
  .inr (1, 49, []),
  .inr (1, 49, []),
  .inr (1, 48, []),
  .inr (0, 49, []),
  .inr (1, 288, []),
  .inr (0, 288, []),
  .inr (0, 288, []),
  .inr (0, 288, []),
  .inr (0, 72, []),
  .inr (0, 72, []),
  .inl (3, [some (.inr (.inr (0, 150))), some (.inr (.inr (0, 162))), some (.inr (.inr (0, 163))), some (.inr (.inr (0, 164))), some (.inr (.inr (0, 165))), some (.inr (.inr (0, 166))), some (.inr (.inr (0, 167))), some (.inr (.inr (0, 168))), some (.inr (.inr (0, 169))), some (.inl 0), some (.inl 0)]),
  .inl (2, [some (.inr (.inr (0, 151))), some (.inr (.inr (0, 152))), some (.inr (.inr (0, 153))), some (.inr (.inr (0, 154))), some (.inr (.inr (0, 155))), some (.inr (.inr (0, 156))), some (.inr (.inr (0, 157))), some (.inr (.inr (0, 158))), some (.inr (.inr (0, 159))), some (.inr (.inr (0, 160))), some (.inr (.inr (0, 161))), some (.inl 0), some (.inl 0), some (.inl 0), some (.inl 0), some (.inl 0)]),
  .inr (0, 96, []),
  .inr (0, 96, []),
  .inr (0, 96, []),
  .inr (0, 96, []),
  .inr (0, 96, []),
  .inr (0, 340, []),
  .inr (0, 340, []),
  .inr (0, 340, []),
  .inr (0, 340, [])]
def hpF4 : List He := [
  .inr (1, 49, []),
  .inr (1, 49, []),
  .inr (1, 48, []),
  .inr (0, 49, []),
  .inr (1, 288, []),
  .inr (0, 288, []),
  .inr (0, 288, []),
  .inr (0, 288, []),
  .inr (0, 72, []),
  .inr (0, 72, []),
  .inl (3, [some (.inr (.inr (0, 171))), some (.inr (.inr (0, 183))), some (.inr (.inr (0, 184))), some (.inr (.inr (0, 185))), some (.inr (.inr (0, 186))), some (.inr (.inr (0, 187))), some (.inr (.inr (0, 188))), some (.inr (.inr (0, 189))), some (.inr (.inr (0, 190))), some (.inl 0), some (.inl 0)]),
  .inl (2, [some (.inr (.inr (0, 172))), some (.inr (.inr (0, 173))), some (.inr (.inr (0, 174))), some (.inr (.inr (0, 175))), some (.inr (.inr (0, 176))), some (.inr (.inr (0, 177))), some (.inr (.inr (0, 178))), some (.inr (.inr (0, 179))), some (.inr (.inr (0, 180))), some (.inr (.inr (0, 181))), some (.inr (.inr (0, 182))), some (.inl 0), some (.inl 0), some (.inl 0), some (.inl 0), some (.inl 0)]),
  .inr (0, 96, []),
  .inr (0, 96, []),
  .inr (0, 96, []),
  .inr (0, 96, []),
  .inr (0, 96, []),
  .inr (0, 340, []),
  .inr (0, 340, []),
  .inr (0, 340, []),
  .inr (0, 340, []),
  .inr (1, 49, []),
  .inr (1, 49, []),
  .inr (1, 48, []),
  .inr (0, 49, []),
  .inr (1, 288, []),
  .inr (0, 288, []),
  .inr (0, 288, []),
  .inr (0, 288, []),
  .inr (0, 72, []),
  .inr (0, 72, []),
  .inl (3, [some (.inr (.inr (0, 192))), some (.inr (.inr (0, 204))), some (.inr (.inr (0, 205))), some (.inr (.inr (0, 206))), some (.inr (.inr (0, 207))), some (.inr (.inr (0, 208))), some (.inr (.inr (0, 209))), some (.inr (.inr (0, 210))), some (.inr (.inr (0, 211))), some (.inl 0), some (.inl 0)]),
  .inl (2, [some (.inr (.inr (0, 193))), some (.inr (.inr (0, 194))), some (.inr (.inr (0, 195))), some (.inr (.inr (0, 196))), some (.inr (.inr (0, 197))), some (.inr (.inr (0, 198))), some (.inr (.inr (0, 199))), some (.inr (.inr (0, 200))), some (.inr (.inr (0, 201))), some (.inr (.inr (0, 202))), some (.inr (.inr (0, 203))), some (.inl 0), some (.inl 0), some (.inl 0), some (.inl 0), some (.inl 0)]),
  .inr (0, 96, []),
  .inr (0, 96, []),
  .inr (0, 96, []),
  .inr (0, 96, []),
  .inr (0, 96, []),
  .inr (0, 340, []),
  .inr (0, 340, [])]
def hpF5 : List He := [
  .inr (0, 340, []),
  .inr (0, 340, []),
  .inr (1, 49, []),
  .inr (1, 49, []),
  .inr (1, 48, []),
  .inr (0, 49, []),
  .inr (1, 288, []),
  .inr (0, 288, []),
  .inr (0, 288, []),
  .inr (0, 288, []),
  .inr (0, 72, []),
  .inr (0, 72, []),
  .inl (3, [some (.inr (.inr (0, 213))), some (.inr (.inr (0, 225))), some (.inr (.inr (0, 226))), some (.inr (.inr (0, 227))), some (.inr (.inr (0, 228))), some (.inr (.inr (0, 229))), some (.inr (.inr (0, 230))), some (.inr (.inr (0, 231))), some (.inr (.inr (0, 232))), some (.inl 0), some (.inl 0)]),
  .inl (2, [some (.inr (.inr (0, 214))), some (.inr (.inr (0, 215))), some (.inr (.inr (0, 216))), some (.inr (.inr (0, 217))), some (.inr (.inr (0, 218))), some (.inr (.inr (0, 219))), some (.inr (.inr (0, 220))), some (.inr (.inr (0, 221))), some (.inr (.inr (0, 222))), some (.inr (.inr (0, 223))), some (.inr (.inr (0, 224))), some (.inl 0), some (.inl 0), some (.inl 0), some (.inl 0), some (.inl 0)]),
  .inr (0, 96, []),
  .inr (0, 96, []),
  .inr (0, 96, []),
  .inr (0, 96, []),
  .inr (0, 96, []),
  .inr (0, 340, []),
  .inr (0, 340, []),
  .inr (0, 340, []),
  .inr (0, 340, []),
  .inr (1, 49, []),
  .inr (1, 49, []),
  .inr (1, 48, []),
  .inr (0, 49, []),
  .inr (1, 288, []),
  .inr (0, 288, []),
  .inr (0, 288, []),
  .inr (0, 288, []),
  .inr (0, 72, []),
  .inr (0, 72, []),
  .inl (3, [some (.inr (.inr (0, 234))), some (.inr (.inr (0, 246))), some (.inr (.inr (0, 247))), some (.inr (.inr (0, 248))), some (.inr (.inr (0, 249))), some (.inr (.inr (0, 250))), some (.inr (.inr (0, 251))), some (.inr (.inr (0, 252))), some (.inr (.inr (0, 253))), some (.inl 0), some (.inl 0)]),
  .inl (2, [some (.inr (.inr (0, 235))), some (.inr (.inr (0, 236))), some (.inr (.inr (0, 237))), some (.inr (.inr (0, 238))), some (.inr (.inr (0, 239))), some (.inr (.inr (0, 240))), some (.inr (.inr (0, 241))), some (.inr (.inr (0, 242))), some (.inr (.inr (0, 243))), some (.inr (.inr (0, 244))), some (.inr (.inr (0, 245))), some (.inl 0), some (.inl 0), some (.inl 0), some (.inl 0), some (.inl 0)]),
  .inr (0, 96, []),
  .inr (0, 96, []),
  .inr (0, 96, []),
  .inr (0, 96, []),
  .inr (0, 96, [])]
def hpF6 : List He := [
  .inr (0, 340, []),
  .inr (0, 340, []),
  .inr (0, 340, []),
  .inr (0, 340, []),
  .inr (1, 49, []),
  .inr (1, 49, []),
  .inr (1, 48, []),
  .inr (0, 49, []),
  .inr (1, 288, []),
  .inr (0, 288, []),
  .inr (0, 288, []),
  .inr (0, 288, []),
  .inr (0, 72, []),
  .inr (0, 72, []),
  .inl (3, [some (.inr (.inr (0, 255))), some (.inr (.inr (0, 267))), some (.inr (.inr (0, 268))), some (.inr (.inr (0, 269))), some (.inr (.inr (0, 270))), some (.inr (.inr (0, 271))), some (.inr (.inr (0, 272))), some (.inr (.inr (0, 273))), some (.inr (.inr (0, 274))), some (.inl 0), some (.inl 0)]),
  .inl (2, [some (.inr (.inr (0, 256))), some (.inr (.inr (0, 257))), some (.inr (.inr (0, 258))), some (.inr (.inr (0, 259))), some (.inr (.inr (0, 260))), some (.inr (.inr (0, 261))), some (.inr (.inr (0, 262))), some (.inr (.inr (0, 263))), some (.inr (.inr (0, 264))), some (.inr (.inr (0, 265))), some (.inr (.inr (0, 266))), some (.inl 0), some (.inl 0), some (.inl 0), some (.inl 0), some (.inl 0)]),
  .inr (0, 96, []),
  .inr (0, 96, []),
  .inr (0, 96, []),
  .inr (0, 96, []),
  .inr (0, 96, []),
  .inr (0, 340, []),
  .inr (0, 340, []),
  .inr (0, 340, []),
  .inr (0, 340, []),
  .inr (1, 49, []),
  .inr (1, 49, []),
  .inr (1, 48, []),
  .inr (0, 49, []),
  .inr (1, 288, []),
  .inr (0, 288, []),
  .inr (0, 288, []),
  .inr (0, 288, []),
  .inr (0, 72, []),
  .inr (0, 72, []),
  .inl (3, [some (.inr (.inr (0, 276))), some (.inr (.inr (0, 288))), some (.inr (.inr (0, 289))), some (.inr (.inr (0, 290))), some (.inr (.inr (0, 291))), some (.inr (.inr (0, 292))), some (.inr (.inr (0, 293))), some (.inr (.inr (0, 294))), some (.inr (.inr (0, 295))), some (.inl 0), some (.inl 0)]),
  .inl (2, [some (.inr (.inr (0, 277))), some (.inr (.inr (0, 278))), some (.inr (.inr (0, 279))), some (.inr (.inr (0, 280))), some (.inr (.inr (0, 281))), some (.inr (.inr (0, 282))), some (.inr (.inr (0, 283))), some (.inr (.inr (0, 284))), some (.inr (.inr (0, 285))), some (.inr (.inr (0, 286))), some (.inr (.inr (0, 287))), some (.inl 0), some (.inl 0), some (.inl 0), some (.inl 0), some (.inl 0)]),
  .inr (0, 96, []),
  .inr (0, 96, []),
  .inr (0, 96, [])]
def hpF7 : List He := [
  .inr (0, 96, []),
  .inr (0, 96, []),
  .inr (0, 340, []),
  .inr (0, 340, []),
  .inr (0, 340, []),
  .inr (0, 340, []),
  .inr (1, 49, []),
  .inr (1, 49, []),
  .inr (1, 48, []),
  .inr (0, 49, []),
  .inr (1, 288, []),
  .inr (0, 288, []),
  .inr (0, 288, []),
  .inr (0, 288, []),
  .inr (0, 72, []),
  .inr (0, 72, []),
  .inl (3, [some (.inr (.inr (0, 297))), some (.inr (.inr (0, 309))), some (.inr (.inr (0, 310))), some (.inr (.inr (0, 311))), some (.inr (.inr (0, 312))), some (.inr (.inr (0, 313))), some (.inr (.inr (0, 314))), some (.inr (.inr (0, 315))), some (.inr (.inr (0, 316))), some (.inl 0), some (.inl 0)]),
  .inl (2, [some (.inr (.inr (0, 298))), some (.inr (.inr (0, 299))), some (.inr (.inr (0, 300))), some (.inr (.inr (0, 301))), some (.inr (.inr (0, 302))), some (.inr (.inr (0, 303))), some (.inr (.inr (0, 304))), some (.inr (.inr (0, 305))), some (.inr (.inr (0, 306))), some (.inr (.inr (0, 307))), some (.inr (.inr (0, 308))), some (.inl 0), some (.inl 0), some (.inl 0), some (.inl 0), some (.inl 0)]),
  .inr (0, 96, []),
  .inr (0, 96, []),
  .inr (0, 96, []),
  .inr (0, 96, []),
  .inr (0, 96, []),
  .inr (0, 340, []),
  .inr (0, 340, []),
  .inr (0, 340, []),
  .inr (0, 340, []),
  .inr (1, 49, []),
  .inr (1, 49, []),
  .inr (1, 48, []),
  .inr (0, 49, []),
  .inr (1, 288, []),
  .inr (0, 288, []),
  .inr (0, 288, []),
  .inr (0, 288, []),
  .inr (0, 72, []),
  .inr (0, 72, [])]
def hpF : List He := hpF0 ++ (hpF1 ++ (hpF2 ++ (hpF3 ++ (hpF4 ++ (hpF5 ++ (hpF6 ++ (hpF7)))))))
def posL : List (Nat × Nat) := [(9, 0), (4, 0), (500, 0), (501, 0), (4, 1), (500, 1), (501, 1), (4, 2), (500, 2), (501, 2), (1, 0), (200, 0), (6, 0), (700, 0), (701, 0), (5, 0), (0, 0), (100, 0), (101, 0), (102, 0), (103, 0), (104, 0), (105, 0), (106, 0), (107, 0), (7, 0), (800, 0), (801, 0), (802, 0), (803, 0), (804, 0), (805, 0), (806, 0), (807, 0), (808, 0), (3, 12), (2, 12), (300, 12), (301, 12), (302, 12), (303, 12), (304, 12), (305, 12), (306, 12), (307, 12), (308, 12), (309, 12), (310, 12), (401, 12), (402, 12), (403, 12), (404, 12), (405, 12), (406, 12), (407, 12), (408, 12), (603, 0), (8, 0), (900, 0), (901, 0), (605, 0), (606, 0), (607, 0), (608, 0), (609, 0), (3, 0), (2, 0), (300, 0), (301, 0), (302, 0), (303, 0), (304, 0), (305, 0), (306, 0), (307, 0), (308, 0), (309, 0), (310, 0), (401, 0), (402, 0), (403, 0), (404, 0), (405, 0), (406, 0), (407, 0), (408, 0), (3, 1), (2, 1), (300, 1), (301, 1), (302, 1), (303, 1), (304, 1), (305, 1), (306, 1), (307, 1), (308, 1), (309, 1), (310, 1), (401, 1), (402, 1), (403, 1), (404, 1), (405, 1), (406, 1), (407, 1), (408, 1), (3, 2), (2, 2), (300, 2), (301, 2), (302, 2), (303, 2), (304, 2), (305, 2), (306, 2), (307, 2), (308, 2), (309, 2), (310, 2), (401, 2), (402, 2), (403, 2), (404, 2), (405, 2), (406, 2), (407, 2), (408, 2), (3, 3), (2, 3), (300, 3), (301, 3), (302, 3), (303, 3), (304, 3), (305, 3), (306, 3), (307, 3), (308, 3), (309, 3), (310, 3), (401, 3), (402, 3), (403, 3), (404, 3), (405, 3), (406, 3), (407, 3), (408, 3), (3, 4), (2, 4), (300, 4), (301, 4), (302, 4), (303, 4), (304, 4), (305, 4), (306, 4), (307, 4), (308, 4), (309, 4), (310, 4), (401, 4), (402, 4), (403, 4), (404, 4), (405, 4), (406, 4), (407, 4), (408, 4), (3, 5), (2, 5), (300, 5), (301, 5), (302, 5), (303, 5), (304, 5), (305, 5), (306, 5), (307, 5), (308, 5), (309, 5), (310, 5), (401, 5), (402, 5), (403, 5), (404, 5), (405, 5), (406, 5), (407, 5), (408, 5), (3, 6), (2, 6), (300, 6), (301, 6), (302, 6), (303, 6), (304, 6), (305, 6), (306, 6), (307, 6), (308, 6), (309, 6), (310, 6), (401, 6), (402, 6), (403, 6), (404, 6), (405, 6), (406, 6), (407, 6), (408, 6), (3, 7), (2, 7), (300, 7), (301, 7), (302, 7), (303, 7), (304, 7), (305, 7), (306, 7), (307, 7), (308, 7), (309, 7), (310, 7), (401, 7), (402, 7), (403, 7), (404, 7), (405, 7), (406, 7), (407, 7), (408, 7), (3, 8), (2, 8), (300, 8), (301, 8), (302, 8), (303, 8), (304, 8), (305, 8), (306, 8), (307, 8), (308, 8), (309, 8), (310, 8), (401, 8), (402, 8), (403, 8), (404, 8), (405, 8), (406, 8), (407, 8), (408, 8), (3, 9), (2, 9), (300, 9), (301, 9), (302, 9), (303, 9), (304, 9), (305, 9), (306, 9), (307, 9), (308, 9), (309, 9), (310, 9), (401, 9), (402, 9), (403, 9), (404, 9), (405, 9), (406, 9), (407, 9), (408, 9), (3, 10), (2, 10), (300, 10), (301, 10), (302, 10), (303, 10), (304, 10), (305, 10), (306, 10), (307, 10), (308, 10), (309, 10), (310, 10), (401, 10), (402, 10), (403, 10), (404, 10), (405, 10), (406, 10), (407, 10), (408, 10), (3, 11), (2, 11), (300, 11), (301, 11), (302, 11), (303, 11), (304, 11), (305, 11), (306, 11), (307, 11), (308, 11), (309, 11), (310, 11), (401, 11), (402, 11), (403, 11), (404, 11), (405, 11), (406, 11), (407, 11), (408, 11)]
def lsF : Ls := [some (.inr (.inr (51, 0))), some (.inr (.inr (0, 0))), none, none, none, none, none, none, none, none, none, none, none, none, none, none, none, none, none, none, none, none, none, none, none, none, none]
def eqH : He → He → Bool
  | .inl (a, l), .inl (b, m) => Nat.beq a b && decide (l = m)
  | .inr (a, n, l), .inr (b, m, k) => Nat.beq a b && Nat.beq n m && decide (l = k)
  | _, _ => false
theorem eqH_eq : ∀ {x y : He}, eqH x y = true → x = y
  | .inl (a, l), .inl (b, m), h => by
    have h : (Nat.beq a b && decide (l = m)) = true := h
    rw [Bool.and_eq_true] at h
    rw [Nat.eq_of_beq_eq_true h.1, of_decide_eq_true h.2]
  | .inr (a, n, l), .inr (b, m, k), h => by
    have h : (Nat.beq a b && Nat.beq n m && decide (l = k)) = true := h
    obtain ⟨h1, h2, h3⟩ := and3 h
    rw [Nat.eq_of_beq_eq_true h1, Nat.eq_of_beq_eq_true h2, of_decide_eq_true h3]
  | .inl _, .inr _, h => by cases h
  | .inr _, .inl _, h => by cases h
def eqHL : List He → List He → Bool
  | [], [] => true
  | x :: l, y :: m => eqH x y && eqHL l m
  | _, _ => false
theorem eqHL_eq : ∀ {l m : List He}, eqHL l m = true → l = m
  | [], [], _ => rfl
  | x :: l, y :: m, h => by
    have h : (eqH x y && eqHL l m) = true := h
    rw [Bool.and_eq_true] at h
    rw [eqH_eq h.1, eqHL_eq h.2]
  | [], _ :: _, h => by cases h
  | _ :: _, [], h => by cases h
set_option maxRecDepth 1000000 in
theorem made_b : (match aEx 5000 5 10 0 ls0L [] [] with
  | some (n, ls, hp) => Nat.beq n 8 && decide (ls = lsF) && eqHL hp hpF
  | none => false) = true := by decide +kernel
theorem made : aEx 5000 5 10 0 ls0L [] [] = some (8, lsF, hpF) := by
  have h := made_b
  generalize aEx 5000 5 10 0 ls0L [] [] = z at h ⊢
  split at h
  · obtain ⟨h1, h2, h3⟩ := and3 h
    rw [Nat.eq_of_beq_eq_true h1, of_decide_eq_true h2, eqHL_eq h3]
  · cases h
def posD (t i : Nat) : Nat := posL.findIdx fun d => Nat.beq d.1 t && Nat.beq d.2 i
def m0 (t i k : Nat) : Int := bif Nat.beq t 6 && Nat.beq k 4 then -1 else 0
def M0 : Mm := (m0, fun _ _ _ => 0)
def fvI (t i k : Nat) : Option Vv := match fK t k with
  | 0 => some (.inl (m0 t i k))
  | 1 => some (.inl (m0 t i k))
  | 2 => some (.inr (.inr (0, posD (100 * t + k + 100) i)))
  | _ => some (.inr (.inr (0, posD (oF (100 * t + k) i).1 (oF (100 * t + k) i).2)))
def chD (d : Nat × Nat) : Bool := match hpF[posD d.1 d.2]? with
  | some (.inl (c, fs)) => Nat.blt d.1 10 && Nat.beq c d.1 && decide (fs = (List.range (nF d.1)).map (fvI d.1 d.2))
  | some (.inr (k, n, l)) => !(Nat.blt d.1 10) && Nat.beq k (aK d.1) && Nat.beq n (aL d.1) && Nat.blt k 4 && (bif Nat.beq k 3 then Nat.beq n 12 && decide (l = (List.range 12).map fun j => some (posD 3 j)) else true)
  | none => false
set_option maxRecDepth 1000000 in
theorem ch_b : (dom.all chD) = true := by decide +kernel
set_option maxRecDepth 1000000 in
theorem ps_b : ndL (dom.map fun d => posD d.1 d.2) = true := by decide +kernel
set_option maxRecDepth 1000000 in
theorem hp_l : hpF.length = 317 := by decide +kernel
set_option maxRecDepth 1000000 in
theorem hp_s : sloH hpF = 58765 := by decide +kernel
set_option maxRecDepth 1000000 in
theorem pos_x : posD 9 0 = 0 := by decide +kernel
set_option maxRecDepth 1000000 in
theorem oF_b : (dom.all fun d => bif Nat.blt d.1 10 then (List.range (nF d.1)).all (fun k => Nat.blt (oF (100 * d.1 + k) d.2).1 10) else true) = true := by decide +kernel
theorem M0_ok : okM M0 := by
  intro t i k
  show inR (m0 t i k)
  unfold m0 inR
  cases (Nat.beq t 6 && Nat.beq k 4) <;> simp
theorem m0_arr {t i k : Nat} (h : ¬ t < 10) : m0 t i k = 0 := by
  unfold m0
  have h6 : Nat.beq t 6 = false := by
    cases e : Nat.beq t 6 with
    | true => have := Nat.eq_of_beq_eq_true e; omega
    | false => rfl
  rw [h6]
  rfl
def adF (b : Nat) (am : List Nat) : Nat → Nat → Nat := fun t i => bif Nat.beq t 51 then b else am.getD (posD t i) 0
theorem adF_n {b t i : Nat} {am : List Nat} (h : t ≠ 51) : adF b am t i = am.getD (posD t i) 0 := by
  unfold adF
  cases e : Nat.beq t 51 with
  | true => exact absurd (Nat.eq_of_beq_eq_true e) h
  | false => rfl
theorem dom_n {d : Nat × Nat} (h : d ∈ dom) : d.1 ≠ 51 := by
  intro e
  obtain ⟨t, i⟩ := d
  have e : t = 51 := e
  subst e
  exact dom_51 h
theorem arrV_congr {cI : ClassId} {N : Nat} {f g : Nat → Value} (h : ∀ j, j < N → f j = g j) : arrV cI N f = arrV cI N g := by
  unfold arrV
  congr 2
  funext j
  exact h j.val j.isLt
section WF
variable {D : va_G} {cy : Cy} {b : Nat} {am : List Nat} {H : Heap} {A : Nat → Prop}
theorem fv_eq {t i k : Nat} (h : (t, i) ∈ dom) (ht : t < 10) (hk : k < nF t) : cvo b am (fvI t i k) = fvW (adF b am) M0 t i k := by
  unfold fvI
  split
  · next e => rw [fvW_0 e]; rfl
  · next e => rw [fvW_1 e]; rfl
  · next e =>
    rw [fvW_2 e, adF_n (by omega)]
    rfl
  · next e0 e1 e2 =>
    have g := List.all_eq_true.mp oF_b (t, i) h
    rw [show Nat.blt t 10 = true from Nat.ble_eq_true_of_le ht] at g
    have g2 : (oF (100 * t + k) i).1 < 10 := blt_lt (List.all_eq_true.mp g k (List.mem_range.mpr hk))
    rw [fvW_3 e0 e1 e2, adF_n (by omega)]
    rfl
theorem apartF (hl : am.length = hpF.length) (hD : va_D A (wsH cy b am hpF)) : apart (adF b am) ∧ ∀ q, inW (adF b am) q → A q := by
  have at' : ∀ d ∈ dom, ∃ x, hpF[posD d.1 d.2]? = some x := by
    intro d hd
    have g := List.all_eq_true.mp ch_b d hd
    unfold chD at g
    cases hx : hpF[posD d.1 d.2]? with
    | none => rw [hx] at g; cases g
    | some x => exact ⟨x, rfl⟩
  refine ⟨fun d hd d' hd' he => ?_, fun q hq => ?_⟩
  · rw [adF_n (dom_n hd), adF_n (dom_n hd')] at he
    obtain ⟨x, hx⟩ := at' d hd
    obtain ⟨x', hx'⟩ := at' d' hd'
    have e1 := hD.1 _ _ _ _ (wsH_at (cy := cy) (b := b) hl hx) (wsH_at (cy := cy) (b := b) hl hx') he
    obtain ⟨j, hj⟩ := List.getElem?_of_mem hd
    obtain ⟨j', hj'⟩ := List.getElem?_of_mem hd'
    have e2 : (dom.map fun d => posD d.1 d.2)[j]? = some (posD d.1 d.2) := by rw [List.getElem?_map, hj]; rfl
    have e3 : (dom.map fun d => posD d.1 d.2)[j']? = some (posD d.1 d.2) := by rw [List.getElem?_map, hj', e1]; rfl
    have e4 := ndL_inj ps_b e2 e3
    rw [e4, hj'] at hj
    exact (Option.some.inj hj).symm
  · obtain ⟨d, hd, e⟩ := hq
    rw [e, adF_n (dom_n hd)]
    obtain ⟨x, hx⟩ := at' d hd
    exact hD.2 _ _ (wsH_at (cy := cy) (b := b) hl hx)
theorem worldF (hl : am.length = hpF.length) (hP : va_P D vwCl (wsH cy b am hpF) H) : va_P D vwCl (wsW cy (adF b am) M0) H := by
  intro j q hj
  unfold wsW at hj
  rw [List.getElem?_map] at hj
  cases hd : dom[j]? with
  | none => rw [hd] at hj; cases hj
  | some d =>
    rw [hd] at hj
    cases hj
    have hdm : d ∈ dom := List.mem_of_getElem? hd
    have g := List.all_eq_true.mp ch_b d hdm
    unfold chD at g
    show va_at D vwCl (adF b am d.1 d.2, eW cy (adF b am) M0 d.1 d.2) H
    rw [adF_n (dom_n hdm)]
    cases hx : hpF[posD d.1 d.2]? with
    | none => rw [hx] at g; cases g
    | some x =>
      rw [hx] at g
      have k1 := hP _ _ (wsH_at (cy := cy) (b := b) hl hx)
      rcases x with ⟨c, fs⟩ | ⟨k, n, l⟩
      · have g : (Nat.blt d.1 10 && Nat.beq c d.1 && decide (fs = (List.range (nF d.1)).map (fvI d.1 d.2))) = true := g
        obtain ⟨g1, g2, g3⟩ := and3 g
        have g2 := Nat.eq_of_beq_eq_true g2
        have g3 := of_decide_eq_true g3
        subst g2
        subst g3
        rw [eW_o (blt_lt g1)]
        have e5 : ((List.range (nF d.1)).map (fvI d.1 d.2)).map (cvo b am) = (List.range (nF d.1)).map (fvW (adF b am) M0 d.1 d.2) := by
          rw [List.map_map]
          exact List.map_congr_left fun k hk => fv_eq (t := d.1) (i := d.2) hdm (blt_lt g1) (List.mem_range.mp hk)
        rw [← e5]
        exact k1
      · have g : (!(Nat.blt d.1 10) && Nat.beq k (aK d.1) && Nat.beq n (aL d.1) && Nat.blt k 4 && (bif Nat.beq k 3 then Nat.beq n 12 && decide (l = (List.range 12).map fun j => some (posD 3 j)) else true)) = true := g
        obtain ⟨g1, g2, g3, g4, g5⟩ := and5 g
        have g1 : ¬ d.1 < 10 := by
          intro hlt
          rw [show Nat.blt d.1 10 = true from Nat.ble_eq_true_of_le hlt] at g1
          cases g1
        have g2 := Nat.eq_of_beq_eq_true g2
        have g3 := Nat.eq_of_beq_eq_true g3
        have g4 := blt_lt g4
        subst g3
        have hz : (fun j => Int32.ofInt (M0.1 d.1 d.2 j)) = fun _ => (0 : Int32) := by
          funext j
          show Int32.ofInt (m0 d.1 d.2 j) = 0
          rw [m0_arr g1]
          rfl
        have h4 : k = 0 ∨ k = 1 ∨ k = 2 ∨ k = 3 := by omega
        rcases h4 with e | e | e | e
        · subst e
          rw [eW_0 g2.symm, hz]
          exact k1
        · subst e
          rw [eW_1 g2.symm]
          exact k1
        · subst e
          rw [eW_2 g2.symm, hz]
          exact k1
        · subst e
          rw [eW_3 g2.symm]
          have g5 : (Nat.beq (aL d.1) 12 && decide (l = (List.range 12).map fun j => some (posD 3 j))) = true := g5
          rw [Bool.and_eq_true] at g5
          have e6 := Nat.eq_of_beq_eq_true g5.1
          have e7 := of_decide_eq_true g5.2
          subst e7
          have k2 : H[am.getD (posD d.1 d.2) 0]? = some (vp_cell cy.2.2.2 (aL d.1, .inr (.inr (.inr (.inr fun j => (((List.range 12).map fun j => some (posD 3 j)).getD j none).map fun k => am.getD k 0))))) := k1
          show H[am.getD (posD d.1 d.2) 0]? = some (vp_cell cy.2.2.2 (aL d.1, .inr (.inr (.inr (.inr fun j => some (adF b am 3 j))))))
          rw [k2]
          congr 1
          refine (show arrV cy.2.2.2 (aL d.1) (fun j => va_rf ((((List.range 12).map fun j => some (posD 3 j)).getD j none).map fun k => am.getD k 0)) = arrV cy.2.2.2 (aL d.1) (fun j => va_rf (some (adF b am 3 j))) from arrV_congr fun j hj => ?_)
          show va_rf ((((List.range 12).map fun j => some (posD 3 j)).getD j none).map fun k => am.getD k 0) = va_rf (some (adF b am 3 j))
          rw [e6] at hj
          have e8 : ((List.range 12).map fun j => some (posD 3 j)).getD j none = some (posD 3 j) := by
            rw [List.getD_eq_getElem?_getD, List.getElem?_map, List.getElem?_range hj]
            rfl
          rw [e8, adF_n (by omega)]
          rfl
end WF
